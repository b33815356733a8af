def fX9_slower_K103 (s0 : Int32) (μ : ax_M) : Option (Int32 × ax_M) :=
  (some (s0, μ))
theorem pX9_slower_K103 {x : ax_X} {G : ax_G} (hG : ax_ok G) (s0 : Int32) (μ : ax_M) : ax_Rf mX9_slower 6 x (ax_Z ax_jI x G) G 0 0 103 [none, none, none, none, none] [.int s0] μ (fX9_slower_K103 s0 μ) := by
  unfold fX9_slower_K103
  exact rf_retI rfl dX9_slower_103
def fX9_slower_K82 (l1 : Int32) (l2 : Int32) (l3 : Int32) (l4 : Int32) (μ : ax_M) : Option (Int32 × ax_M) :=
  (Option.bind (ax_wr μ 74 68 ((19 : Int32) + l1) l2) (fun m5 => (if l4 = 0 then (fX9_slower_K103 (-2 : Int32) m5) else (fX9_slower_K103 l3 m5))))
theorem pX9_slower_K82 {x : ax_X} {G : ax_G} (hG : ax_ok G) (l1 : Int32) (l2 : Int32) (l3 : Int32) (l4 : Int32) (μ : ax_M) : ax_Rf mX9_slower 6 x (ax_Z ax_jI x G) G 0 0 82 [some (.ref 57), some (.int l1), some (.int l2), some (.int l3), some (.int l4)] [] μ (fX9_slower_K82 l1 l2 l3 l4 μ) := by
  unfold fX9_slower_K82
  refine rf_aload_n (n := 83) 0 dX9_slower_82 rfl rfl rfl ?_
  refine rf_getR (n := 86) rr_57_28 kk_74 hG dX9_slower_83 flX9_63 ki_9_28 sS_57 kk_57 rfl ?_
  refine rf_bipush (n := 88) (19 : Int32) dX9_slower_86 ccbipush_19 rfl ?_
  refine rf_iload_n (n := 89) 1 dX9_slower_88 rfl rfl rfl ?_
  refine rf_iadd (n := 90) dX9_slower_89 rfl ?_
  refine rf_iload_n (n := 91) 2 dX9_slower_90 rfl rfl rfl ?_
  refine rf_iast (n := 92) hG dX9_slower_91 sS_74 kk_74 rfl (fun m5 => ?_)
  refine rf_iload (n := 94) 4 dX9_slower_92 rfl rfl ?_
  refine rf_if_eq (tg := 101) (n := 97) dX9_slower_94 rfl rfl (fun c6 => ?_) (fun c6 => ?_)
  · refine rf_bipush (n := 103) (-2 : Int32) dX9_slower_101 ccbipush_m2 rfl ?_
    refine rf_mask (lc2 := [none, none, none, none, none]) [false, false, false, false, false] rfl ?_
    exact pX9_slower_K103 hG _ _
  · refine rf_iload_n (n := 98) 3 dX9_slower_97 rfl rfl rfl ?_
    refine rf_goto (tg := 103) dX9_slower_98 rfl ?_
    refine rf_mask (lc2 := [none, none, none, none, none]) [false, false, false, false, false] rfl ?_
    exact pX9_slower_K103 hG _ _
def fX9_slower_K77 (l1 : Int32) (l2 : Int32) (l4 : Int32) (s0 : Int32) (s1 : Int32) (r32 : Int32 → Int32 → ax_M → Option (Int32 × ax_M)) (μ : ax_M) : Option (Int32 × ax_M) :=
  (ax_let (s0 - s1) (fun v11 => (r32 v11 l4 μ)))
theorem pX9_slower_K77 {x : ax_X} {G : ax_G} (hG : ax_ok G) (l1 : Int32) (l2 : Int32) (l4 : Int32) (s0 : Int32) (s1 : Int32) (r32 : Int32 → Int32 → ax_M → Option (Int32 × ax_M)) (hr32 : ∀ (a3 : Int32) (a4 : Int32) (μ : ax_M), ax_Rf mX9_slower 6 x (ax_Z ax_jI x G) G 0 0 32 [some (.ref 57), some (.int l1), some (.int l2), some (.int a3), some (.int a4)] [] μ (r32 a3 a4 μ)) (μ : ax_M) : ax_Rf mX9_slower 6 x (ax_Z ax_jI x G) G 0 0 77 [some (.ref 57), some (.int l1), some (.int l2), none, some (.int l4)] [.int s1, .int s0] μ (fX9_slower_K77 l1 l2 l4 s0 s1 r32 μ) := by
  unfold fX9_slower_K77
  refine rf_isub (n := 78) dX9_slower_77 rfl ?_
  refine rf_letI (fun v11 => ?_)
  refine rf_istore_n (lc2 := [some (.ref 57), some (.int l1), some (.int l2), some (.int v11), some (.int l4)]) (n := 79) 3 dX9_slower_78 rfl rfl (Nat.le_of_ble_eq_true rfl) rfl rfl ?_
  refine rf_goto (tg := 32) dX9_slower_79 rfl ?_
  exact hr32 _ _ _
def fX9_slower_B32 (l1 : Int32) (l2 : Int32) (r32 : Int32 → Int32 → ax_M → Option (Int32 × ax_M)) (l3 : Int32) (l4 : Int32) (μ : ax_M) : Option (Int32 × ax_M) :=
  (if l4 = 0 then (Option.bind (ax_rd μ 74 68 ((43 : Int32) + l1)) (fun v7 => (if l3 < v7 then (fX9_slower_K82 l1 l2 l3 l4 μ) else (Option.bind (ax_wr μ 74 68 ((19 : Int32) + l1) l3) (fun m8 => (ax_bd (fX9_isGood m8) (fun v9 m10 => (if v9 = 0 then (fX9_slower_K77 l1 l2 v9 l3 (1 : Int32) r32 m10) else (fX9_slower_K77 l1 l2 v9 l3 (0 : Int32) r32 m10))))))))) else (fX9_slower_K82 l1 l2 l3 l4 μ))
theorem pX9_slower_B32 {x : ax_X} {G : ax_G} (hG : ax_ok G) (l1 : Int32) (l2 : Int32) (r32 : Int32 → Int32 → ax_M → Option (Int32 × ax_M)) (hr32 : ∀ (a3 : Int32) (a4 : Int32) (μ : ax_M), ax_Rf mX9_slower 6 x (ax_Z ax_jI x G) G 0 0 32 [some (.ref 57), some (.int l1), some (.int l2), some (.int a3), some (.int a4)] [] μ (r32 a3 a4 μ)) (l3 : Int32) (l4 : Int32) (μ : ax_M) : ax_Rf mX9_slower 6 x (ax_Z ax_jI x G) G 0 0 32 [some (.ref 57), some (.int l1), some (.int l2), some (.int l3), some (.int l4)] [] μ (fX9_slower_B32 l1 l2 r32 l3 l4 μ) := by
  unfold fX9_slower_B32
  refine rf_iload (n := 34) 4 dX9_slower_32 rfl rfl ?_
  refine rf_if_ne (tg := 82) (n := 37) dX9_slower_34 rfl rfl (fun c14 => ?_) (fun c14 => ?_)
  · exact pX9_slower_K82 hG _ _ _ _ _
  · refine rf_iload_n (n := 38) 3 dX9_slower_37 rfl rfl rfl ?_
    refine rf_aload_n (n := 39) 0 dX9_slower_38 rfl rfl rfl ?_
    refine rf_getR (n := 42) rr_57_28 kk_74 hG dX9_slower_39 flX9_63 ki_9_28 sS_57 kk_57 rfl ?_
    refine rf_bipush (n := 44) (43 : Int32) dX9_slower_42 ccbipush_43 rfl ?_
    refine rf_iload_n (n := 45) 1 dX9_slower_44 rfl rfl rfl ?_
    refine rf_iadd (n := 46) dX9_slower_45 rfl ?_
    refine rf_iald (n := 47) hG dX9_slower_46 sS_74 kk_74 rfl (fun v7 => ?_)
    refine rf_icmp_lt (tg := 82) (n := 50) dX9_slower_47 rfl rfl (fun c13 => ?_) (fun c13 => ?_)
    · exact pX9_slower_K82 hG _ _ _ _ _
    · refine rf_aload_n (n := 51) 0 dX9_slower_50 rfl rfl rfl ?_
      refine rf_getR (n := 54) rr_57_28 kk_74 hG dX9_slower_51 flX9_63 ki_9_28 sS_57 kk_57 rfl ?_
      refine rf_bipush (n := 56) (19 : Int32) dX9_slower_54 ccbipush_19 rfl ?_
      refine rf_iload_n (n := 57) 1 dX9_slower_56 rfl rfl rfl ?_
      refine rf_iadd (n := 58) dX9_slower_57 rfl ?_
      refine rf_iload_n (n := 59) 3 dX9_slower_58 rfl rfl rfl ?_
      refine rf_iast (n := 60) hG dX9_slower_59 sS_74 kk_74 rfl (fun m8 => ?_)
      refine rf_aload_n (n := 61) 0 dX9_slower_60 rfl rfl rfl ?_
      refine rf_cV0I (n := 64) hG (okX9_isGood _) lVX9_328 hhX9_isGood kk_57 sS_57 ⟨_, rfl, rfl⟩ dX9_slower_61 rfl (Nat.le_of_ble_eq_true rfl) (Nat.le_of_ble_eq_true rfl) (fun v9 m10 => ?_)
      refine rf_istore (lc2 := [some (.ref 57), some (.int l1), some (.int l2), some (.int l3), some (.int v9)]) (n := 66) 4 dX9_slower_64 rfl (Nat.le_of_ble_eq_true rfl) rfl rfl ?_
      refine rf_iload_n (n := 67) 3 dX9_slower_66 rfl rfl rfl ?_
      refine rf_iload (n := 69) 4 dX9_slower_67 rfl rfl ?_
      refine rf_if_eq (tg := 76) (n := 72) dX9_slower_69 rfl rfl (fun c12 => ?_) (fun c12 => ?_)
      · refine rf_iconst (n := 77) (1 : Int32) dX9_slower_76 cciconst_1 rfl ?_
        refine rf_mask (lc2 := [some (.ref 57), some (.int l1), some (.int l2), none, some (.int v9)]) [true, true, true, false, true] rfl ?_
        exact pX9_slower_K77 hG _ _ _ _ _ r32 hr32 _
      · refine rf_iconst (n := 73) (0 : Int32) dX9_slower_72 cciconst_0 rfl ?_
        refine rf_goto (tg := 77) dX9_slower_73 rfl ?_
        refine rf_mask (lc2 := [some (.ref 57), some (.int l1), some (.int l2), none, some (.int v9)]) [true, true, true, false, true] rfl ?_
        exact pX9_slower_K77 hG _ _ _ _ _ r32 hr32 _
theorem pX9_slower_L32 {x : ax_X} {G : ax_G} (hG : ax_ok G) (l1 : Int32) (l2 : Int32) (n : Nat) (a3 : Int32) (a4 : Int32) (μ : ax_M) : ax_Rf mX9_slower 6 x (ax_Z ax_jI x G) G 0 0 32 [some (.ref 57), some (.int l1), some (.int l2), some (.int a3), some (.int a4)] [] μ (ax_lp2 (fX9_slower_B32 l1 l2) n a3 a4 μ) :=
  rf_lp2 (P := fun a3 a4 μ t => ax_Rf mX9_slower 6 x (ax_Z ax_jI x G) G 0 0 32 [some (.ref 57), some (.int l1), some (.int l2), some (.int a3), some (.int a4)] [] μ t) (fun _ _ _ => rf_none) (fun rc hrc a3 a4 μ => pX9_slower_B32 hG l1 l2 rc hrc a3 a4 μ) n a3 a4 μ
def fX9_slower (p1 : Int32) (μ : ax_M) : Option (Int32 × ax_M) :=
  (ax_let (ax_wi μ 57 0 (0 : Int32)) (fun m1 => (ax_bd (fX9_isPath p1 m1) (fun v2 m3 => (if v2 = 0 then (some ((-1 : Int32), m3)) else (Option.bind (ax_rd m3 74 68 ((19 : Int32) + p1)) (fun v4 => (ax_lp2 (fX9_slower_B32 p1 v4) ax_FU (999 : Int32) (0 : Int32) m3))))))))
theorem okX9_slower (p1 : Int32) (μ : ax_M) : ax_Ok mX9_slower 6 ax_jI [.ref 57, .int p1] μ (fX9_slower p1 μ) := by
  refine ax_start (lc := [some (.ref 57), some (.int p1), none, none, none]) 3 (by decide +kernel) rfl (Nat.le_of_ble_eq_true rfl) (fun x G hG => ?_)
  unfold fX9_slower
  refine rf_aload_n (n := 1) 0 dX9_slower_0 rfl rfl rfl ?_
  refine rf_iconst (n := 2) (0 : Int32) dX9_slower_1 cciconst_0 rfl ?_
  refine rf_pfI (n := 5) hG rfl dX9_slower_2 flX9_103 ki_9_0 nf_9_0 sS_57 kk_57 rfl (fun m1 => ?_)
  refine rf_aload_n (n := 6) 0 dX9_slower_5 rfl rfl rfl ?_
  refine rf_iload_n (n := 7) 1 dX9_slower_6 rfl rfl rfl ?_
  refine rf_cV1I (n := 10) hG (okX9_isPath _ _) lVX9_265 hhX9_isPath kk_57 sS_57 ⟨_, rfl, rfl⟩ dX9_slower_7 rfl (Nat.le_of_ble_eq_true rfl) (Nat.le_of_ble_eq_true rfl) (fun v2 m3 => ?_)
  refine rf_if_ne (tg := 15) (n := 13) dX9_slower_10 rfl rfl (fun c15 => ?_) (fun c15 => ?_)
  · refine rf_aload_n (n := 16) 0 dX9_slower_15 rfl rfl rfl ?_
    refine rf_getR (n := 19) rr_57_28 kk_74 hG dX9_slower_16 flX9_63 ki_9_28 sS_57 kk_57 rfl ?_
    refine rf_bipush (n := 21) (19 : Int32) dX9_slower_19 ccbipush_19 rfl ?_
    refine rf_iload_n (n := 22) 1 dX9_slower_21 rfl rfl rfl ?_
    refine rf_iadd (n := 23) dX9_slower_22 rfl ?_
    refine rf_iald (n := 24) hG dX9_slower_23 sS_74 kk_74 rfl (fun v4 => ?_)
    refine rf_istore_n (lc2 := [some (.ref 57), some (.int p1), some (.int v4), none, none]) (n := 25) 2 dX9_slower_24 rfl rfl (Nat.le_of_ble_eq_true rfl) rfl rfl ?_
    refine rf_sipush (n := 28) (999 : Int32) dX9_slower_25 ccsipush_999 rfl ?_
    refine rf_istore_n (lc2 := [some (.ref 57), some (.int p1), some (.int v4), some (.int (999 : Int32)), none]) (n := 29) 3 dX9_slower_28 rfl rfl (Nat.le_of_ble_eq_true rfl) rfl rfl ?_
    refine rf_iconst (n := 30) (0 : Int32) dX9_slower_29 cciconst_0 rfl ?_
    refine rf_istore (lc2 := [some (.ref 57), some (.int p1), some (.int v4), some (.int (999 : Int32)), some (.int (0 : Int32))]) (n := 32) 4 dX9_slower_30 rfl (Nat.le_of_ble_eq_true rfl) rfl rfl ?_
    exact pX9_slower_L32 hG _ _ _ _ _ _
  · refine rf_iconst (n := 14) (-1 : Int32) dX9_slower_13 cciconst_m1 rfl ?_
    exact rf_retI rfl dX9_slower_14
def fJ7_fill_53178_5_B5 (l1 : Int32) (l3 : Int32) (r5 : Int32 → ax_M → Option (Unit × ax_M)) (l2 : Int32) (μ : ax_M) : Option (Unit × ax_M) :=
  (if l3 ≤ l2 then (some ((), μ)) else (Option.bind (ax_wr μ 4 4 l2 l1) (fun m1 => (r5 (l2 + (1 : Int32)) m1))))
theorem pJ7_fill_53178_5_B5 {x : ax_X} {G : ax_G} (hG : ax_ok G) (l1 : Int32) (l3 : Int32) (r5 : Int32 → ax_M → Option (Unit × ax_M)) (hr5 : ∀ (a2 : Int32) (μ : ax_M), ax_Rf mJ7_fill_53178 0 x (ax_Z ax_jV x G) G 0 0 5 [some (.ref 4), some (.int l1), some (.int a2), some (.int l3)] [] μ (r5 a2 μ)) (l2 : Int32) (μ : ax_M) : ax_Rf mJ7_fill_53178 0 x (ax_Z ax_jV x G) G 0 0 5 [some (.ref 4), some (.int l1), some (.int l2), some (.int l3)] [] μ (fJ7_fill_53178_5_B5 l1 l3 r5 l2 μ) := by
  unfold fJ7_fill_53178_5_B5
  refine rf_iload_n (n := 6) 2 dJ7_fill_53178_5 rfl rfl rfl ?_
  refine rf_iload_n (n := 7) 3 dJ7_fill_53178_6 rfl rfl rfl ?_
  refine rf_icmp_ge (tg := 20) (n := 10) dJ7_fill_53178_7 rfl rfl (fun c2 => ?_) (fun c2 => ?_)
  · exact rf_retV rfl dJ7_fill_53178_20
  · refine rf_aload_n (n := 11) 0 dJ7_fill_53178_10 rfl rfl rfl ?_
    refine rf_iload_n (n := 12) 2 dJ7_fill_53178_11 rfl rfl rfl ?_
    refine rf_iload_n (n := 13) 1 dJ7_fill_53178_12 rfl rfl rfl ?_
    refine rf_iast (n := 14) hG dJ7_fill_53178_13 sS_4 kk_4 rfl (fun m1 => ?_)
    refine rf_iinc (lc2 := [some (.ref 4), some (.int l1), some (.int (l2 + (1 : Int32))), some (.int l3)]) (n := 17) (w := (1 : Int32)) 2 dJ7_fill_53178_14 rfl rfl rfl (Nat.le_of_ble_eq_true rfl) rfl rfl ?_
    refine rf_goto (tg := 5) dJ7_fill_53178_17 rfl ?_
    exact hr5 _ _
theorem pJ7_fill_53178_5_L5 {x : ax_X} {G : ax_G} (hG : ax_ok G) (l1 : Int32) (l3 : Int32) (n : Nat) (a2 : Int32) (μ : ax_M) : ax_Rf mJ7_fill_53178 0 x (ax_Z ax_jV x G) G 0 0 5 [some (.ref 4), some (.int l1), some (.int a2), some (.int l3)] [] μ (ax_lp1 (fJ7_fill_53178_5_B5 l1 l3) n a2 μ) :=
  rf_lp1 (P := fun a2 μ t => ax_Rf mJ7_fill_53178 0 x (ax_Z ax_jV x G) G 0 0 5 [some (.ref 4), some (.int l1), some (.int a2), some (.int l3)] [] μ t) (fun _ _ => rf_none) (fun rc hrc a2 μ => pJ7_fill_53178_5_B5 hG l1 l3 rc hrc a2 μ) n a2 μ
def fJ7_fill_53178_5 (p1 : Int32) (μ : ax_M) : Option (Unit × ax_M) :=
  (ax_lp1 (fJ7_fill_53178_5_B5 p1 (4 : Int32)) ax_FU (0 : Int32) μ)
theorem okJ7_fill_53178_5 (p1 : Int32) (μ : ax_M) : ax_Ok mJ7_fill_53178 0 ax_jV [.ref 4, .int p1] μ (fJ7_fill_53178_5 p1 μ) := by
  refine ax_start (lc := [some (.ref 4), some (.int p1), none, none]) 2 (by decide +kernel) rfl (Nat.le_of_ble_eq_true rfl) (fun x G hG => ?_)
  unfold fJ7_fill_53178_5
  refine rf_iconst (n := 1) (0 : Int32) dJ7_fill_53178_0 cciconst_0 rfl ?_
  refine rf_istore_n (lc2 := [some (.ref 4), some (.int p1), some (.int (0 : Int32)), none]) (n := 2) 2 dJ7_fill_53178_1 rfl rfl (Nat.le_of_ble_eq_true rfl) rfl rfl ?_
  refine rf_aload_n (n := 3) 0 dJ7_fill_53178_2 rfl rfl rfl ?_
  refine rf_alen1 (n := 4) (v := (4 : Int32)) hG dJ7_fill_53178_3 sS_4 rfl kk_4 rfl ?_
  refine rf_istore_n (lc2 := [some (.ref 4), some (.int p1), some (.int (0 : Int32)), some (.int (4 : Int32))]) (n := 5) 3 dJ7_fill_53178_4 rfl rfl (Nat.le_of_ble_eq_true rfl) rfl rfl ?_
  exact pJ7_fill_53178_5_L5 hG _ _ _ _ _
def fX4_periodByFullShifts (μ : ax_M) : Option (Int32 × ax_M) :=
  (Option.bind (ax_cp μ 4 4 (0 : Int32) 48 4 (0 : Int32) (4 : Int32)) (fun m1 => (ax_bd (fJ7_fill_53178_5 (0 : Int32) m1) (fun _ m3 => (ax_bd (fX6_load m3) (fun _ m5 => (ax_bd (fX6_firstGood (1 : Int32) (9999 : Int32) m5) (fun v6 m7 => (Option.bind (ax_cp m7 48 4 (0 : Int32) 4 4 (0 : Int32) (4 : Int32)) (fun m8 => (some (v6, m8))))))))))))
theorem okX4_periodByFullShifts (μ : ax_M) : ax_Ok mX4_periodByFullShifts 5 ax_jI [.ref 46] μ (fX4_periodByFullShifts μ) := by
  refine ax_start (lc := [some (.ref 46), none]) 1 (by decide +kernel) rfl (Nat.le_of_ble_eq_true rfl) (fun x G hG => ?_)
  unfold fX4_periodByFullShifts
  refine rf_aload_n (n := 1) 0 dX4_periodByFullShifts_0 rfl rfl rfl ?_
  refine rf_getR (n := 4) rr_46_0 kk_2 hG dX4_periodByFullShifts_1 flX4_18 ki_4_0 sS_46 kk_46 rfl ?_
  refine rf_getR (n := 7) rr_2_1 kk_4 hG dX4_periodByFullShifts_4 flX4_80 ki_1_1 sS_2 kk_2 rfl ?_
  refine rf_iconst (n := 8) (0 : Int32) dX4_periodByFullShifts_7 cciconst_0 rfl ?_
  refine rf_aload_n (n := 9) 0 dX4_periodByFullShifts_8 rfl rfl rfl ?_
  refine rf_getR (n := 12) rr_46_4 kk_48 hG dX4_periodByFullShifts_9 flX4_15 ki_4_4 sS_46 kk_46 rfl ?_
  refine rf_iconst (n := 13) (0 : Int32) dX4_periodByFullShifts_12 cciconst_0 rfl ?_
  refine rf_iconst (n := 14) (4 : Int32) dX4_periodByFullShifts_13 cciconst_4 rfl ?_
  refine rf_copy (n := 17) hG dX4_periodByFullShifts_14 cpX4_83 ax_cpw (Nat.le_of_ble_eq_true rfl) (Nat.le_of_ble_eq_true rfl) sS_4 sS_48 kk_4 kk_48 rfl (fun m1 => ?_)
  refine rf_aload_n (n := 18) 0 dX4_periodByFullShifts_17 rfl rfl rfl ?_
  refine rf_getR (n := 21) rr_46_0 kk_2 hG dX4_periodByFullShifts_18 flX4_18 ki_4_0 sS_46 kk_46 rfl ?_
  refine rf_getR (n := 24) rr_2_1 kk_4 hG dX4_periodByFullShifts_21 flX4_80 ki_1_1 sS_2 kk_2 rfl ?_
  refine rf_iconst (n := 25) (0 : Int32) dX4_periodByFullShifts_24 cciconst_0 rfl ?_
  refine rf_cS2V (n := 28) hG (okJ7_fill_53178_5 _ _) lSX4_95 hhJ7_fill_53178 dX4_periodByFullShifts_25 rfl (Nat.le_of_ble_eq_true rfl) (Nat.le_of_ble_eq_true rfl) (fun _ m3 => ?_)
  refine rf_aload_n (n := 29) 0 dX4_periodByFullShifts_28 rfl rfl rfl ?_
  refine rf_getR (n := 32) rr_46_2 kk_49 hG dX4_periodByFullShifts_29 flX4_31 ki_4_2 sS_46 kk_46 rfl ?_
  refine rf_cV0V (n := 35) hG (okX6_load _) lVX4_35 hhX6_load kk_49 sS_49 ⟨_, rfl, rfl⟩ dX4_periodByFullShifts_32 rfl (Nat.le_of_ble_eq_true rfl) (Nat.le_of_ble_eq_true rfl) (fun _ m5 => ?_)
  refine rf_aload_n (n := 36) 0 dX4_periodByFullShifts_35 rfl rfl rfl ?_
  refine rf_getR (n := 39) rr_46_2 kk_49 hG dX4_periodByFullShifts_36 flX4_31 ki_4_2 sS_46 kk_46 rfl ?_
  refine rf_iconst (n := 40) (1 : Int32) dX4_periodByFullShifts_39 cciconst_1 rfl ?_
  refine rf_sipush (n := 43) (9999 : Int32) dX4_periodByFullShifts_40 ccsipush_9999 rfl ?_
  refine rf_cV2I (n := 46) hG (okX6_firstGood _ _ _) lVX4_38 hhX6_firstGood kk_49 sS_49 ⟨_, rfl, rfl⟩ dX4_periodByFullShifts_43 rfl (Nat.le_of_ble_eq_true rfl) (Nat.le_of_ble_eq_true rfl) (fun v6 m7 => ?_)
  refine rf_istore_n (lc2 := [some (.ref 46), some (.int v6)]) (n := 47) 1 dX4_periodByFullShifts_46 rfl rfl (Nat.le_of_ble_eq_true rfl) rfl rfl ?_
  refine rf_aload_n (n := 48) 0 dX4_periodByFullShifts_47 rfl rfl rfl ?_
  refine rf_getR (n := 51) rr_46_4 kk_48 hG dX4_periodByFullShifts_48 flX4_15 ki_4_4 sS_46 kk_46 rfl ?_
  refine rf_iconst (n := 52) (0 : Int32) dX4_periodByFullShifts_51 cciconst_0 rfl ?_
  refine rf_aload_n (n := 53) 0 dX4_periodByFullShifts_52 rfl rfl rfl ?_
  refine rf_getR (n := 56) rr_46_0 kk_2 hG dX4_periodByFullShifts_53 flX4_18 ki_4_0 sS_46 kk_46 rfl ?_
  refine rf_getR (n := 59) rr_2_1 kk_4 hG dX4_periodByFullShifts_56 flX4_80 ki_1_1 sS_2 kk_2 rfl ?_
  refine rf_iconst (n := 60) (0 : Int32) dX4_periodByFullShifts_59 cciconst_0 rfl ?_
  refine rf_iconst (n := 61) (4 : Int32) dX4_periodByFullShifts_60 cciconst_4 rfl ?_
  refine rf_copy (n := 64) hG dX4_periodByFullShifts_61 cpX4_83 ax_cpw (Nat.le_of_ble_eq_true rfl) (Nat.le_of_ble_eq_true rfl) sS_48 sS_4 kk_48 kk_4 rfl (fun m8 => ?_)
  refine rf_iload_n (n := 65) 1 dX4_periodByFullShifts_64 rfl rfl rfl ?_
  exact rf_retI rfl dX4_periodByFullShifts_65
def fX4_isGoodAt (p1 : Int32) (μ : ax_M) : Option (Int32 × ax_M) :=
  (ax_bd (fX6_beyond p1 μ) (fun v1 m2 => (if v1 ≤ 0 then (ax_bd (fX6_load m2) (fun _ m4 => (ax_bd (fX6_holds p1 m4) (fun v5 m6 => (some (vp_nar .boolean v5, m6)))))) else (some ((0 : Int32), m2)))))
theorem okX4_isGoodAt (p1 : Int32) (μ : ax_M) : ax_Ok mX4_isGoodAt 4 ax_jI [.ref 46, .int p1] μ (fX4_isGoodAt p1 μ) := by
  refine ax_start (lc := [some (.ref 46), some (.int p1)]) 0 (by decide +kernel) rfl (Nat.le_of_ble_eq_true rfl) (fun x G hG => ?_)
  unfold fX4_isGoodAt
  refine rf_aload_n (n := 1) 0 dX4_isGoodAt_0 rfl rfl rfl ?_
  refine rf_getR (n := 4) rr_46_2 kk_49 hG dX4_isGoodAt_1 flX4_31 ki_4_2 sS_46 kk_46 rfl ?_
  refine rf_iload_n (n := 5) 1 dX4_isGoodAt_4 rfl rfl rfl ?_
  refine rf_cV1I (n := 8) hG (okX6_beyond _ _) lVX4_61 hhX6_beyond kk_49 sS_49 ⟨_, rfl, rfl⟩ dX4_isGoodAt_5 rfl (Nat.le_of_ble_eq_true rfl) (Nat.le_of_ble_eq_true rfl) (fun v1 m2 => ?_)
  refine rf_if_le (tg := 13) (n := 11) dX4_isGoodAt_8 rfl rfl (fun c7 => ?_) (fun c7 => ?_)
  · refine rf_aload_n (n := 14) 0 dX4_isGoodAt_13 rfl rfl rfl ?_
    refine rf_getR (n := 17) rr_46_2 kk_49 hG dX4_isGoodAt_14 flX4_31 ki_4_2 sS_46 kk_46 rfl ?_
    refine rf_cV0V (n := 20) hG (okX6_load _) lVX4_35 hhX6_load kk_49 sS_49 ⟨_, rfl, rfl⟩ dX4_isGoodAt_17 rfl (Nat.le_of_ble_eq_true rfl) (Nat.le_of_ble_eq_true rfl) (fun _ m4 => ?_)
    refine rf_aload_n (n := 21) 0 dX4_isGoodAt_20 rfl rfl rfl ?_
    refine rf_getR (n := 24) rr_46_2 kk_49 hG dX4_isGoodAt_21 flX4_31 ki_4_2 sS_46 kk_46 rfl ?_
    refine rf_iload_n (n := 25) 1 dX4_isGoodAt_24 rfl rfl rfl ?_
    refine rf_cV1I (n := 28) hG (okX6_holds _ _) lVX4_54 hhX6_holds kk_49 sS_49 ⟨_, rfl, rfl⟩ dX4_isGoodAt_25 rfl (Nat.le_of_ble_eq_true rfl) (Nat.le_of_ble_eq_true rfl) (fun v5 m6 => ?_)
    exact rf_retZ rfl dX4_isGoodAt_28
  · refine rf_iconst (n := 12) (0 : Int32) dX4_isGoodAt_11 cciconst_0 rfl ?_
    exact rf_retB rfl (Or.inl rfl) dX4_isGoodAt_12
def fX4_bestOpening_K144 (l5 : Int32) (μ : ax_M) : Option (Int32 × ax_M) :=
  (Option.bind (ax_cp μ 48 4 (0 : Int32) 4 4 (0 : Int32) (4 : Int32)) (fun m6 => (some (l5, m6))))
theorem pX4_bestOpening_K144 {x : ax_X} {G : ax_G} (hG : ax_ok G) (l5 : Int32) (μ : ax_M) : ax_Rf mX4_bestOpening 6 x (ax_Z ax_jI x G) G 0 0 144 [some (.ref 46), none, none, none, none, some (.int l5), none, none] [] μ (fX4_bestOpening_K144 l5 μ) := by
  unfold fX4_bestOpening_K144
  refine rf_aload_n (n := 145) 0 dX4_bestOpening_144 rfl rfl rfl ?_
  refine rf_getR (n := 148) rr_46_4 kk_48 hG dX4_bestOpening_145 flX4_15 ki_4_4 sS_46 kk_46 rfl ?_
  refine rf_iconst (n := 149) (0 : Int32) dX4_bestOpening_148 cciconst_0 rfl ?_
  refine rf_aload_n (n := 150) 0 dX4_bestOpening_149 rfl rfl rfl ?_
  refine rf_getR (n := 153) rr_46_0 kk_2 hG dX4_bestOpening_150 flX4_18 ki_4_0 sS_46 kk_46 rfl ?_
  refine rf_getR (n := 156) rr_2_1 kk_4 hG dX4_bestOpening_153 flX4_80 ki_1_1 sS_2 kk_2 rfl ?_
  refine rf_iconst (n := 157) (0 : Int32) dX4_bestOpening_156 cciconst_0 rfl ?_
  refine rf_iconst (n := 158) (4 : Int32) dX4_bestOpening_157 cciconst_4 rfl ?_
  refine rf_copy (n := 161) hG dX4_bestOpening_158 cpX4_83 ax_cpw (Nat.le_of_ble_eq_true rfl) (Nat.le_of_ble_eq_true rfl) sS_48 sS_4 kk_48 kk_4 rfl (fun m6 => ?_)
  refine rf_iload (n := 163) 5 dX4_bestOpening_161 rfl rfl ?_
  exact rf_retI rfl dX4_bestOpening_163
def fX4_bestOpening_K138 (l1 : Int32) (l2 : Int32) (l3 : Int32) (l4 : Int32) (l5 : Int32) (l6 : Int32) (l7 : Int32) (r62 : Int32 → Int32 → Int32 → ax_M → Option (Int32 × ax_M)) (μ : ax_M) : Option (Int32 × ax_M) :=
  (r62 l5 l6 (l7 + (1 : Int32)) μ)
theorem pX4_bestOpening_K138 {x : ax_X} {G : ax_G} (hG : ax_ok G) (l1 : Int32) (l2 : Int32) (l3 : Int32) (l4 : Int32) (l5 : Int32) (l6 : Int32) (l7 : Int32) (r62 : Int32 → Int32 → Int32 → ax_M → Option (Int32 × ax_M)) (hr62 : ∀ (a5 : Int32) (a6 : Int32) (a7 : Int32) (μ : ax_M), ax_Rf mX4_bestOpening 6 x (ax_Z ax_jI x G) G 0 0 62 [some (.ref 46), some (.int l1), some (.int l2), some (.int l3), some (.int l4), some (.int a5), some (.int a6), some (.int a7)] [] μ (r62 a5 a6 a7 μ)) (μ : ax_M) : ax_Rf mX4_bestOpening 6 x (ax_Z ax_jI x G) G 0 0 138 [some (.ref 46), some (.int l1), some (.int l2), some (.int l3), some (.int l4), some (.int l5), some (.int l6), some (.int l7)] [] μ (fX4_bestOpening_K138 l1 l2 l3 l4 l5 l6 l7 r62 μ) := by
  unfold fX4_bestOpening_K138
  refine rf_iinc (lc2 := [some (.ref 46), some (.int l1), some (.int l2), some (.int l3), some (.int l4), some (.int l5), some (.int l6), some (.int (l7 + (1 : Int32)))]) (n := 141) (w := (1 : Int32)) 7 dX4_bestOpening_138 rfl rfl rfl (Nat.le_of_ble_eq_true rfl) rfl rfl ?_
  refine rf_goto (tg := 62) dX4_bestOpening_141 rfl ?_
  exact hr62 _ _ _ _
def fX4_bestOpening_K111 (l1 : Int32) (l2 : Int32) (l3 : Int32) (l4 : Int32) (l5 : Int32) (l6 : Int32) (l7 : Int32) (r62 : Int32 → Int32 → Int32 → ax_M → Option (Int32 × ax_M)) (μ : ax_M) : Option (Int32 × ax_M) :=
  (ax_bd (fX4_isGoodAt l6 μ) (fun v9 m10 => (if v9 = 0 then (fX4_bestOpening_K138 l1 l2 l3 l4 l5 l6 l7 r62 m10) else (ax_bd (fX6_firstGood l3 l6 m10) (fun v11 m12 => (ax_let (v11 - (1 : Int32)) (fun v13 => (fX4_bestOpening_K138 l1 l2 l3 l4 l7 v13 l7 r62 m12))))))))
theorem pX4_bestOpening_K111 {x : ax_X} {G : ax_G} (hG : ax_ok G) (l1 : Int32) (l2 : Int32) (l3 : Int32) (l4 : Int32) (l5 : Int32) (l6 : Int32) (l7 : Int32) (r62 : Int32 → Int32 → Int32 → ax_M → Option (Int32 × ax_M)) (hr62 : ∀ (a5 : Int32) (a6 : Int32) (a7 : Int32) (μ : ax_M), ax_Rf mX4_bestOpening 6 x (ax_Z ax_jI x G) G 0 0 62 [some (.ref 46), some (.int l1), some (.int l2), some (.int l3), some (.int l4), some (.int a5), some (.int a6), some (.int a7)] [] μ (r62 a5 a6 a7 μ)) (μ : ax_M) : ax_Rf mX4_bestOpening 6 x (ax_Z ax_jI x G) G 0 0 111 [some (.ref 46), some (.int l1), some (.int l2), some (.int l3), some (.int l4), some (.int l5), some (.int l6), some (.int l7)] [] μ (fX4_bestOpening_K111 l1 l2 l3 l4 l5 l6 l7 r62 μ) := by
  unfold fX4_bestOpening_K111
  refine rf_aload_n (n := 112) 0 dX4_bestOpening_111 rfl rfl rfl ?_
  refine rf_iload (n := 114) 6 dX4_bestOpening_112 rfl rfl ?_
  refine rf_cV1I (n := 117) hG (okX4_isGoodAt _ _) lVX4_92 hhX4_isGoodAt kk_46 sS_46 ⟨_, rfl, rfl⟩ dX4_bestOpening_114 rfl (Nat.le_of_ble_eq_true rfl) (Nat.le_of_ble_eq_true rfl) (fun v9 m10 => ?_)
  refine rf_if_eq (tg := 138) (n := 120) dX4_bestOpening_117 rfl rfl (fun c14 => ?_) (fun c14 => ?_)
  · exact pX4_bestOpening_K138 hG _ _ _ _ _ _ _ r62 hr62 _
  · refine rf_iload (n := 122) 7 dX4_bestOpening_120 rfl rfl ?_
    refine rf_istore (lc2 := [some (.ref 46), some (.int l1), some (.int l2), some (.int l3), some (.int l4), some (.int l7), some (.int l6), some (.int l7)]) (n := 124) 5 dX4_bestOpening_122 rfl (Nat.le_of_ble_eq_true rfl) rfl rfl ?_
    refine rf_aload_n (n := 125) 0 dX4_bestOpening_124 rfl rfl rfl ?_
    refine rf_getR (n := 128) rr_46_2 kk_49 hG dX4_bestOpening_125 flX4_31 ki_4_2 sS_46 kk_46 rfl ?_
    refine rf_iload_n (n := 129) 3 dX4_bestOpening_128 rfl rfl rfl ?_
    refine rf_iload (n := 131) 6 dX4_bestOpening_129 rfl rfl ?_
    refine rf_cV2I (n := 134) hG (okX6_firstGood _ _ _) lVX4_38 hhX6_firstGood kk_49 sS_49 ⟨_, rfl, rfl⟩ dX4_bestOpening_131 rfl (Nat.le_of_ble_eq_true rfl) (Nat.le_of_ble_eq_true rfl) (fun v11 m12 => ?_)
    refine rf_iconst (n := 135) (1 : Int32) dX4_bestOpening_134 cciconst_1 rfl ?_
    refine rf_isub (n := 136) dX4_bestOpening_135 rfl ?_
    refine rf_letI (fun v13 => ?_)
    refine rf_istore (lc2 := [some (.ref 46), some (.int l1), some (.int l2), some (.int l3), some (.int l4), some (.int l7), some (.int v13), some (.int l7)]) (n := 138) 6 dX4_bestOpening_136 rfl (Nat.le_of_ble_eq_true rfl) rfl rfl ?_
    exact pX4_bestOpening_K138 hG _ _ _ _ _ _ _ r62 hr62 _
def fX4_bestOpening_B62 (l1 : Int32) (l2 : Int32) (l3 : Int32) (l4 : Int32) (r62 : Int32 → Int32 → Int32 → ax_M → Option (Int32 × ax_M)) (l5 : Int32) (l6 : Int32) (l7 : Int32) (μ : ax_M) : Option (Int32 × ax_M) :=
  (if ((64 : Int32) * l4) ≤ l7 then (fX4_bestOpening_K144 l5 μ) else (if l6 < l3 then (fX4_bestOpening_K144 l5 μ) else (Option.bind (ax_dv l7 l4) (fun v7 => (Option.bind (ax_wr μ 4 4 l1 v7) (fun m8 => (if l2 = (-1 : Int32) then (fX4_bestOpening_K111 l1 l2 l3 l4 l5 l6 l7 r62 m8) else (Option.bind (ax_rm l7 l4) (fun v15 => (Option.bind (ax_wr m8 4 4 l2 v15) (fun m16 => (fX4_bestOpening_K111 l1 l2 l3 l4 l5 l6 l7 r62 m16))))))))))))
theorem pX4_bestOpening_B62 {x : ax_X} {G : ax_G} (hG : ax_ok G) (l1 : Int32) (l2 : Int32) (l3 : Int32) (l4 : Int32) (r62 : Int32 → Int32 → Int32 → ax_M → Option (Int32 × ax_M)) (hr62 : ∀ (a5 : Int32) (a6 : Int32) (a7 : Int32) (μ : ax_M), ax_Rf mX4_bestOpening 6 x (ax_Z ax_jI x G) G 0 0 62 [some (.ref 46), some (.int l1), some (.int l2), some (.int l3), some (.int l4), some (.int a5), some (.int a6), some (.int a7)] [] μ (r62 a5 a6 a7 μ)) (l5 : Int32) (l6 : Int32) (l7 : Int32) (μ : ax_M) : ax_Rf mX4_bestOpening 6 x (ax_Z ax_jI x G) G 0 0 62 [some (.ref 46), some (.int l1), some (.int l2), some (.int l3), some (.int l4), some (.int l5), some (.int l6), some (.int l7)] [] μ (fX4_bestOpening_B62 l1 l2 l3 l4 r62 l5 l6 l7 μ) := by
  unfold fX4_bestOpening_B62
  refine rf_iload (n := 64) 7 dX4_bestOpening_62 rfl rfl ?_
  refine rf_bipush (n := 66) (64 : Int32) dX4_bestOpening_64 ccbipush_64 rfl ?_
  refine rf_iload (n := 68) 4 dX4_bestOpening_66 rfl rfl ?_
  refine rf_imul (n := 69) dX4_bestOpening_68 rfl ?_
  refine rf_icmp_ge (tg := 144) (n := 72) dX4_bestOpening_69 rfl rfl (fun c19 => ?_) (fun c19 => ?_)
  · refine rf_mask (lc2 := [some (.ref 46), none, none, none, none, some (.int l5), none, none]) [true, false, false, false, false, true, false, false] rfl ?_
    exact pX4_bestOpening_K144 hG _ _
  · refine rf_iload (n := 74) 6 dX4_bestOpening_72 rfl rfl ?_
    refine rf_iload_n (n := 75) 3 dX4_bestOpening_74 rfl rfl rfl ?_
    refine rf_icmp_lt (tg := 144) (n := 78) dX4_bestOpening_75 rfl rfl (fun c18 => ?_) (fun c18 => ?_)
    · refine rf_mask (lc2 := [some (.ref 46), none, none, none, none, some (.int l5), none, none]) [true, false, false, false, false, true, false, false] rfl ?_
      exact pX4_bestOpening_K144 hG _ _
    · refine rf_aload_n (n := 79) 0 dX4_bestOpening_78 rfl rfl rfl ?_
      refine rf_getR (n := 82) rr_46_0 kk_2 hG dX4_bestOpening_79 flX4_18 ki_4_0 sS_46 kk_46 rfl ?_
      refine rf_getR (n := 85) rr_2_1 kk_4 hG dX4_bestOpening_82 flX4_80 ki_1_1 sS_2 kk_2 rfl ?_
      refine rf_iload_n (n := 86) 1 dX4_bestOpening_85 rfl rfl rfl ?_
      refine rf_iload (n := 88) 7 dX4_bestOpening_86 rfl rfl ?_
      refine rf_iload (n := 90) 4 dX4_bestOpening_88 rfl rfl ?_
      refine rf_idiv (n := 91) dX4_bestOpening_90 rfl (fun v7 => ?_)
      refine rf_iast (n := 92) hG dX4_bestOpening_91 sS_4 kk_4 rfl (fun m8 => ?_)
      refine rf_iload_n (n := 93) 2 dX4_bestOpening_92 rfl rfl rfl ?_
      refine rf_iconst (n := 94) (-1 : Int32) dX4_bestOpening_93 cciconst_m1 rfl ?_
      refine rf_icmp_eq (tg := 111) (n := 97) dX4_bestOpening_94 rfl rfl (fun c17 => ?_) (fun c17 => ?_)
      · exact pX4_bestOpening_K111 hG _ _ _ _ _ _ _ r62 hr62 _
      · refine rf_aload_n (n := 98) 0 dX4_bestOpening_97 rfl rfl rfl ?_
        refine rf_getR (n := 101) rr_46_0 kk_2 hG dX4_bestOpening_98 flX4_18 ki_4_0 sS_46 kk_46 rfl ?_
        refine rf_getR (n := 104) rr_2_1 kk_4 hG dX4_bestOpening_101 flX4_80 ki_1_1 sS_2 kk_2 rfl ?_
        refine rf_iload_n (n := 105) 2 dX4_bestOpening_104 rfl rfl rfl ?_
        refine rf_iload (n := 107) 7 dX4_bestOpening_105 rfl rfl ?_
        refine rf_iload (n := 109) 4 dX4_bestOpening_107 rfl rfl ?_
        refine rf_irem (n := 110) dX4_bestOpening_109 rfl (fun v15 => ?_)
        refine rf_iast (n := 111) hG dX4_bestOpening_110 sS_4 kk_4 rfl (fun m16 => ?_)
        exact pX4_bestOpening_K111 hG _ _ _ _ _ _ _ r62 hr62 _
theorem pX4_bestOpening_L62 {x : ax_X} {G : ax_G} (hG : ax_ok G) (l1 : Int32) (l2 : Int32) (l3 : Int32) (l4 : Int32) (n : Nat) (a5 : Int32) (a6 : Int32) (a7 : Int32) (μ : ax_M) : ax_Rf mX4_bestOpening 6 x (ax_Z ax_jI x G) G 0 0 62 [some (.ref 46), some (.int l1), some (.int l2), some (.int l3), some (.int l4), some (.int a5), some (.int a6), some (.int a7)] [] μ (ax_lp3 (fX4_bestOpening_B62 l1 l2 l3 l4) n a5 a6 a7 μ) :=
  rf_lp3 (P := fun a5 a6 a7 μ t => ax_Rf mX4_bestOpening 6 x (ax_Z ax_jI x G) G 0 0 62 [some (.ref 46), some (.int l1), some (.int l2), some (.int l3), some (.int l4), some (.int a5), some (.int a6), some (.int a7)] [] μ t) (fun _ _ _ _ => rf_none) (fun rc hrc a5 a6 a7 μ => pX4_bestOpening_B62 hG l1 l2 l3 l4 rc hrc a5 a6 a7 μ) n a5 a6 a7 μ
def fX4_bestOpening_K48 (l1 : Int32) (l2 : Int32) (l3 : Int32) (s0 : Int32) (μ : ax_M) : Option (Int32 × ax_M) :=
  (ax_lp3 (fX4_bestOpening_B62 l1 l2 l3 s0) ax_FU (-2 : Int32) (9999 : Int32) (0 : Int32) μ)
theorem pX4_bestOpening_K48 {x : ax_X} {G : ax_G} (hG : ax_ok G) (l1 : Int32) (l2 : Int32) (l3 : Int32) (s0 : Int32) (μ : ax_M) : ax_Rf mX4_bestOpening 6 x (ax_Z ax_jI x G) G 0 0 48 [some (.ref 46), some (.int l1), some (.int l2), some (.int l3), none, none, none, none] [.int s0] μ (fX4_bestOpening_K48 l1 l2 l3 s0 μ) := by
  unfold fX4_bestOpening_K48
  refine rf_istore (lc2 := [some (.ref 46), some (.int l1), some (.int l2), some (.int l3), some (.int s0), none, none, none]) (n := 50) 4 dX4_bestOpening_48 rfl (Nat.le_of_ble_eq_true rfl) rfl rfl ?_
  refine rf_bipush (n := 52) (-2 : Int32) dX4_bestOpening_50 ccbipush_m2 rfl ?_
  refine rf_istore (lc2 := [some (.ref 46), some (.int l1), some (.int l2), some (.int l3), some (.int s0), some (.int (-2 : Int32)), none, none]) (n := 54) 5 dX4_bestOpening_52 rfl (Nat.le_of_ble_eq_true rfl) rfl rfl ?_
  refine rf_sipush (n := 57) (9999 : Int32) dX4_bestOpening_54 ccsipush_9999 rfl ?_
  refine rf_istore (lc2 := [some (.ref 46), some (.int l1), some (.int l2), some (.int l3), some (.int s0), some (.int (-2 : Int32)), some (.int (9999 : Int32)), none]) (n := 59) 6 dX4_bestOpening_57 rfl (Nat.le_of_ble_eq_true rfl) rfl rfl ?_
  refine rf_iconst (n := 60) (0 : Int32) dX4_bestOpening_59 cciconst_0 rfl ?_
  refine rf_istore (lc2 := [some (.ref 46), some (.int l1), some (.int l2), some (.int l3), some (.int s0), some (.int (-2 : Int32)), some (.int (9999 : Int32)), some (.int (0 : Int32))]) (n := 62) 7 dX4_bestOpening_60 rfl (Nat.le_of_ble_eq_true rfl) rfl rfl ?_
  exact pX4_bestOpening_L62 hG _ _ _ _ _ _ _ _ _
def fX4_bestOpening (p1 : Int32) (p2 : Int32) (μ : ax_M) : Option (Int32 × ax_M) :=
  (ax_bd (fX4_periodByFullShifts μ) (fun v1 m2 => (if v1 = (-1 : Int32) then (some ((-2 : Int32), m2)) else (Option.bind (ax_cp m2 4 4 (0 : Int32) 48 4 (0 : Int32) (4 : Int32)) (fun m3 => (ax_bd (fX6_forgetCut m3) (fun _ m5 => (if p2 = (-1 : Int32) then (fX4_bestOpening_K48 p1 p2 v1 (1 : Int32) m5) else (fX4_bestOpening_K48 p1 p2 v1 (64 : Int32) m5)))))))))
theorem okX4_bestOpening (p1 : Int32) (p2 : Int32) (μ : ax_M) : ax_Ok mX4_bestOpening 6 ax_jI [.ref 46, .int p1, .int p2] μ (fX4_bestOpening p1 p2 μ) := by
  refine ax_start (lc := [some (.ref 46), some (.int p1), some (.int p2), none, none, none, none, none]) 5 (by decide +kernel) rfl (Nat.le_of_ble_eq_true rfl) (fun x G hG => ?_)
  unfold fX4_bestOpening
  refine rf_aload_n (n := 1) 0 dX4_bestOpening_0 rfl rfl rfl ?_
  refine rf_cV0I (n := 4) hG (okX4_periodByFullShifts _) lVX4_77 hhX4_periodByFullShifts kk_46 sS_46 ⟨_, rfl, rfl⟩ dX4_bestOpening_1 rfl (Nat.le_of_ble_eq_true rfl) (Nat.le_of_ble_eq_true rfl) (fun v1 m2 => ?_)
  refine rf_istore_n (lc2 := [some (.ref 46), some (.int p1), some (.int p2), some (.int v1), none, none, none, none]) (n := 5) 3 dX4_bestOpening_4 rfl rfl (Nat.le_of_ble_eq_true rfl) rfl rfl ?_
  refine rf_iload_n (n := 6) 3 dX4_bestOpening_5 rfl rfl rfl ?_
  refine rf_iconst (n := 7) (-1 : Int32) dX4_bestOpening_6 cciconst_m1 rfl ?_
  refine rf_icmp_ne (tg := 13) (n := 10) dX4_bestOpening_7 rfl rfl (fun c21 => ?_) (fun c21 => ?_)
  · refine rf_aload_n (n := 14) 0 dX4_bestOpening_13 rfl rfl rfl ?_
    refine rf_getR (n := 17) rr_46_0 kk_2 hG dX4_bestOpening_14 flX4_18 ki_4_0 sS_46 kk_46 rfl ?_
    refine rf_getR (n := 20) rr_2_1 kk_4 hG dX4_bestOpening_17 flX4_80 ki_1_1 sS_2 kk_2 rfl ?_
    refine rf_iconst (n := 21) (0 : Int32) dX4_bestOpening_20 cciconst_0 rfl ?_
    refine rf_aload_n (n := 22) 0 dX4_bestOpening_21 rfl rfl rfl ?_
    refine rf_getR (n := 25) rr_46_4 kk_48 hG dX4_bestOpening_22 flX4_15 ki_4_4 sS_46 kk_46 rfl ?_
    refine rf_iconst (n := 26) (0 : Int32) dX4_bestOpening_25 cciconst_0 rfl ?_
    refine rf_iconst (n := 27) (4 : Int32) dX4_bestOpening_26 cciconst_4 rfl ?_
    refine rf_copy (n := 30) hG dX4_bestOpening_27 cpX4_83 ax_cpw (Nat.le_of_ble_eq_true rfl) (Nat.le_of_ble_eq_true rfl) sS_4 sS_48 kk_4 kk_48 rfl (fun m3 => ?_)
    refine rf_aload_n (n := 31) 0 dX4_bestOpening_30 rfl rfl rfl ?_
    refine rf_getR (n := 34) rr_46_2 kk_49 hG dX4_bestOpening_31 flX4_31 ki_4_2 sS_46 kk_46 rfl ?_
    refine rf_cV0V (n := 37) hG (okX6_forgetCut _) lVX4_89 hhX6_forgetCut kk_49 sS_49 ⟨_, rfl, rfl⟩ dX4_bestOpening_34 rfl (Nat.le_of_ble_eq_true rfl) (Nat.le_of_ble_eq_true rfl) (fun _ m5 => ?_)
    refine rf_iload_n (n := 38) 2 dX4_bestOpening_37 rfl rfl rfl ?_
    refine rf_iconst (n := 39) (-1 : Int32) dX4_bestOpening_38 cciconst_m1 rfl ?_
    refine rf_icmp_ne (tg := 46) (n := 42) dX4_bestOpening_39 rfl rfl (fun c20 => ?_) (fun c20 => ?_)
    · refine rf_bipush (n := 48) (64 : Int32) dX4_bestOpening_46 ccbipush_64 rfl ?_
      exact pX4_bestOpening_K48 hG _ _ _ _ _
    · refine rf_iconst (n := 43) (1 : Int32) dX4_bestOpening_42 cciconst_1 rfl ?_
      refine rf_goto (tg := 48) dX4_bestOpening_43 rfl ?_
      exact pX4_bestOpening_K48 hG _ _ _ _ _
  · refine rf_bipush (n := 12) (-2 : Int32) dX4_bestOpening_10 ccbipush_m2 rfl ?_
    exact rf_retI rfl dX4_bestOpening_12
def fX8_bestOpens_K24 (s0 : Int32) (μ : ax_M) : Option (Int32 × ax_M) :=
  (some (s0, μ))
theorem pX8_bestOpens_K24 {x : ax_X} {G : ax_G} (hG : ax_ok G) (s0 : Int32) (μ : ax_M) : ax_Rf mX8_bestOpens 7 x (ax_Z ax_jI x G) G 0 0 24 [none, none] [.int s0] μ (fX8_bestOpens_K24 s0 μ) := by
  unfold fX8_bestOpens_K24
  exact rf_retI rfl dX8_bestOpens_24
def fX8_bestOpens (p1 : Int32) (μ : ax_M) : Option (Int32 × ax_M) :=
  (ax_bd (fX1_hasPhase p1 μ) (fun v1 m2 => (if v1 = 0 then (fX8_bestOpens_K24 (-1 : Int32) m2) else (ax_bd (fX4_bestOpening p1 (-1 : Int32) m2) (fun v3 m4 => (fX8_bestOpens_K24 v3 m4))))))
theorem okX8_bestOpens (p1 : Int32) (μ : ax_M) : ax_Ok mX8_bestOpens 7 ax_jI [.ref 0, .int p1] μ (fX8_bestOpens p1 μ) := by
  refine ax_start (lc := [some (.ref 0), some (.int p1)]) 0 (by decide +kernel) rfl (Nat.le_of_ble_eq_true rfl) (fun x G hG => ?_)
  unfold fX8_bestOpens
  refine rf_aload_n (n := 1) 0 dX8_bestOpens_0 rfl rfl rfl ?_
  refine rf_getR (n := 4) rr_0_2 kk_2 hG dX8_bestOpens_1 flX8_16 ki_8_2 sS_0 kk_0 rfl ?_
  refine rf_iload_n (n := 5) 1 dX8_bestOpens_4 rfl rfl rfl ?_
  refine rf_cV1I (n := 8) hG (okX1_hasPhase _ _) lVX8_134 hhX1_hasPhase kk_2 sS_2 ⟨_, rfl, rfl⟩ dX8_bestOpens_5 rfl (Nat.le_of_ble_eq_true rfl) (Nat.le_of_ble_eq_true rfl) (fun v1 m2 => ?_)
  refine rf_if_eq (tg := 23) (n := 11) dX8_bestOpens_8 rfl rfl (fun c5 => ?_) (fun c5 => ?_)
  · refine rf_iconst (n := 24) (-1 : Int32) dX8_bestOpens_23 cciconst_m1 rfl ?_
    refine rf_mask (lc2 := [none, none]) [false, false] rfl ?_
    exact pX8_bestOpens_K24 hG _ _
  · refine rf_aload_n (n := 12) 0 dX8_bestOpens_11 rfl rfl rfl ?_
    refine rf_getR (n := 15) rr_0_8 kk_46 hG dX8_bestOpens_12 flX8_64 ki_8_8 sS_0 kk_0 rfl ?_
    refine rf_iload_n (n := 16) 1 dX8_bestOpens_15 rfl rfl rfl ?_
    refine rf_iconst (n := 17) (-1 : Int32) dX8_bestOpens_16 cciconst_m1 rfl ?_
    refine rf_cV2I (n := 20) hG (okX4_bestOpening _ _ _) lVX8_281 hhX4_bestOpening kk_46 sS_46 ⟨_, rfl, rfl⟩ dX8_bestOpens_17 rfl (Nat.le_of_ble_eq_true rfl) (Nat.le_of_ble_eq_true rfl) (fun v3 m4 => ?_)
    refine rf_goto (tg := 24) dX8_bestOpens_20 rfl ?_
    refine rf_mask (lc2 := [none, none]) [false, false] rfl ?_
    exact pX8_bestOpens_K24 hG _ _
def fX9_bestOpens_K82 (l1 : Int32) (l2 : Int32) (l3 : Int32) (l4 : Int32) (l5 : Int32) (r35 : Int32 → Int32 → Int32 → ax_M → Option (Int32 × ax_M)) (μ : ax_M) : Option (Int32 × ax_M) :=
  (r35 l3 l4 (l5 + (1 : Int32)) μ)
theorem pX9_bestOpens_K82 {x : ax_X} {G : ax_G} (hG : ax_ok G) (l1 : Int32) (l2 : Int32) (l3 : Int32) (l4 : Int32) (l5 : Int32) (r35 : Int32 → Int32 → Int32 → ax_M → Option (Int32 × ax_M)) (hr35 : ∀ (a3 : Int32) (a4 : Int32) (a5 : Int32) (μ : ax_M), ax_Rf mX9_bestOpens 7 x (ax_Z ax_jI x G) G 0 0 35 [some (.ref 57), some (.int l1), some (.int l2), some (.int a3), some (.int a4), some (.int a5), none] [] μ (r35 a3 a4 a5 μ)) (μ : ax_M) : ax_Rf mX9_bestOpens 7 x (ax_Z ax_jI x G) G 0 0 82 [some (.ref 57), some (.int l1), some (.int l2), some (.int l3), some (.int l4), some (.int l5), none] [] μ (fX9_bestOpens_K82 l1 l2 l3 l4 l5 r35 μ) := by
  unfold fX9_bestOpens_K82
  refine rf_iinc (lc2 := [some (.ref 57), some (.int l1), some (.int l2), some (.int l3), some (.int l4), some (.int (l5 + (1 : Int32))), none]) (n := 85) (w := (1 : Int32)) 5 dX9_bestOpens_82 rfl rfl rfl (Nat.le_of_ble_eq_true rfl) rfl rfl ?_
  refine rf_goto (tg := 35) dX9_bestOpens_85 rfl ?_
  exact hr35 _ _ _ _
def fX9_bestOpens_B35 (l1 : Int32) (l2 : Int32) (r35 : Int32 → Int32 → Int32 → ax_M → Option (Int32 × ax_M)) (l3 : Int32) (l4 : Int32) (l5 : Int32) (μ : ax_M) : Option (Int32 × ax_M) :=
  (if (64 : Int32) ≤ l5 then (Option.bind (ax_wr μ 74 68 ((1 : Int32) + l1) l2) (fun m5 => (some (l3, m5)))) else (Option.bind (ax_wr μ 74 68 ((1 : Int32) + l1) l5) (fun m6 => (ax_bd (fX9_leastNow m6) (fun v7 m8 => (if v7 = (-2 : Int32) then (fX9_bestOpens_K82 l1 l2 l3 l4 l5 r35 m8) else (if v7 < l4 then (fX9_bestOpens_K82 l1 l2 l5 v7 l5 r35 m8) else (fX9_bestOpens_K82 l1 l2 l3 l4 l5 r35 m8))))))))
theorem pX9_bestOpens_B35 {x : ax_X} {G : ax_G} (hG : ax_ok G) (l1 : Int32) (l2 : Int32) (r35 : Int32 → Int32 → Int32 → ax_M → Option (Int32 × ax_M)) (hr35 : ∀ (a3 : Int32) (a4 : Int32) (a5 : Int32) (μ : ax_M), ax_Rf mX9_bestOpens 7 x (ax_Z ax_jI x G) G 0 0 35 [some (.ref 57), some (.int l1), some (.int l2), some (.int a3), some (.int a4), some (.int a5), none] [] μ (r35 a3 a4 a5 μ)) (l3 : Int32) (l4 : Int32) (l5 : Int32) (μ : ax_M) : ax_Rf mX9_bestOpens 7 x (ax_Z ax_jI x G) G 0 0 35 [some (.ref 57), some (.int l1), some (.int l2), some (.int l3), some (.int l4), some (.int l5), none] [] μ (fX9_bestOpens_B35 l1 l2 r35 l3 l4 l5 μ) := by
  unfold fX9_bestOpens_B35
  refine rf_iload (n := 37) 5 dX9_bestOpens_35 rfl rfl ?_
  refine rf_bipush (n := 39) (64 : Int32) dX9_bestOpens_37 ccbipush_64 rfl ?_
  refine rf_icmp_ge (tg := 88) (n := 42) dX9_bestOpens_39 rfl rfl (fun c11 => ?_) (fun c11 => ?_)
  · refine rf_aload_n (n := 89) 0 dX9_bestOpens_88 rfl rfl rfl ?_
    refine rf_getR (n := 92) rr_57_28 kk_74 hG dX9_bestOpens_89 flX9_63 ki_9_28 sS_57 kk_57 rfl ?_
    refine rf_iconst (n := 93) (1 : Int32) dX9_bestOpens_92 cciconst_1 rfl ?_
    refine rf_iload_n (n := 94) 1 dX9_bestOpens_93 rfl rfl rfl ?_
    refine rf_iadd (n := 95) dX9_bestOpens_94 rfl ?_
    refine rf_iload_n (n := 96) 2 dX9_bestOpens_95 rfl rfl rfl ?_
    refine rf_iast (n := 97) hG dX9_bestOpens_96 sS_74 kk_74 rfl (fun m5 => ?_)
    refine rf_iload_n (n := 98) 3 dX9_bestOpens_97 rfl rfl rfl ?_
    exact rf_retI rfl dX9_bestOpens_98
  · refine rf_aload_n (n := 43) 0 dX9_bestOpens_42 rfl rfl rfl ?_
    refine rf_getR (n := 46) rr_57_28 kk_74 hG dX9_bestOpens_43 flX9_63 ki_9_28 sS_57 kk_57 rfl ?_
    refine rf_iconst (n := 47) (1 : Int32) dX9_bestOpens_46 cciconst_1 rfl ?_
    refine rf_iload_n (n := 48) 1 dX9_bestOpens_47 rfl rfl rfl ?_
    refine rf_iadd (n := 49) dX9_bestOpens_48 rfl ?_
    refine rf_iload (n := 51) 5 dX9_bestOpens_49 rfl rfl ?_
    refine rf_iast (n := 52) hG dX9_bestOpens_51 sS_74 kk_74 rfl (fun m6 => ?_)
    refine rf_aload_n (n := 53) 0 dX9_bestOpens_52 rfl rfl rfl ?_
    refine rf_cV0I (n := 56) hG (okX9_leastNow _) lVX9_366 hhX9_leastNow kk_57 sS_57 ⟨_, rfl, rfl⟩ dX9_bestOpens_53 rfl (Nat.le_of_ble_eq_true rfl) (Nat.le_of_ble_eq_true rfl) (fun v7 m8 => ?_)
    refine rf_istore (lc2 := [some (.ref 57), some (.int l1), some (.int l2), some (.int l3), some (.int l4), some (.int l5), some (.int v7)]) (n := 58) 6 dX9_bestOpens_56 rfl (Nat.le_of_ble_eq_true rfl) rfl rfl ?_
    refine rf_iload (n := 60) 6 dX9_bestOpens_58 rfl rfl ?_
    refine rf_bipush (n := 62) (-2 : Int32) dX9_bestOpens_60 ccbipush_m2 rfl ?_
    refine rf_icmp_eq (tg := 82) (n := 65) dX9_bestOpens_62 rfl rfl (fun c10 => ?_) (fun c10 => ?_)
    · refine rf_mask (lc2 := [some (.ref 57), some (.int l1), some (.int l2), some (.int l3), some (.int l4), some (.int l5), none]) [true, true, true, true, true, true, false] rfl ?_
      exact pX9_bestOpens_K82 hG _ _ _ _ _ r35 hr35 _
    · refine rf_iload (n := 67) 6 dX9_bestOpens_65 rfl rfl ?_
      refine rf_iload (n := 69) 4 dX9_bestOpens_67 rfl rfl ?_
      refine rf_icmp_lt (tg := 75) (n := 72) dX9_bestOpens_69 rfl rfl (fun c9 => ?_) (fun c9 => ?_)
      · refine rf_iload (n := 77) 5 dX9_bestOpens_75 rfl rfl ?_
        refine rf_istore_n (lc2 := [some (.ref 57), some (.int l1), some (.int l2), some (.int l5), some (.int l4), some (.int l5), some (.int v7)]) (n := 78) 3 dX9_bestOpens_77 rfl rfl (Nat.le_of_ble_eq_true rfl) rfl rfl ?_
        refine rf_iload (n := 80) 6 dX9_bestOpens_78 rfl rfl ?_
        refine rf_istore (lc2 := [some (.ref 57), some (.int l1), some (.int l2), some (.int l5), some (.int v7), some (.int l5), some (.int v7)]) (n := 82) 4 dX9_bestOpens_80 rfl (Nat.le_of_ble_eq_true rfl) rfl rfl ?_
        refine rf_mask (lc2 := [some (.ref 57), some (.int l1), some (.int l2), some (.int l5), some (.int v7), some (.int l5), none]) [true, true, true, true, true, true, false] rfl ?_
        exact pX9_bestOpens_K82 hG _ _ _ _ _ r35 hr35 _
      · refine rf_goto (tg := 82) dX9_bestOpens_72 rfl ?_
        refine rf_mask (lc2 := [some (.ref 57), some (.int l1), some (.int l2), some (.int l3), some (.int l4), some (.int l5), none]) [true, true, true, true, true, true, false] rfl ?_
        exact pX9_bestOpens_K82 hG _ _ _ _ _ r35 hr35 _
theorem pX9_bestOpens_L35 {x : ax_X} {G : ax_G} (hG : ax_ok G) (l1 : Int32) (l2 : Int32) (n : Nat) (a3 : Int32) (a4 : Int32) (a5 : Int32) (μ : ax_M) : ax_Rf mX9_bestOpens 7 x (ax_Z ax_jI x G) G 0 0 35 [some (.ref 57), some (.int l1), some (.int l2), some (.int a3), some (.int a4), some (.int a5), none] [] μ (ax_lp3 (fX9_bestOpens_B35 l1 l2) n a3 a4 a5 μ) :=
  rf_lp3 (P := fun a3 a4 a5 μ t => ax_Rf mX9_bestOpens 7 x (ax_Z ax_jI x G) G 0 0 35 [some (.ref 57), some (.int l1), some (.int l2), some (.int a3), some (.int a4), some (.int a5), none] [] μ t) (fun _ _ _ _ => rf_none) (fun rc hrc a3 a4 a5 μ => pX9_bestOpens_B35 hG l1 l2 rc hrc a3 a4 a5 μ) n a3 a4 a5 μ
def fX9_bestOpens (p1 : Int32) (μ : ax_M) : Option (Int32 × ax_M) :=
  (ax_let (ax_wi μ 57 0 (0 : Int32)) (fun m1 => (ax_bd (fX9_isPhase p1 m1) (fun v2 m3 => (if v2 = 0 then (some ((-1 : Int32), m3)) else (Option.bind (ax_rd m3 74 68 ((1 : Int32) + p1)) (fun v4 => (ax_lp3 (fX9_bestOpens_B35 p1 v4) ax_FU (-2 : Int32) (10000 : Int32) (0 : Int32) m3))))))))
theorem okX9_bestOpens (p1 : Int32) (μ : ax_M) : ax_Ok mX9_bestOpens 7 ax_jI [.ref 57, .int p1] μ (fX9_bestOpens p1 μ) := by
  refine ax_start (lc := [some (.ref 57), some (.int p1), none, none, none, none, none]) 5 (by decide +kernel) rfl (Nat.le_of_ble_eq_true rfl) (fun x G hG => ?_)
  unfold fX9_bestOpens
  refine rf_aload_n (n := 1) 0 dX9_bestOpens_0 rfl rfl rfl ?_
  refine rf_iconst (n := 2) (0 : Int32) dX9_bestOpens_1 cciconst_0 rfl ?_
  refine rf_pfI (n := 5) hG rfl dX9_bestOpens_2 flX9_103 ki_9_0 nf_9_0 sS_57 kk_57 rfl (fun m1 => ?_)
  refine rf_aload_n (n := 6) 0 dX9_bestOpens_5 rfl rfl rfl ?_
  refine rf_iload_n (n := 7) 1 dX9_bestOpens_6 rfl rfl rfl ?_
  refine rf_cV1I (n := 10) hG (okX9_isPhase _ _) lVX9_262 hhX9_isPhase kk_57 sS_57 ⟨_, rfl, rfl⟩ dX9_bestOpens_7 rfl (Nat.le_of_ble_eq_true rfl) (Nat.le_of_ble_eq_true rfl) (fun v2 m3 => ?_)
  refine rf_if_ne (tg := 15) (n := 13) dX9_bestOpens_10 rfl rfl (fun c12 => ?_) (fun c12 => ?_)
  · refine rf_aload_n (n := 16) 0 dX9_bestOpens_15 rfl rfl rfl ?_
    refine rf_getR (n := 19) rr_57_28 kk_74 hG dX9_bestOpens_16 flX9_63 ki_9_28 sS_57 kk_57 rfl ?_
    refine rf_iconst (n := 20) (1 : Int32) dX9_bestOpens_19 cciconst_1 rfl ?_
    refine rf_iload_n (n := 21) 1 dX9_bestOpens_20 rfl rfl rfl ?_
    refine rf_iadd (n := 22) dX9_bestOpens_21 rfl ?_
    refine rf_iald (n := 23) hG dX9_bestOpens_22 sS_74 kk_74 rfl (fun v4 => ?_)
    refine rf_istore_n (lc2 := [some (.ref 57), some (.int p1), some (.int v4), none, none, none, none]) (n := 24) 2 dX9_bestOpens_23 rfl rfl (Nat.le_of_ble_eq_true rfl) rfl rfl ?_
    refine rf_bipush (n := 26) (-2 : Int32) dX9_bestOpens_24 ccbipush_m2 rfl ?_
    refine rf_istore_n (lc2 := [some (.ref 57), some (.int p1), some (.int v4), some (.int (-2 : Int32)), none, none, none]) (n := 27) 3 dX9_bestOpens_26 rfl rfl (Nat.le_of_ble_eq_true rfl) rfl rfl ?_
    refine rf_sipush (n := 30) (10000 : Int32) dX9_bestOpens_27 ccsipush_10000 rfl ?_
    refine rf_istore (lc2 := [some (.ref 57), some (.int p1), some (.int v4), some (.int (-2 : Int32)), some (.int (10000 : Int32)), none, none]) (n := 32) 4 dX9_bestOpens_30 rfl (Nat.le_of_ble_eq_true rfl) rfl rfl ?_
    refine rf_iconst (n := 33) (0 : Int32) dX9_bestOpens_32 cciconst_0 rfl ?_
    refine rf_istore (lc2 := [some (.ref 57), some (.int p1), some (.int v4), some (.int (-2 : Int32)), some (.int (10000 : Int32)), some (.int (0 : Int32)), none]) (n := 35) 5 dX9_bestOpens_33 rfl (Nat.le_of_ble_eq_true rfl) rfl rfl ?_
    exact pX9_bestOpens_L35 hG _ _ _ _ _ _ _
  · refine rf_iconst (n := 14) (-1 : Int32) dX9_bestOpens_13 cciconst_m1 rfl ?_
    exact rf_retI rfl dX9_bestOpens_14
def fX8_bestTwo_K27 (μ : ax_M) : Option (Int32 × ax_M) :=
  (some ((-1 : Int32), μ))
theorem pX8_bestTwo_K27 {x : ax_X} {G : ax_G} (hG : ax_ok G) (μ : ax_M) : ax_Rf mX8_bestTwo 7 x (ax_Z ax_jI x G) G 0 0 27 [none, none, none] [] μ (fX8_bestTwo_K27 μ) := by
  unfold fX8_bestTwo_K27
  refine rf_iconst (n := 28) (-1 : Int32) dX8_bestTwo_27 cciconst_m1 rfl ?_
  exact rf_retI rfl dX8_bestTwo_28
def fX8_bestTwo (p1 : Int32) (p2 : Int32) (μ : ax_M) : Option (Int32 × ax_M) :=
  (ax_bd (fX1_hasPhase p1 μ) (fun v1 m2 => (if v1 = 0 then (fX8_bestTwo_K27 m2) else (ax_bd (fX1_hasPhase p2 m2) (fun v3 m4 => (if v3 = 0 then (fX8_bestTwo_K27 m4) else (if p1 = p2 then (fX8_bestTwo_K27 m4) else (ax_bd (fX4_bestOpening p1 p2 m4) (fun v5 m6 => (some (v5, m6)))))))))))
theorem okX8_bestTwo (p1 : Int32) (p2 : Int32) (μ : ax_M) : ax_Ok mX8_bestTwo 7 ax_jI [.ref 0, .int p1, .int p2] μ (fX8_bestTwo p1 p2 μ) := by
  refine ax_start (lc := [some (.ref 0), some (.int p1), some (.int p2)]) 0 (by decide +kernel) rfl (Nat.le_of_ble_eq_true rfl) (fun x G hG => ?_)
  unfold fX8_bestTwo
  refine rf_aload_n (n := 1) 0 dX8_bestTwo_0 rfl rfl rfl ?_
  refine rf_getR (n := 4) rr_0_2 kk_2 hG dX8_bestTwo_1 flX8_16 ki_8_2 sS_0 kk_0 rfl ?_
  refine rf_iload_n (n := 5) 1 dX8_bestTwo_4 rfl rfl rfl ?_
  refine rf_cV1I (n := 8) hG (okX1_hasPhase _ _) lVX8_134 hhX1_hasPhase kk_2 sS_2 ⟨_, rfl, rfl⟩ dX8_bestTwo_5 rfl (Nat.le_of_ble_eq_true rfl) (Nat.le_of_ble_eq_true rfl) (fun v1 m2 => ?_)
  refine rf_if_eq (tg := 27) (n := 11) dX8_bestTwo_8 rfl rfl (fun c9 => ?_) (fun c9 => ?_)
  · refine rf_mask (lc2 := [none, none, none]) [false, false, false] rfl ?_
    exact pX8_bestTwo_K27 hG _
  · refine rf_aload_n (n := 12) 0 dX8_bestTwo_11 rfl rfl rfl ?_
    refine rf_getR (n := 15) rr_0_2 kk_2 hG dX8_bestTwo_12 flX8_16 ki_8_2 sS_0 kk_0 rfl ?_
    refine rf_iload_n (n := 16) 2 dX8_bestTwo_15 rfl rfl rfl ?_
    refine rf_cV1I (n := 19) hG (okX1_hasPhase _ _) lVX8_134 hhX1_hasPhase kk_2 sS_2 ⟨_, rfl, rfl⟩ dX8_bestTwo_16 rfl (Nat.le_of_ble_eq_true rfl) (Nat.le_of_ble_eq_true rfl) (fun v3 m4 => ?_)
    refine rf_if_eq (tg := 27) (n := 22) dX8_bestTwo_19 rfl rfl (fun c8 => ?_) (fun c8 => ?_)
    · refine rf_mask (lc2 := [none, none, none]) [false, false, false] rfl ?_
      exact pX8_bestTwo_K27 hG _
    · refine rf_iload_n (n := 23) 1 dX8_bestTwo_22 rfl rfl rfl ?_
      refine rf_iload_n (n := 24) 2 dX8_bestTwo_23 rfl rfl rfl ?_
      refine rf_icmp_ne (tg := 29) (n := 27) dX8_bestTwo_24 rfl rfl (fun c7 => ?_) (fun c7 => ?_)
      · refine rf_aload_n (n := 30) 0 dX8_bestTwo_29 rfl rfl rfl ?_
        refine rf_getR (n := 33) rr_0_8 kk_46 hG dX8_bestTwo_30 flX8_64 ki_8_8 sS_0 kk_0 rfl ?_
        refine rf_iload_n (n := 34) 1 dX8_bestTwo_33 rfl rfl rfl ?_
        refine rf_iload_n (n := 35) 2 dX8_bestTwo_34 rfl rfl rfl ?_
        refine rf_cV2I (n := 38) hG (okX4_bestOpening _ _ _) lVX8_281 hhX4_bestOpening kk_46 sS_46 ⟨_, rfl, rfl⟩ dX8_bestTwo_35 rfl (Nat.le_of_ble_eq_true rfl) (Nat.le_of_ble_eq_true rfl) (fun v5 m6 => ?_)
        exact rf_retI rfl dX8_bestTwo_38
      · refine rf_mask (lc2 := [none, none, none]) [false, false, false] rfl ?_
        exact pX8_bestTwo_K27 hG _
def fX9_bestTwo_K26 (μ : ax_M) : Option (Int32 × ax_M) :=
  (some ((-1 : Int32), μ))
theorem pX9_bestTwo_K26 {x : ax_X} {G : ax_G} (hG : ax_ok G) (μ : ax_M) : ax_Rf mX9_bestTwo 7 x (ax_Z ax_jI x G) G 0 0 26 [none, none, none, none, none, none, none, none, none] [] μ (fX9_bestTwo_K26 μ) := by
  unfold fX9_bestTwo_K26
  refine rf_iconst (n := 27) (-1 : Int32) dX9_bestTwo_26 cciconst_m1 rfl ?_
  exact rf_retI rfl dX9_bestTwo_27
def fX9_bestTwo_K124 (l1 : Int32) (l2 : Int32) (l3 : Int32) (l4 : Int32) (l5 : Int32) (l6 : Int32) (l7 : Int32) (r59 : Int32 → Int32 → Int32 → ax_M → Option (Int32 × ax_M)) (μ : ax_M) : Option (Int32 × ax_M) :=
  (r59 l5 l6 (l7 + (1 : Int32)) μ)
theorem pX9_bestTwo_K124 {x : ax_X} {G : ax_G} (hG : ax_ok G) (l1 : Int32) (l2 : Int32) (l3 : Int32) (l4 : Int32) (l5 : Int32) (l6 : Int32) (l7 : Int32) (r59 : Int32 → Int32 → Int32 → ax_M → Option (Int32 × ax_M)) (hr59 : ∀ (a5 : Int32) (a6 : Int32) (a7 : Int32) (μ : ax_M), ax_Rf mX9_bestTwo 7 x (ax_Z ax_jI x G) G 0 0 59 [some (.ref 57), some (.int l1), some (.int l2), some (.int l3), some (.int l4), some (.int a5), some (.int a6), some (.int a7), none] [] μ (r59 a5 a6 a7 μ)) (μ : ax_M) : ax_Rf mX9_bestTwo 7 x (ax_Z ax_jI x G) G 0 0 124 [some (.ref 57), some (.int l1), some (.int l2), some (.int l3), some (.int l4), some (.int l5), some (.int l6), some (.int l7), none] [] μ (fX9_bestTwo_K124 l1 l2 l3 l4 l5 l6 l7 r59 μ) := by
  unfold fX9_bestTwo_K124
  refine rf_iinc (lc2 := [some (.ref 57), some (.int l1), some (.int l2), some (.int l3), some (.int l4), some (.int l5), some (.int l6), some (.int (l7 + (1 : Int32))), none]) (n := 127) (w := (1 : Int32)) 7 dX9_bestTwo_124 rfl rfl rfl (Nat.le_of_ble_eq_true rfl) rfl rfl ?_
  refine rf_goto (tg := 59) dX9_bestTwo_127 rfl ?_
  exact hr59 _ _ _ _
def fX9_bestTwo_B59 (l1 : Int32) (l2 : Int32) (l3 : Int32) (l4 : Int32) (r59 : Int32 → Int32 → Int32 → ax_M → Option (Int32 × ax_M)) (l5 : Int32) (l6 : Int32) (l7 : Int32) (μ : ax_M) : Option (Int32 × ax_M) :=
  (if (4096 : Int32) ≤ l7 then (Option.bind (ax_wr μ 74 68 ((1 : Int32) + l1) l3) (fun m8 => (Option.bind (ax_wr m8 74 68 ((1 : Int32) + l2) l4) (fun m9 => (some (l5, m9)))))) else (Option.bind (ax_dv l7 (64 : Int32)) (fun v10 => (Option.bind (ax_wr μ 74 68 ((1 : Int32) + l1) v10) (fun m11 => (Option.bind (ax_rm l7 (64 : Int32)) (fun v12 => (Option.bind (ax_wr m11 74 68 ((1 : Int32) + l2) v12) (fun m13 => (ax_bd (fX9_leastNow m13) (fun v14 m15 => (if v14 = (-2 : Int32) then (fX9_bestTwo_K124 l1 l2 l3 l4 l5 l6 l7 r59 m15) else (if v14 < l6 then (fX9_bestTwo_K124 l1 l2 l3 l4 l7 v14 l7 r59 m15) else (fX9_bestTwo_K124 l1 l2 l3 l4 l5 l6 l7 r59 m15))))))))))))))
theorem pX9_bestTwo_B59 {x : ax_X} {G : ax_G} (hG : ax_ok G) (l1 : Int32) (l2 : Int32) (l3 : Int32) (l4 : Int32) (r59 : Int32 → Int32 → Int32 → ax_M → Option (Int32 × ax_M)) (hr59 : ∀ (a5 : Int32) (a6 : Int32) (a7 : Int32) (μ : ax_M), ax_Rf mX9_bestTwo 7 x (ax_Z ax_jI x G) G 0 0 59 [some (.ref 57), some (.int l1), some (.int l2), some (.int l3), some (.int l4), some (.int a5), some (.int a6), some (.int a7), none] [] μ (r59 a5 a6 a7 μ)) (l5 : Int32) (l6 : Int32) (l7 : Int32) (μ : ax_M) : ax_Rf mX9_bestTwo 7 x (ax_Z ax_jI x G) G 0 0 59 [some (.ref 57), some (.int l1), some (.int l2), some (.int l3), some (.int l4), some (.int l5), some (.int l6), some (.int l7), none] [] μ (fX9_bestTwo_B59 l1 l2 l3 l4 r59 l5 l6 l7 μ) := by
  unfold fX9_bestTwo_B59
  refine rf_iload (n := 61) 7 dX9_bestTwo_59 rfl rfl ?_
  refine rf_sipush (n := 64) (4096 : Int32) dX9_bestTwo_61 ccsipush_4096 rfl ?_
  refine rf_icmp_ge (tg := 130) (n := 67) dX9_bestTwo_64 rfl rfl (fun c18 => ?_) (fun c18 => ?_)
  · refine rf_aload_n (n := 131) 0 dX9_bestTwo_130 rfl rfl rfl ?_
    refine rf_getR (n := 134) rr_57_28 kk_74 hG dX9_bestTwo_131 flX9_63 ki_9_28 sS_57 kk_57 rfl ?_
    refine rf_iconst (n := 135) (1 : Int32) dX9_bestTwo_134 cciconst_1 rfl ?_
    refine rf_iload_n (n := 136) 1 dX9_bestTwo_135 rfl rfl rfl ?_
    refine rf_iadd (n := 137) dX9_bestTwo_136 rfl ?_
    refine rf_iload_n (n := 138) 3 dX9_bestTwo_137 rfl rfl rfl ?_
    refine rf_iast (n := 139) hG dX9_bestTwo_138 sS_74 kk_74 rfl (fun m8 => ?_)
    refine rf_aload_n (n := 140) 0 dX9_bestTwo_139 rfl rfl rfl ?_
    refine rf_getR (n := 143) rr_57_28 kk_74 hG dX9_bestTwo_140 flX9_63 ki_9_28 sS_57 kk_57 rfl ?_
    refine rf_iconst (n := 144) (1 : Int32) dX9_bestTwo_143 cciconst_1 rfl ?_
    refine rf_iload_n (n := 145) 2 dX9_bestTwo_144 rfl rfl rfl ?_
    refine rf_iadd (n := 146) dX9_bestTwo_145 rfl ?_
    refine rf_iload (n := 148) 4 dX9_bestTwo_146 rfl rfl ?_
    refine rf_iast (n := 149) hG dX9_bestTwo_148 sS_74 kk_74 rfl (fun m9 => ?_)
    refine rf_iload (n := 151) 5 dX9_bestTwo_149 rfl rfl ?_
    exact rf_retI rfl dX9_bestTwo_151
  · refine rf_aload_n (n := 68) 0 dX9_bestTwo_67 rfl rfl rfl ?_
    refine rf_getR (n := 71) rr_57_28 kk_74 hG dX9_bestTwo_68 flX9_63 ki_9_28 sS_57 kk_57 rfl ?_
    refine rf_iconst (n := 72) (1 : Int32) dX9_bestTwo_71 cciconst_1 rfl ?_
    refine rf_iload_n (n := 73) 1 dX9_bestTwo_72 rfl rfl rfl ?_
    refine rf_iadd (n := 74) dX9_bestTwo_73 rfl ?_
    refine rf_iload (n := 76) 7 dX9_bestTwo_74 rfl rfl ?_
    refine rf_bipush (n := 78) (64 : Int32) dX9_bestTwo_76 ccbipush_64 rfl ?_
    refine rf_idiv (n := 79) dX9_bestTwo_78 rfl (fun v10 => ?_)
    refine rf_iast (n := 80) hG dX9_bestTwo_79 sS_74 kk_74 rfl (fun m11 => ?_)
    refine rf_aload_n (n := 81) 0 dX9_bestTwo_80 rfl rfl rfl ?_
    refine rf_getR (n := 84) rr_57_28 kk_74 hG dX9_bestTwo_81 flX9_63 ki_9_28 sS_57 kk_57 rfl ?_
    refine rf_iconst (n := 85) (1 : Int32) dX9_bestTwo_84 cciconst_1 rfl ?_
    refine rf_iload_n (n := 86) 2 dX9_bestTwo_85 rfl rfl rfl ?_
    refine rf_iadd (n := 87) dX9_bestTwo_86 rfl ?_
    refine rf_iload (n := 89) 7 dX9_bestTwo_87 rfl rfl ?_
    refine rf_bipush (n := 91) (64 : Int32) dX9_bestTwo_89 ccbipush_64 rfl ?_
    refine rf_irem (n := 92) dX9_bestTwo_91 rfl (fun v12 => ?_)
    refine rf_iast (n := 93) hG dX9_bestTwo_92 sS_74 kk_74 rfl (fun m13 => ?_)
    refine rf_aload_n (n := 94) 0 dX9_bestTwo_93 rfl rfl rfl ?_
    refine rf_cV0I (n := 97) hG (okX9_leastNow _) lVX9_366 hhX9_leastNow kk_57 sS_57 ⟨_, rfl, rfl⟩ dX9_bestTwo_94 rfl (Nat.le_of_ble_eq_true rfl) (Nat.le_of_ble_eq_true rfl) (fun v14 m15 => ?_)
    refine rf_istore (lc2 := [some (.ref 57), some (.int l1), some (.int l2), some (.int l3), some (.int l4), some (.int l5), some (.int l6), some (.int l7), some (.int v14)]) (n := 99) 8 dX9_bestTwo_97 rfl (Nat.le_of_ble_eq_true rfl) rfl rfl ?_
    refine rf_iload (n := 101) 8 dX9_bestTwo_99 rfl rfl ?_
    refine rf_bipush (n := 103) (-2 : Int32) dX9_bestTwo_101 ccbipush_m2 rfl ?_
    refine rf_icmp_eq (tg := 124) (n := 106) dX9_bestTwo_103 rfl rfl (fun c17 => ?_) (fun c17 => ?_)
    · refine rf_mask (lc2 := [some (.ref 57), some (.int l1), some (.int l2), some (.int l3), some (.int l4), some (.int l5), some (.int l6), some (.int l7), none]) [true, true, true, true, true, true, true, true, false] rfl ?_
      exact pX9_bestTwo_K124 hG _ _ _ _ _ _ _ r59 hr59 _
    · refine rf_iload (n := 108) 8 dX9_bestTwo_106 rfl rfl ?_
      refine rf_iload (n := 110) 6 dX9_bestTwo_108 rfl rfl ?_
      refine rf_icmp_lt (tg := 116) (n := 113) dX9_bestTwo_110 rfl rfl (fun c16 => ?_) (fun c16 => ?_)
      · refine rf_iload (n := 118) 7 dX9_bestTwo_116 rfl rfl ?_
        refine rf_istore (lc2 := [some (.ref 57), some (.int l1), some (.int l2), some (.int l3), some (.int l4), some (.int l7), some (.int l6), some (.int l7), some (.int v14)]) (n := 120) 5 dX9_bestTwo_118 rfl (Nat.le_of_ble_eq_true rfl) rfl rfl ?_
        refine rf_iload (n := 122) 8 dX9_bestTwo_120 rfl rfl ?_
        refine rf_istore (lc2 := [some (.ref 57), some (.int l1), some (.int l2), some (.int l3), some (.int l4), some (.int l7), some (.int v14), some (.int l7), some (.int v14)]) (n := 124) 6 dX9_bestTwo_122 rfl (Nat.le_of_ble_eq_true rfl) rfl rfl ?_
        refine rf_mask (lc2 := [some (.ref 57), some (.int l1), some (.int l2), some (.int l3), some (.int l4), some (.int l7), some (.int v14), some (.int l7), none]) [true, true, true, true, true, true, true, true, false] rfl ?_
        exact pX9_bestTwo_K124 hG _ _ _ _ _ _ _ r59 hr59 _
      · refine rf_goto (tg := 124) dX9_bestTwo_113 rfl ?_
        refine rf_mask (lc2 := [some (.ref 57), some (.int l1), some (.int l2), some (.int l3), some (.int l4), some (.int l5), some (.int l6), some (.int l7), none]) [true, true, true, true, true, true, true, true, false] rfl ?_
        exact pX9_bestTwo_K124 hG _ _ _ _ _ _ _ r59 hr59 _
theorem pX9_bestTwo_L59 {x : ax_X} {G : ax_G} (hG : ax_ok G) (l1 : Int32) (l2 : Int32) (l3 : Int32) (l4 : Int32) (n : Nat) (a5 : Int32) (a6 : Int32) (a7 : Int32) (μ : ax_M) : ax_Rf mX9_bestTwo 7 x (ax_Z ax_jI x G) G 0 0 59 [some (.ref 57), some (.int l1), some (.int l2), some (.int l3), some (.int l4), some (.int a5), some (.int a6), some (.int a7), none] [] μ (ax_lp3 (fX9_bestTwo_B59 l1 l2 l3 l4) n a5 a6 a7 μ) :=
  rf_lp3 (P := fun a5 a6 a7 μ t => ax_Rf mX9_bestTwo 7 x (ax_Z ax_jI x G) G 0 0 59 [some (.ref 57), some (.int l1), some (.int l2), some (.int l3), some (.int l4), some (.int a5), some (.int a6), some (.int a7), none] [] μ t) (fun _ _ _ _ => rf_none) (fun rc hrc a5 a6 a7 μ => pX9_bestTwo_B59 hG l1 l2 l3 l4 rc hrc a5 a6 a7 μ) n a5 a6 a7 μ
def fX9_bestTwo (p1 : Int32) (p2 : Int32) (μ : ax_M) : Option (Int32 × ax_M) :=
  (ax_let (ax_wi μ 57 0 (0 : Int32)) (fun m1 => (ax_bd (fX9_isPhase p1 m1) (fun v2 m3 => (if v2 = 0 then (fX9_bestTwo_K26 m3) else (ax_bd (fX9_isPhase p2 m3) (fun v4 m5 => (if v4 = 0 then (fX9_bestTwo_K26 m5) else (if p1 = p2 then (fX9_bestTwo_K26 m5) else (Option.bind (ax_rd m5 74 68 ((1 : Int32) + p1)) (fun v6 => (Option.bind (ax_rd m5 74 68 ((1 : Int32) + p2)) (fun v7 => (ax_lp3 (fX9_bestTwo_B59 p1 p2 v6 v7) ax_FU (-2 : Int32) (10000 : Int32) (0 : Int32) m5))))))))))))))
theorem okX9_bestTwo (p1 : Int32) (p2 : Int32) (μ : ax_M) : ax_Ok mX9_bestTwo 7 ax_jI [.ref 57, .int p1, .int p2] μ (fX9_bestTwo p1 p2 μ) := by
  refine ax_start (lc := [some (.ref 57), some (.int p1), some (.int p2), none, none, none, none, none, none]) 6 (by decide +kernel) rfl (Nat.le_of_ble_eq_true rfl) (fun x G hG => ?_)
  unfold fX9_bestTwo
  refine rf_aload_n (n := 1) 0 dX9_bestTwo_0 rfl rfl rfl ?_
  refine rf_iconst (n := 2) (0 : Int32) dX9_bestTwo_1 cciconst_0 rfl ?_
  refine rf_pfI (n := 5) hG rfl dX9_bestTwo_2 flX9_103 ki_9_0 nf_9_0 sS_57 kk_57 rfl (fun m1 => ?_)
  refine rf_aload_n (n := 6) 0 dX9_bestTwo_5 rfl rfl rfl ?_
  refine rf_iload_n (n := 7) 1 dX9_bestTwo_6 rfl rfl rfl ?_
  refine rf_cV1I (n := 10) hG (okX9_isPhase _ _) lVX9_262 hhX9_isPhase kk_57 sS_57 ⟨_, rfl, rfl⟩ dX9_bestTwo_7 rfl (Nat.le_of_ble_eq_true rfl) (Nat.le_of_ble_eq_true rfl) (fun v2 m3 => ?_)
  refine rf_if_eq (tg := 26) (n := 13) dX9_bestTwo_10 rfl rfl (fun c21 => ?_) (fun c21 => ?_)
  · refine rf_mask (lc2 := [none, none, none, none, none, none, none, none, none]) [false, false, false, true, true, true, true, true, true] rfl ?_
    exact pX9_bestTwo_K26 hG _
  · refine rf_aload_n (n := 14) 0 dX9_bestTwo_13 rfl rfl rfl ?_
    refine rf_iload_n (n := 15) 2 dX9_bestTwo_14 rfl rfl rfl ?_
    refine rf_cV1I (n := 18) hG (okX9_isPhase _ _) lVX9_262 hhX9_isPhase kk_57 sS_57 ⟨_, rfl, rfl⟩ dX9_bestTwo_15 rfl (Nat.le_of_ble_eq_true rfl) (Nat.le_of_ble_eq_true rfl) (fun v4 m5 => ?_)
    refine rf_if_eq (tg := 26) (n := 21) dX9_bestTwo_18 rfl rfl (fun c20 => ?_) (fun c20 => ?_)
    · refine rf_mask (lc2 := [none, none, none, none, none, none, none, none, none]) [false, false, false, true, true, true, true, true, true] rfl ?_
      exact pX9_bestTwo_K26 hG _
    · refine rf_iload_n (n := 22) 1 dX9_bestTwo_21 rfl rfl rfl ?_
      refine rf_iload_n (n := 23) 2 dX9_bestTwo_22 rfl rfl rfl ?_
      refine rf_icmp_ne (tg := 28) (n := 26) dX9_bestTwo_23 rfl rfl (fun c19 => ?_) (fun c19 => ?_)
      · refine rf_aload_n (n := 29) 0 dX9_bestTwo_28 rfl rfl rfl ?_
        refine rf_getR (n := 32) rr_57_28 kk_74 hG dX9_bestTwo_29 flX9_63 ki_9_28 sS_57 kk_57 rfl ?_
        refine rf_iconst (n := 33) (1 : Int32) dX9_bestTwo_32 cciconst_1 rfl ?_
        refine rf_iload_n (n := 34) 1 dX9_bestTwo_33 rfl rfl rfl ?_
        refine rf_iadd (n := 35) dX9_bestTwo_34 rfl ?_
        refine rf_iald (n := 36) hG dX9_bestTwo_35 sS_74 kk_74 rfl (fun v6 => ?_)
        refine rf_istore_n (lc2 := [some (.ref 57), some (.int p1), some (.int p2), some (.int v6), none, none, none, none, none]) (n := 37) 3 dX9_bestTwo_36 rfl rfl (Nat.le_of_ble_eq_true rfl) rfl rfl ?_
        refine rf_aload_n (n := 38) 0 dX9_bestTwo_37 rfl rfl rfl ?_
        refine rf_getR (n := 41) rr_57_28 kk_74 hG dX9_bestTwo_38 flX9_63 ki_9_28 sS_57 kk_57 rfl ?_
        refine rf_iconst (n := 42) (1 : Int32) dX9_bestTwo_41 cciconst_1 rfl ?_
        refine rf_iload_n (n := 43) 2 dX9_bestTwo_42 rfl rfl rfl ?_
        refine rf_iadd (n := 44) dX9_bestTwo_43 rfl ?_
        refine rf_iald (n := 45) hG dX9_bestTwo_44 sS_74 kk_74 rfl (fun v7 => ?_)
        refine rf_istore (lc2 := [some (.ref 57), some (.int p1), some (.int p2), some (.int v6), some (.int v7), none, none, none, none]) (n := 47) 4 dX9_bestTwo_45 rfl (Nat.le_of_ble_eq_true rfl) rfl rfl ?_
        refine rf_bipush (n := 49) (-2 : Int32) dX9_bestTwo_47 ccbipush_m2 rfl ?_
        refine rf_istore (lc2 := [some (.ref 57), some (.int p1), some (.int p2), some (.int v6), some (.int v7), some (.int (-2 : Int32)), none, none, none]) (n := 51) 5 dX9_bestTwo_49 rfl (Nat.le_of_ble_eq_true rfl) rfl rfl ?_
        refine rf_sipush (n := 54) (10000 : Int32) dX9_bestTwo_51 ccsipush_10000 rfl ?_
        refine rf_istore (lc2 := [some (.ref 57), some (.int p1), some (.int p2), some (.int v6), some (.int v7), some (.int (-2 : Int32)), some (.int (10000 : Int32)), none, none]) (n := 56) 6 dX9_bestTwo_54 rfl (Nat.le_of_ble_eq_true rfl) rfl rfl ?_
        refine rf_iconst (n := 57) (0 : Int32) dX9_bestTwo_56 cciconst_0 rfl ?_
        refine rf_istore (lc2 := [some (.ref 57), some (.int p1), some (.int p2), some (.int v6), some (.int v7), some (.int (-2 : Int32)), some (.int (10000 : Int32)), some (.int (0 : Int32)), none]) (n := 59) 7 dX9_bestTwo_57 rfl (Nat.le_of_ble_eq_true rfl) rfl rfl ?_
        exact pX9_bestTwo_L59 hG _ _ _ _ _ _ _ _ _
      · refine rf_mask (lc2 := [none, none, none, none, none, none, none, none, none]) [false, false, false, true, true, true, true, true, true] rfl ?_
        exact pX9_bestTwo_K26 hG _
def fX4_gainOf (p1 : Int32) (μ : ax_M) : Option (Int32 × ax_M) :=
  (ax_bd (fX4_shortestPeriod μ) (fun v1 m2 => (if v1 = (-1 : Int32) then (some ((-2 : Int32), m2)) else (Option.bind (ax_rd m2 13 24 p1) (fun v3 => (Option.bind (ax_rd m2 14 24 p1) (fun v4 => (Option.bind (ax_wr m2 13 24 p1 v4) (fun m5 => (ax_bd (fX4_shortestPeriod m5) (fun v6 m7 => (Option.bind (ax_wr m7 13 24 p1 v3) (fun m8 => (some ((v1 - v6), m8)))))))))))))))
theorem okX4_gainOf (p1 : Int32) (μ : ax_M) : ax_Ok mX4_gainOf 6 ax_jI [.ref 46, .int p1] μ (fX4_gainOf p1 μ) := by
  refine ax_start (lc := [some (.ref 46), some (.int p1), none, none, none]) 3 (by decide +kernel) rfl (Nat.le_of_ble_eq_true rfl) (fun x G hG => ?_)
  unfold fX4_gainOf
  refine rf_aload_n (n := 1) 0 dX4_gainOf_0 rfl rfl rfl ?_
  refine rf_cV0I (n := 4) hG (okX4_shortestPeriod _) lVX4_73 hhX4_shortestPeriod kk_46 sS_46 ⟨_, rfl, rfl⟩ dX4_gainOf_1 rfl (Nat.le_of_ble_eq_true rfl) (Nat.le_of_ble_eq_true rfl) (fun v1 m2 => ?_)
  refine rf_istore_n (lc2 := [some (.ref 46), some (.int p1), some (.int v1), none, none]) (n := 5) 2 dX4_gainOf_4 rfl rfl (Nat.le_of_ble_eq_true rfl) rfl rfl ?_
  refine rf_iload_n (n := 6) 2 dX4_gainOf_5 rfl rfl rfl ?_
  refine rf_iconst (n := 7) (-1 : Int32) dX4_gainOf_6 cciconst_m1 rfl ?_
  refine rf_icmp_ne (tg := 13) (n := 10) dX4_gainOf_7 rfl rfl (fun c9 => ?_) (fun c9 => ?_)
  · refine rf_aload_n (n := 14) 0 dX4_gainOf_13 rfl rfl rfl ?_
    refine rf_getR (n := 17) rr_46_0 kk_2 hG dX4_gainOf_14 flX4_18 ki_4_0 sS_46 kk_46 rfl ?_
    refine rf_getR (n := 20) rr_2_10 kk_13 hG dX4_gainOf_17 flX4_42 ki_1_10 sS_2 kk_2 rfl ?_
    refine rf_iload_n (n := 21) 1 dX4_gainOf_20 rfl rfl rfl ?_
    refine rf_iald (n := 22) hG dX4_gainOf_21 sS_13 kk_13 rfl (fun v3 => ?_)
    refine rf_istore_n (lc2 := [some (.ref 46), some (.int p1), some (.int v1), some (.int v3), none]) (n := 23) 3 dX4_gainOf_22 rfl rfl (Nat.le_of_ble_eq_true rfl) rfl rfl ?_
    refine rf_aload_n (n := 24) 0 dX4_gainOf_23 rfl rfl rfl ?_
    refine rf_getR (n := 27) rr_46_0 kk_2 hG dX4_gainOf_24 flX4_18 ki_4_0 sS_46 kk_46 rfl ?_
    refine rf_getR (n := 30) rr_2_10 kk_13 hG dX4_gainOf_27 flX4_42 ki_1_10 sS_2 kk_2 rfl ?_
    refine rf_iload_n (n := 31) 1 dX4_gainOf_30 rfl rfl rfl ?_
    refine rf_aload_n (n := 32) 0 dX4_gainOf_31 rfl rfl rfl ?_
    refine rf_getR (n := 35) rr_46_0 kk_2 hG dX4_gainOf_32 flX4_18 ki_4_0 sS_46 kk_46 rfl ?_
    refine rf_getR (n := 38) rr_2_11 kk_14 hG dX4_gainOf_35 flX4_47 ki_1_11 sS_2 kk_2 rfl ?_
    refine rf_iload_n (n := 39) 1 dX4_gainOf_38 rfl rfl rfl ?_
    refine rf_iald (n := 40) hG dX4_gainOf_39 sS_14 kk_14 rfl (fun v4 => ?_)
    refine rf_iast (n := 41) hG dX4_gainOf_40 sS_13 kk_13 rfl (fun m5 => ?_)
    refine rf_aload_n (n := 42) 0 dX4_gainOf_41 rfl rfl rfl ?_
    refine rf_cV0I (n := 45) hG (okX4_shortestPeriod _) lVX4_73 hhX4_shortestPeriod kk_46 sS_46 ⟨_, rfl, rfl⟩ dX4_gainOf_42 rfl (Nat.le_of_ble_eq_true rfl) (Nat.le_of_ble_eq_true rfl) (fun v6 m7 => ?_)
    refine rf_istore (lc2 := [some (.ref 46), some (.int p1), some (.int v1), some (.int v3), some (.int v6)]) (n := 47) 4 dX4_gainOf_45 rfl (Nat.le_of_ble_eq_true rfl) rfl rfl ?_
    refine rf_aload_n (n := 48) 0 dX4_gainOf_47 rfl rfl rfl ?_
    refine rf_getR (n := 51) rr_46_0 kk_2 hG dX4_gainOf_48 flX4_18 ki_4_0 sS_46 kk_46 rfl ?_
    refine rf_getR (n := 54) rr_2_10 kk_13 hG dX4_gainOf_51 flX4_42 ki_1_10 sS_2 kk_2 rfl ?_
    refine rf_iload_n (n := 55) 1 dX4_gainOf_54 rfl rfl rfl ?_
    refine rf_iload_n (n := 56) 3 dX4_gainOf_55 rfl rfl rfl ?_
    refine rf_iast (n := 57) hG dX4_gainOf_56 sS_13 kk_13 rfl (fun m8 => ?_)
    refine rf_iload_n (n := 58) 2 dX4_gainOf_57 rfl rfl rfl ?_
    refine rf_iload (n := 60) 4 dX4_gainOf_58 rfl rfl ?_
    refine rf_isub (n := 61) dX4_gainOf_60 rfl ?_
    exact rf_retI rfl dX4_gainOf_61
  · refine rf_bipush (n := 12) (-2 : Int32) dX4_gainOf_10 ccbipush_m2 rfl ?_
    exact rf_retI rfl dX4_gainOf_12
def fX8_gain_K23 (s0 : Int32) (μ : ax_M) : Option (Int32 × ax_M) :=
  (some (s0, μ))
theorem pX8_gain_K23 {x : ax_X} {G : ax_G} (hG : ax_ok G) (s0 : Int32) (μ : ax_M) : ax_Rf mX8_gain 7 x (ax_Z ax_jI x G) G 0 0 23 [none, none] [.int s0] μ (fX8_gain_K23 s0 μ) := by
  unfold fX8_gain_K23
  exact rf_retI rfl dX8_gain_23
def fX8_gain (p1 : Int32) (μ : ax_M) : Option (Int32 × ax_M) :=
  (ax_bd (fX1_hasPath p1 μ) (fun v1 m2 => (if v1 = 0 then (fX8_gain_K23 (-1 : Int32) m2) else (ax_bd (fX4_gainOf p1 m2) (fun v3 m4 => (fX8_gain_K23 v3 m4))))))
theorem okX8_gain (p1 : Int32) (μ : ax_M) : ax_Ok mX8_gain 7 ax_jI [.ref 0, .int p1] μ (fX8_gain p1 μ) := by
  refine ax_start (lc := [some (.ref 0), some (.int p1)]) 0 (by decide +kernel) rfl (Nat.le_of_ble_eq_true rfl) (fun x G hG => ?_)
  unfold fX8_gain
  refine rf_aload_n (n := 1) 0 dX8_gain_0 rfl rfl rfl ?_
  refine rf_getR (n := 4) rr_0_2 kk_2 hG dX8_gain_1 flX8_16 ki_8_2 sS_0 kk_0 rfl ?_
  refine rf_iload_n (n := 5) 1 dX8_gain_4 rfl rfl rfl ?_
  refine rf_cV1I (n := 8) hG (okX1_hasPath _ _) lVX8_143 hhX1_hasPath kk_2 sS_2 ⟨_, rfl, rfl⟩ dX8_gain_5 rfl (Nat.le_of_ble_eq_true rfl) (Nat.le_of_ble_eq_true rfl) (fun v1 m2 => ?_)
  refine rf_if_eq (tg := 22) (n := 11) dX8_gain_8 rfl rfl (fun c5 => ?_) (fun c5 => ?_)
  · refine rf_iconst (n := 23) (-1 : Int32) dX8_gain_22 cciconst_m1 rfl ?_
    refine rf_mask (lc2 := [none, none]) [false, false] rfl ?_
    exact pX8_gain_K23 hG _ _
  · refine rf_aload_n (n := 12) 0 dX8_gain_11 rfl rfl rfl ?_
    refine rf_getR (n := 15) rr_0_8 kk_46 hG dX8_gain_12 flX8_64 ki_8_8 sS_0 kk_0 rfl ?_
    refine rf_iload_n (n := 16) 1 dX8_gain_15 rfl rfl rfl ?_
    refine rf_cV1I (n := 19) hG (okX4_gainOf _ _) lVX8_284 hhX4_gainOf kk_46 sS_46 ⟨_, rfl, rfl⟩ dX8_gain_16 rfl (Nat.le_of_ble_eq_true rfl) (Nat.le_of_ble_eq_true rfl) (fun v3 m4 => ?_)
    refine rf_goto (tg := 23) dX8_gain_19 rfl ?_
    refine rf_mask (lc2 := [none, none]) [false, false] rfl ?_
    exact pX8_gain_K23 hG _ _
def fX9_gain (p1 : Int32) (μ : ax_M) : Option (Int32 × ax_M) :=
  (ax_let (ax_wi μ 57 0 (0 : Int32)) (fun m1 => (ax_bd (fX9_isPath p1 m1) (fun v2 m3 => (if v2 = 0 then (some ((-1 : Int32), m3)) else (ax_bd (fX9_leastNow m3) (fun v4 m5 => (if v4 = (-2 : Int32) then (some ((-2 : Int32), m5)) else (Option.bind (ax_rd m5 74 68 ((19 : Int32) + p1)) (fun v6 => (Option.bind (ax_rd m5 74 68 ((43 : Int32) + p1)) (fun v7 => (Option.bind (ax_wr m5 74 68 ((19 : Int32) + p1) v7) (fun m8 => (ax_bd (fX9_leastNow m8) (fun v9 m10 => (Option.bind (ax_wr m10 74 68 ((19 : Int32) + p1) v6) (fun m11 => (some ((v4 - v9), m11))))))))))))))))))))
theorem okX9_gain (p1 : Int32) (μ : ax_M) : ax_Ok mX9_gain 7 ax_jI [.ref 57, .int p1] μ (fX9_gain p1 μ) := by
  refine ax_start (lc := [some (.ref 57), some (.int p1), none, none, none]) 3 (by decide +kernel) rfl (Nat.le_of_ble_eq_true rfl) (fun x G hG => ?_)
  unfold fX9_gain
  refine rf_aload_n (n := 1) 0 dX9_gain_0 rfl rfl rfl ?_
  refine rf_iconst (n := 2) (0 : Int32) dX9_gain_1 cciconst_0 rfl ?_
  refine rf_pfI (n := 5) hG rfl dX9_gain_2 flX9_103 ki_9_0 nf_9_0 sS_57 kk_57 rfl (fun m1 => ?_)
  refine rf_aload_n (n := 6) 0 dX9_gain_5 rfl rfl rfl ?_
  refine rf_iload_n (n := 7) 1 dX9_gain_6 rfl rfl rfl ?_
  refine rf_cV1I (n := 10) hG (okX9_isPath _ _) lVX9_265 hhX9_isPath kk_57 sS_57 ⟨_, rfl, rfl⟩ dX9_gain_7 rfl (Nat.le_of_ble_eq_true rfl) (Nat.le_of_ble_eq_true rfl) (fun v2 m3 => ?_)
  refine rf_if_ne (tg := 15) (n := 13) dX9_gain_10 rfl rfl (fun c13 => ?_) (fun c13 => ?_)
  · refine rf_aload_n (n := 16) 0 dX9_gain_15 rfl rfl rfl ?_
    refine rf_cV0I (n := 19) hG (okX9_leastNow _) lVX9_366 hhX9_leastNow kk_57 sS_57 ⟨_, rfl, rfl⟩ dX9_gain_16 rfl (Nat.le_of_ble_eq_true rfl) (Nat.le_of_ble_eq_true rfl) (fun v4 m5 => ?_)
    refine rf_istore_n (lc2 := [some (.ref 57), some (.int p1), some (.int v4), none, none]) (n := 20) 2 dX9_gain_19 rfl rfl (Nat.le_of_ble_eq_true rfl) rfl rfl ?_
    refine rf_iload_n (n := 21) 2 dX9_gain_20 rfl rfl rfl ?_
    refine rf_bipush (n := 23) (-2 : Int32) dX9_gain_21 ccbipush_m2 rfl ?_
    refine rf_icmp_ne (tg := 29) (n := 26) dX9_gain_23 rfl rfl (fun c12 => ?_) (fun c12 => ?_)
    · refine rf_aload_n (n := 30) 0 dX9_gain_29 rfl rfl rfl ?_
      refine rf_getR (n := 33) rr_57_28 kk_74 hG dX9_gain_30 flX9_63 ki_9_28 sS_57 kk_57 rfl ?_
      refine rf_bipush (n := 35) (19 : Int32) dX9_gain_33 ccbipush_19 rfl ?_
      refine rf_iload_n (n := 36) 1 dX9_gain_35 rfl rfl rfl ?_
      refine rf_iadd (n := 37) dX9_gain_36 rfl ?_
      refine rf_iald (n := 38) hG dX9_gain_37 sS_74 kk_74 rfl (fun v6 => ?_)
      refine rf_istore_n (lc2 := [some (.ref 57), some (.int p1), some (.int v4), some (.int v6), none]) (n := 39) 3 dX9_gain_38 rfl rfl (Nat.le_of_ble_eq_true rfl) rfl rfl ?_
      refine rf_aload_n (n := 40) 0 dX9_gain_39 rfl rfl rfl ?_
      refine rf_getR (n := 43) rr_57_28 kk_74 hG dX9_gain_40 flX9_63 ki_9_28 sS_57 kk_57 rfl ?_
      refine rf_bipush (n := 45) (19 : Int32) dX9_gain_43 ccbipush_19 rfl ?_
      refine rf_iload_n (n := 46) 1 dX9_gain_45 rfl rfl rfl ?_
      refine rf_iadd (n := 47) dX9_gain_46 rfl ?_
      refine rf_aload_n (n := 48) 0 dX9_gain_47 rfl rfl rfl ?_
      refine rf_getR (n := 51) rr_57_28 kk_74 hG dX9_gain_48 flX9_63 ki_9_28 sS_57 kk_57 rfl ?_
      refine rf_bipush (n := 53) (43 : Int32) dX9_gain_51 ccbipush_43 rfl ?_
      refine rf_iload_n (n := 54) 1 dX9_gain_53 rfl rfl rfl ?_
      refine rf_iadd (n := 55) dX9_gain_54 rfl ?_
      refine rf_iald (n := 56) hG dX9_gain_55 sS_74 kk_74 rfl (fun v7 => ?_)
      refine rf_iast (n := 57) hG dX9_gain_56 sS_74 kk_74 rfl (fun m8 => ?_)
      refine rf_aload_n (n := 58) 0 dX9_gain_57 rfl rfl rfl ?_
      refine rf_cV0I (n := 61) hG (okX9_leastNow _) lVX9_366 hhX9_leastNow kk_57 sS_57 ⟨_, rfl, rfl⟩ dX9_gain_58 rfl (Nat.le_of_ble_eq_true rfl) (Nat.le_of_ble_eq_true rfl) (fun v9 m10 => ?_)
      refine rf_istore (lc2 := [some (.ref 57), some (.int p1), some (.int v4), some (.int v6), some (.int v9)]) (n := 63) 4 dX9_gain_61 rfl (Nat.le_of_ble_eq_true rfl) rfl rfl ?_
      refine rf_aload_n (n := 64) 0 dX9_gain_63 rfl rfl rfl ?_
      refine rf_getR (n := 67) rr_57_28 kk_74 hG dX9_gain_64 flX9_63 ki_9_28 sS_57 kk_57 rfl ?_
      refine rf_bipush (n := 69) (19 : Int32) dX9_gain_67 ccbipush_19 rfl ?_
      refine rf_iload_n (n := 70) 1 dX9_gain_69 rfl rfl rfl ?_
      refine rf_iadd (n := 71) dX9_gain_70 rfl ?_
      refine rf_iload_n (n := 72) 3 dX9_gain_71 rfl rfl rfl ?_
      refine rf_iast (n := 73) hG dX9_gain_72 sS_74 kk_74 rfl (fun m11 => ?_)
      refine rf_iload_n (n := 74) 2 dX9_gain_73 rfl rfl rfl ?_
      refine rf_iload (n := 76) 4 dX9_gain_74 rfl rfl ?_
      refine rf_isub (n := 77) dX9_gain_76 rfl ?_
      exact rf_retI rfl dX9_gain_77
    · refine rf_bipush (n := 28) (-2 : Int32) dX9_gain_26 ccbipush_m2 rfl ?_
      exact rf_retI rfl dX9_gain_28
  · refine rf_iconst (n := 14) (-1 : Int32) dX9_gain_13 cciconst_m1 rfl ?_
    exact rf_retI rfl dX9_gain_14
def fX1_latches (μ : ax_M) : Option (Int32 × ax_M) :=
  (some (((((1 : Int32) <<< ((μ.1 2 13) &&& 31)) - (1 : Int32)) &&& ((μ.1 2 15) ^^^ (-1 : Int32))), μ))
theorem okX1_latches (μ : ax_M) : ax_Ok mX1_latches 0 ax_jI [.ref 2] μ (fX1_latches μ) := by
  refine ax_start (lc := [some (.ref 2)]) 0 (by decide +kernel) rfl (Nat.le_of_ble_eq_true rfl) (fun x G hG => ?_)
  unfold fX1_latches
  refine rf_iconst (n := 1) (1 : Int32) dX1_latches_0 cciconst_1 rfl ?_
  refine rf_aload_n (n := 2) 0 dX1_latches_1 rfl rfl rfl ?_
  refine rf_getI (n := 5) hG dX1_latches_2 flX1_55 ki_1_13 sS_2 kk_2 rfl ?_
  refine rf_ishl (n := 6) dX1_latches_5 rfl ?_
  refine rf_iconst (n := 7) (1 : Int32) dX1_latches_6 cciconst_1 rfl ?_
  refine rf_isub (n := 8) dX1_latches_7 rfl ?_
  refine rf_aload_n (n := 9) 0 dX1_latches_8 rfl rfl rfl ?_
  refine rf_getI (n := 12) hG dX1_latches_9 flX1_61 ki_1_15 sS_2 kk_2 rfl ?_
  refine rf_iconst (n := 13) (-1 : Int32) dX1_latches_12 cciconst_m1 rfl ?_
  refine rf_ixor (n := 14) dX1_latches_13 rfl ?_
  refine rf_iand (n := 15) dX1_latches_14 rfl ?_
  exact rf_retI rfl dX1_latches_15
def fJ6_bitCount_0f7a4 (p0 : Int32) (μ : ax_M) : Option (Int32 × ax_M) :=
  (ax_let (p0 - ((ax_us p0 (1 : Int32)) &&& (1431655765 : Int32))) (fun v1 => (ax_let ((v1 &&& (858993459 : Int32)) + ((ax_us v1 (2 : Int32)) &&& (858993459 : Int32))) (fun v2 => (ax_let ((v2 + (ax_us v2 (4 : Int32))) &&& (252645135 : Int32)) (fun v3 => (ax_let (v3 + (ax_us v3 (8 : Int32))) (fun v4 => (ax_let (v4 + (ax_us v4 (16 : Int32))) (fun v5 => (some ((v5 &&& (63 : Int32)), μ))))))))))))
theorem okJ6_bitCount_0f7a4 (p0 : Int32) (μ : ax_M) : ax_Ok mJ6_bitCount_0f7a4 0 ax_jI [.int p0] μ (fJ6_bitCount_0f7a4 p0 μ) := by
  refine ax_start (lc := [some (.int p0)]) 0 (by decide +kernel) rfl (Nat.le_of_ble_eq_true rfl) (fun x G hG => ?_)
  unfold fJ6_bitCount_0f7a4
  refine rf_iload_n (n := 1) 0 dJ6_bitCount_0f7a4_0 rfl rfl rfl ?_
  refine rf_iload_n (n := 2) 0 dJ6_bitCount_0f7a4_1 rfl rfl rfl ?_
  refine rf_iconst (n := 3) (1 : Int32) dJ6_bitCount_0f7a4_2 cciconst_1 rfl ?_
  refine rf_iushr (n := 4) dJ6_bitCount_0f7a4_3 rfl ?_
  refine rf_ldcw (n := 7) dJ6_bitCount_0f7a4_4 ctJ6_265 rfl ?_
  refine rf_iand (n := 8) dJ6_bitCount_0f7a4_7 rfl ?_
  refine rf_isub (n := 9) dJ6_bitCount_0f7a4_8 rfl ?_
  refine rf_letI (fun v1 => ?_)
  refine rf_istore_n (lc2 := [some (.int v1)]) (n := 10) 0 dJ6_bitCount_0f7a4_9 rfl rfl (Nat.le_of_ble_eq_true rfl) rfl rfl ?_
  refine rf_iload_n (n := 11) 0 dJ6_bitCount_0f7a4_10 rfl rfl rfl ?_
  refine rf_ldcw (n := 14) dJ6_bitCount_0f7a4_11 ctJ6_266 rfl ?_
  refine rf_iand (n := 15) dJ6_bitCount_0f7a4_14 rfl ?_
  refine rf_iload_n (n := 16) 0 dJ6_bitCount_0f7a4_15 rfl rfl rfl ?_
  refine rf_iconst (n := 17) (2 : Int32) dJ6_bitCount_0f7a4_16 cciconst_2 rfl ?_
  refine rf_iushr (n := 18) dJ6_bitCount_0f7a4_17 rfl ?_
  refine rf_ldcw (n := 21) dJ6_bitCount_0f7a4_18 ctJ6_266 rfl ?_
  refine rf_iand (n := 22) dJ6_bitCount_0f7a4_21 rfl ?_
  refine rf_iadd (n := 23) dJ6_bitCount_0f7a4_22 rfl ?_
  refine rf_letI (fun v2 => ?_)
  refine rf_istore_n (lc2 := [some (.int v2)]) (n := 24) 0 dJ6_bitCount_0f7a4_23 rfl rfl (Nat.le_of_ble_eq_true rfl) rfl rfl ?_
  refine rf_iload_n (n := 25) 0 dJ6_bitCount_0f7a4_24 rfl rfl rfl ?_
  refine rf_iload_n (n := 26) 0 dJ6_bitCount_0f7a4_25 rfl rfl rfl ?_
  refine rf_iconst (n := 27) (4 : Int32) dJ6_bitCount_0f7a4_26 cciconst_4 rfl ?_
  refine rf_iushr (n := 28) dJ6_bitCount_0f7a4_27 rfl ?_
  refine rf_iadd (n := 29) dJ6_bitCount_0f7a4_28 rfl ?_
  refine rf_ldcw (n := 32) dJ6_bitCount_0f7a4_29 ctJ6_267 rfl ?_
  refine rf_iand (n := 33) dJ6_bitCount_0f7a4_32 rfl ?_
  refine rf_letI (fun v3 => ?_)
  refine rf_istore_n (lc2 := [some (.int v3)]) (n := 34) 0 dJ6_bitCount_0f7a4_33 rfl rfl (Nat.le_of_ble_eq_true rfl) rfl rfl ?_
  refine rf_iload_n (n := 35) 0 dJ6_bitCount_0f7a4_34 rfl rfl rfl ?_
  refine rf_iload_n (n := 36) 0 dJ6_bitCount_0f7a4_35 rfl rfl rfl ?_
  refine rf_bipush (n := 38) (8 : Int32) dJ6_bitCount_0f7a4_36 ccbipush_8 rfl ?_
  refine rf_iushr (n := 39) dJ6_bitCount_0f7a4_38 rfl ?_
  refine rf_iadd (n := 40) dJ6_bitCount_0f7a4_39 rfl ?_
  refine rf_letI (fun v4 => ?_)
  refine rf_istore_n (lc2 := [some (.int v4)]) (n := 41) 0 dJ6_bitCount_0f7a4_40 rfl rfl (Nat.le_of_ble_eq_true rfl) rfl rfl ?_
  refine rf_iload_n (n := 42) 0 dJ6_bitCount_0f7a4_41 rfl rfl rfl ?_
  refine rf_iload_n (n := 43) 0 dJ6_bitCount_0f7a4_42 rfl rfl rfl ?_
  refine rf_bipush (n := 45) (16 : Int32) dJ6_bitCount_0f7a4_43 ccbipush_16 rfl ?_
  refine rf_iushr (n := 46) dJ6_bitCount_0f7a4_45 rfl ?_
  refine rf_iadd (n := 47) dJ6_bitCount_0f7a4_46 rfl ?_
  refine rf_letI (fun v5 => ?_)
  refine rf_istore_n (lc2 := [some (.int v5)]) (n := 48) 0 dJ6_bitCount_0f7a4_47 rfl rfl (Nat.le_of_ble_eq_true rfl) rfl rfl ?_
  refine rf_iload_n (n := 49) 0 dJ6_bitCount_0f7a4_48 rfl rfl rfl ?_
  refine rf_bipush (n := 51) (63 : Int32) dJ6_bitCount_0f7a4_49 ccbipush_63 rfl ?_
  refine rf_iand (n := 52) dJ6_bitCount_0f7a4_51 rfl ?_
  exact rf_retI rfl dJ6_bitCount_0f7a4_52
def fX0_hasLoop_K79 (s0 : Int32) (μ : ax_M) : Option (Int32 × ax_M) :=
  (some (vp_nar .boolean s0, μ))
theorem pX0_hasLoop_K79 {x : ax_X} {G : ax_G} (hG : ax_ok G) (s0 : Int32) (μ : ax_M) : ax_Rf mX0_hasLoop 0 x (ax_Z ax_jI x G) G 0 0 79 [none, none, none, none, none, none] [.int s0] μ (fX0_hasLoop_K79 s0 μ) := by
  unfold fX0_hasLoop_K79
  exact rf_retZ rfl dX0_hasLoop_79
def fX0_hasLoop_K70 (l2 : Int32) (μ : ax_M) : Option (Int32 × ax_M) :=
  (if l2 = 0 then (fX0_hasLoop_K79 (0 : Int32) μ) else (fX0_hasLoop_K79 (1 : Int32) μ))
theorem pX0_hasLoop_K70 {x : ax_X} {G : ax_G} (hG : ax_ok G) (l2 : Int32) (μ : ax_M) : ax_Rf mX0_hasLoop 0 x (ax_Z ax_jI x G) G 0 0 70 [none, none, some (.int l2), none, none, none] [] μ (fX0_hasLoop_K70 l2 μ) := by
  unfold fX0_hasLoop_K70
  refine rf_iload_n (n := 71) 2 dX0_hasLoop_70 rfl rfl rfl ?_
  refine rf_if_eq (tg := 78) (n := 74) dX0_hasLoop_71 rfl rfl (fun c1 => ?_) (fun c1 => ?_)
  · refine rf_iconst (n := 79) (0 : Int32) dX0_hasLoop_78 cciconst_0 rfl ?_
    refine rf_mask (lc2 := [none, none, none, none, none, none]) [true, true, false, true, true, true] rfl ?_
    exact pX0_hasLoop_K79 hG _ _
  · refine rf_iconst (n := 75) (1 : Int32) dX0_hasLoop_74 cciconst_1 rfl ?_
    refine rf_goto (tg := 79) dX0_hasLoop_75 rfl ?_
    refine rf_mask (lc2 := [none, none, none, none, none, none]) [true, true, false, true, true, true] rfl ?_
    exact pX0_hasLoop_K79 hG _ _
def fX0_hasLoop_K49 (l2 : Int32) (l3 : Int32) (l4 : Int32) (l5 : Int32) (r16 : Int32 → Int32 → ax_M → Option (Int32 × ax_M)) (μ : ax_M) : Option (Int32 × ax_M) :=
  (r16 l2 (l5 + (1 : Int32)) μ)
theorem pX0_hasLoop_K49 {x : ax_X} {G : ax_G} (hG : ax_ok G) (l2 : Int32) (l3 : Int32) (l4 : Int32) (l5 : Int32) (r16 : Int32 → Int32 → ax_M → Option (Int32 × ax_M)) (hr16 : ∀ (a2 : Int32) (a5 : Int32) (μ : ax_M), ax_Rf mX0_hasLoop 0 x (ax_Z ax_jI x G) G 0 0 16 [some (.ref 41), none, some (.int a2), some (.int l3), some (.int l4), some (.int a5)] [] μ (r16 a2 a5 μ)) (μ : ax_M) : ax_Rf mX0_hasLoop 0 x (ax_Z ax_jI x G) G 0 0 49 [some (.ref 41), none, some (.int l2), some (.int l3), some (.int l4), some (.int l5)] [] μ (fX0_hasLoop_K49 l2 l3 l4 l5 r16 μ) := by
  unfold fX0_hasLoop_K49
  refine rf_iinc (lc2 := [some (.ref 41), none, some (.int l2), some (.int l3), some (.int l4), some (.int (l5 + (1 : Int32)))]) (n := 52) (w := (1 : Int32)) 5 dX0_hasLoop_49 rfl rfl rfl (Nat.le_of_ble_eq_true rfl) rfl rfl ?_
  refine rf_goto (tg := 16) dX0_hasLoop_52 rfl ?_
  exact hr16 _ _ _
def fX0_hasLoop_B16 (l3 : Int32) (l4 : Int32) (r4 : Int32 → Int32 → ax_M → Option (Int32 × ax_M)) (r16 : Int32 → Int32 → ax_M → Option (Int32 × ax_M)) (l2 : Int32) (l5 : Int32) (μ : ax_M) : Option (Int32 × ax_M) :=
  (if (μ.1 2 13) ≤ l5 then (if l2 = l4 then (fX0_hasLoop_K70 l2 μ) else (r4 l2 (l3 + (1 : Int32)) μ)) else (Option.bind (ax_rd μ 42 10 l5) (fun v3 => (if (v3 &&& l2) = 0 then (ax_let (l2 &&& (((1 : Int32) <<< (l5 &&& 31)) ^^^ (-1 : Int32))) (fun v4 => (fX0_hasLoop_K49 v4 l3 l4 l5 r16 μ))) else (fX0_hasLoop_K49 l2 l3 l4 l5 r16 μ)))))
theorem pX0_hasLoop_B16 {x : ax_X} {G : ax_G} (hG : ax_ok G) (l3 : Int32) (l4 : Int32) (r4 : Int32 → Int32 → ax_M → Option (Int32 × ax_M)) (hr4 : ∀ (a2 : Int32) (a3 : Int32) (μ : ax_M), ax_Rf mX0_hasLoop 0 x (ax_Z ax_jI x G) G 0 0 4 [some (.ref 41), none, some (.int a2), some (.int a3), none, none] [] μ (r4 a2 a3 μ)) (r16 : Int32 → Int32 → ax_M → Option (Int32 × ax_M)) (hr16 : ∀ (a2 : Int32) (a5 : Int32) (μ : ax_M), ax_Rf mX0_hasLoop 0 x (ax_Z ax_jI x G) G 0 0 16 [some (.ref 41), none, some (.int a2), some (.int l3), some (.int l4), some (.int a5)] [] μ (r16 a2 a5 μ)) (l2 : Int32) (l5 : Int32) (μ : ax_M) : ax_Rf mX0_hasLoop 0 x (ax_Z ax_jI x G) G 0 0 16 [some (.ref 41), none, some (.int l2), some (.int l3), some (.int l4), some (.int l5)] [] μ (fX0_hasLoop_B16 l3 l4 r4 r16 l2 l5 μ) := by
  unfold fX0_hasLoop_B16
  refine rf_iload (n := 18) 5 dX0_hasLoop_16 rfl rfl ?_
  refine rf_aload_n (n := 19) 0 dX0_hasLoop_18 rfl rfl rfl ?_
  refine rf_getR (n := 22) rr_41_0 kk_2 hG dX0_hasLoop_19 flX0_24 ki_0_0 sS_41 kk_41 rfl ?_
  refine rf_getI (n := 25) hG dX0_hasLoop_22 flX0_46 ki_1_13 sS_2 kk_2 rfl ?_
  refine rf_icmp_ge (tg := 55) (n := 28) dX0_hasLoop_25 rfl rfl (fun c6 => ?_) (fun c6 => ?_)
  · refine rf_iload_n (n := 56) 2 dX0_hasLoop_55 rfl rfl rfl ?_
    refine rf_iload (n := 58) 4 dX0_hasLoop_56 rfl rfl ?_
    refine rf_icmp_ne (tg := 64) (n := 61) dX0_hasLoop_58 rfl rfl (fun c2 => ?_) (fun c2 => ?_)
    · refine rf_iinc (lc2 := [some (.ref 41), none, some (.int l2), some (.int (l3 + (1 : Int32))), some (.int l4), some (.int l5)]) (n := 67) (w := (1 : Int32)) 3 dX0_hasLoop_64 rfl rfl rfl (Nat.le_of_ble_eq_true rfl) rfl rfl ?_
      refine rf_goto (tg := 4) dX0_hasLoop_67 rfl ?_
      refine rf_mask (lc2 := [some (.ref 41), none, some (.int l2), some (.int (l3 + (1 : Int32))), none, none]) [true, true, true, true, false, false] rfl ?_
      exact hr4 _ _ _
    · refine rf_goto (tg := 70) dX0_hasLoop_61 rfl ?_
      refine rf_mask (lc2 := [none, none, some (.int l2), none, none, none]) [false, true, true, false, false, false] rfl ?_
      exact pX0_hasLoop_K70 hG _ _
  · refine rf_aload_n (n := 29) 0 dX0_hasLoop_28 rfl rfl rfl ?_
    refine rf_getR (n := 32) rr_41_1 kk_42 hG dX0_hasLoop_29 flX0_9 ki_0_1 sS_41 kk_41 rfl ?_
    refine rf_iload (n := 34) 5 dX0_hasLoop_32 rfl rfl ?_
    refine rf_iald (n := 35) hG dX0_hasLoop_34 sS_42 kk_42 rfl (fun v3 => ?_)
    refine rf_iload_n (n := 36) 2 dX0_hasLoop_35 rfl rfl rfl ?_
    refine rf_iand (n := 37) dX0_hasLoop_36 rfl ?_
    refine rf_if_ne (tg := 49) (n := 40) dX0_hasLoop_37 rfl rfl (fun c5 => ?_) (fun c5 => ?_)
    · exact pX0_hasLoop_K49 hG _ _ _ _ r16 hr16 _
    · refine rf_iload_n (n := 41) 2 dX0_hasLoop_40 rfl rfl rfl ?_
      refine rf_iconst (n := 42) (1 : Int32) dX0_hasLoop_41 cciconst_1 rfl ?_
      refine rf_iload (n := 44) 5 dX0_hasLoop_42 rfl rfl ?_
      refine rf_ishl (n := 45) dX0_hasLoop_44 rfl ?_
      refine rf_iconst (n := 46) (-1 : Int32) dX0_hasLoop_45 cciconst_m1 rfl ?_
      refine rf_ixor (n := 47) dX0_hasLoop_46 rfl ?_
      refine rf_iand (n := 48) dX0_hasLoop_47 rfl ?_
      refine rf_letI (fun v4 => ?_)
      refine rf_istore_n (lc2 := [some (.ref 41), none, some (.int v4), some (.int l3), some (.int l4), some (.int l5)]) (n := 49) 2 dX0_hasLoop_48 rfl rfl (Nat.le_of_ble_eq_true rfl) rfl rfl ?_
      exact pX0_hasLoop_K49 hG _ _ _ _ r16 hr16 _
theorem pX0_hasLoop_L16 {x : ax_X} {G : ax_G} (hG : ax_ok G) (l3 : Int32) (l4 : Int32) (r4 : Int32 → Int32 → ax_M → Option (Int32 × ax_M)) (hr4 : ∀ (a2 : Int32) (a3 : Int32) (μ : ax_M), ax_Rf mX0_hasLoop 0 x (ax_Z ax_jI x G) G 0 0 4 [some (.ref 41), none, some (.int a2), some (.int a3), none, none] [] μ (r4 a2 a3 μ)) (n : Nat) (a2 : Int32) (a5 : Int32) (μ : ax_M) : ax_Rf mX0_hasLoop 0 x (ax_Z ax_jI x G) G 0 0 16 [some (.ref 41), none, some (.int a2), some (.int l3), some (.int l4), some (.int a5)] [] μ (ax_lp2 (fX0_hasLoop_B16 l3 l4 r4) n a2 a5 μ) :=
  rf_lp2 (P := fun a2 a5 μ t => ax_Rf mX0_hasLoop 0 x (ax_Z ax_jI x G) G 0 0 16 [some (.ref 41), none, some (.int a2), some (.int l3), some (.int l4), some (.int a5)] [] μ t) (fun _ _ _ => rf_none) (fun rc hrc a2 a5 μ => pX0_hasLoop_B16 hG l3 l4 r4 hr4 rc hrc a2 a5 μ) n a2 a5 μ
def fX0_hasLoop_B4 (r4 : Int32 → Int32 → ax_M → Option (Int32 × ax_M)) (l2 : Int32) (l3 : Int32) (μ : ax_M) : Option (Int32 × ax_M) :=
  (if (10 : Int32) ≤ l3 then (fX0_hasLoop_K70 l2 μ) else (ax_lp2 (fX0_hasLoop_B16 l3 l2 r4) ax_FU l2 (0 : Int32) μ))
theorem pX0_hasLoop_B4 {x : ax_X} {G : ax_G} (hG : ax_ok G) (r4 : Int32 → Int32 → ax_M → Option (Int32 × ax_M)) (hr4 : ∀ (a2 : Int32) (a3 : Int32) (μ : ax_M), ax_Rf mX0_hasLoop 0 x (ax_Z ax_jI x G) G 0 0 4 [some (.ref 41), none, some (.int a2), some (.int a3), none, none] [] μ (r4 a2 a3 μ)) (l2 : Int32) (l3 : Int32) (μ : ax_M) : ax_Rf mX0_hasLoop 0 x (ax_Z ax_jI x G) G 0 0 4 [some (.ref 41), none, some (.int l2), some (.int l3), none, none] [] μ (fX0_hasLoop_B4 r4 l2 l3 μ) := by
  unfold fX0_hasLoop_B4
  refine rf_iload_n (n := 5) 3 dX0_hasLoop_4 rfl rfl rfl ?_
  refine rf_bipush (n := 7) (10 : Int32) dX0_hasLoop_5 ccbipush_10 rfl ?_
  refine rf_icmp_ge (tg := 70) (n := 10) dX0_hasLoop_7 rfl rfl (fun c7 => ?_) (fun c7 => ?_)
  · refine rf_mask (lc2 := [none, none, some (.int l2), none, none, none]) [false, true, true, false, true, true] rfl ?_
    exact pX0_hasLoop_K70 hG _ _
  · refine rf_iload_n (n := 11) 2 dX0_hasLoop_10 rfl rfl rfl ?_
    refine rf_istore (lc2 := [some (.ref 41), none, some (.int l2), some (.int l3), some (.int l2), none]) (n := 13) 4 dX0_hasLoop_11 rfl (Nat.le_of_ble_eq_true rfl) rfl rfl ?_
    refine rf_iconst (n := 14) (0 : Int32) dX0_hasLoop_13 cciconst_0 rfl ?_
    refine rf_istore (lc2 := [some (.ref 41), none, some (.int l2), some (.int l3), some (.int l2), some (.int (0 : Int32))]) (n := 16) 5 dX0_hasLoop_14 rfl (Nat.le_of_ble_eq_true rfl) rfl rfl ?_
    exact pX0_hasLoop_L16 hG _ _ r4 hr4 _ _ _ _
theorem pX0_hasLoop_L4 {x : ax_X} {G : ax_G} (hG : ax_ok G) (n : Nat) (a2 : Int32) (a3 : Int32) (μ : ax_M) : ax_Rf mX0_hasLoop 0 x (ax_Z ax_jI x G) G 0 0 4 [some (.ref 41), none, some (.int a2), some (.int a3), none, none] [] μ (ax_lp2 (fX0_hasLoop_B4) n a2 a3 μ) :=
  rf_lp2 (P := fun a2 a3 μ t => ax_Rf mX0_hasLoop 0 x (ax_Z ax_jI x G) G 0 0 4 [some (.ref 41), none, some (.int a2), some (.int a3), none, none] [] μ t) (fun _ _ _ => rf_none) (fun rc hrc a2 a3 μ => pX0_hasLoop_B4 hG rc hrc a2 a3 μ) n a2 a3 μ
def fX0_hasLoop (p1 : Int32) (μ : ax_M) : Option (Int32 × ax_M) :=
  (ax_lp2 (fX0_hasLoop_B4) ax_FU p1 (0 : Int32) μ)
theorem okX0_hasLoop (p1 : Int32) (μ : ax_M) : ax_Ok mX0_hasLoop 0 ax_jI [.ref 41, .int p1] μ (fX0_hasLoop p1 μ) := by
  refine ax_start (lc := [some (.ref 41), some (.int p1), none, none, none, none]) 4 (by decide +kernel) rfl (Nat.le_of_ble_eq_true rfl) (fun x G hG => ?_)
  unfold fX0_hasLoop
  refine rf_iload_n (n := 1) 1 dX0_hasLoop_0 rfl rfl rfl ?_
  refine rf_istore_n (lc2 := [some (.ref 41), some (.int p1), some (.int p1), none, none, none]) (n := 2) 2 dX0_hasLoop_1 rfl rfl (Nat.le_of_ble_eq_true rfl) rfl rfl ?_
  refine rf_iconst (n := 3) (0 : Int32) dX0_hasLoop_2 cciconst_0 rfl ?_
  refine rf_istore_n (lc2 := [some (.ref 41), some (.int p1), some (.int p1), some (.int (0 : Int32)), none, none]) (n := 4) 3 dX0_hasLoop_3 rfl rfl (Nat.le_of_ble_eq_true rfl) rfl rfl ?_
  refine rf_mask (lc2 := [some (.ref 41), none, some (.int p1), some (.int (0 : Int32)), none, none]) [true, false, true, true, true, true] rfl ?_
  exact pX0_hasLoop_L4 hG _ _ _ _
def fX0_fewestBreaks_K66 (l1 : Int32) (l2 : Int32) (l3 : Int32) (r16 : Int32 → Int32 → ax_M → Option (Int32 × ax_M)) (μ : ax_M) : Option (Int32 × ax_M) :=
  (r16 l2 (l3 + (1 : Int32)) μ)
theorem pX0_fewestBreaks_K66 {x : ax_X} {G : ax_G} (hG : ax_ok G) (l1 : Int32) (l2 : Int32) (l3 : Int32) (r16 : Int32 → Int32 → ax_M → Option (Int32 × ax_M)) (hr16 : ∀ (a2 : Int32) (a3 : Int32) (μ : ax_M), ax_Rf mX0_fewestBreaks 2 x (ax_Z ax_jI x G) G 0 0 16 [some (.ref 41), some (.int l1), some (.int a2), some (.int a3), none] [] μ (r16 a2 a3 μ)) (μ : ax_M) : ax_Rf mX0_fewestBreaks 2 x (ax_Z ax_jI x G) G 0 0 66 [some (.ref 41), some (.int l1), some (.int l2), some (.int l3), none] [] μ (fX0_fewestBreaks_K66 l1 l2 l3 r16 μ) := by
  unfold fX0_fewestBreaks_K66
  refine rf_iinc (lc2 := [some (.ref 41), some (.int l1), some (.int l2), some (.int (l3 + (1 : Int32))), none]) (n := 69) (w := (1 : Int32)) 3 dX0_fewestBreaks_66 rfl rfl rfl (Nat.le_of_ble_eq_true rfl) rfl rfl ?_
  refine rf_goto (tg := 16) dX0_fewestBreaks_69 rfl ?_
  exact hr16 _ _ _
def fX0_fewestBreaks_K37 (l1 : Int32) (l2 : Int32) (l3 : Int32) (s0 : Int32) (r16 : Int32 → Int32 → ax_M → Option (Int32 × ax_M)) (μ : ax_M) : Option (Int32 × ax_M) :=
  (if s0 = 0 then (fX0_fewestBreaks_K66 l1 l2 l3 r16 μ) else (if (l3 &&& (l1 ^^^ (-1 : Int32))) = 0 then (ax_bd (fX0_hasLoop (l1 &&& (l3 ^^^ (-1 : Int32))) μ) (fun v9 m10 => (if v9 = 0 then (fX0_fewestBreaks_K66 l1 l3 l3 r16 m10) else (fX0_fewestBreaks_K66 l1 l2 l3 r16 m10)))) else (fX0_fewestBreaks_K66 l1 l2 l3 r16 μ)))
theorem pX0_fewestBreaks_K37 {x : ax_X} {G : ax_G} (hG : ax_ok G) (l1 : Int32) (l2 : Int32) (l3 : Int32) (s0 : Int32) (r16 : Int32 → Int32 → ax_M → Option (Int32 × ax_M)) (hr16 : ∀ (a2 : Int32) (a3 : Int32) (μ : ax_M), ax_Rf mX0_fewestBreaks 2 x (ax_Z ax_jI x G) G 0 0 16 [some (.ref 41), some (.int l1), some (.int a2), some (.int a3), none] [] μ (r16 a2 a3 μ)) (μ : ax_M) : ax_Rf mX0_fewestBreaks 2 x (ax_Z ax_jI x G) G 0 0 37 [some (.ref 41), some (.int l1), some (.int l2), some (.int l3), none] [.int s0] μ (fX0_fewestBreaks_K37 l1 l2 l3 s0 r16 μ) := by
  unfold fX0_fewestBreaks_K37
  refine rf_istore (lc2 := [some (.ref 41), some (.int l1), some (.int l2), some (.int l3), some (.int s0)]) (n := 39) 4 dX0_fewestBreaks_37 rfl (Nat.le_of_ble_eq_true rfl) rfl rfl ?_
  refine rf_iload (n := 41) 4 dX0_fewestBreaks_39 rfl rfl ?_
  refine rf_if_eq (tg := 66) (n := 44) dX0_fewestBreaks_41 rfl rfl (fun c13 => ?_) (fun c13 => ?_)
  · refine rf_mask (lc2 := [some (.ref 41), some (.int l1), some (.int l2), some (.int l3), none]) [true, true, true, true, false] rfl ?_
    exact pX0_fewestBreaks_K66 hG _ _ _ r16 hr16 _
  · refine rf_iload_n (n := 45) 3 dX0_fewestBreaks_44 rfl rfl rfl ?_
    refine rf_iload_n (n := 46) 1 dX0_fewestBreaks_45 rfl rfl rfl ?_
    refine rf_iconst (n := 47) (-1 : Int32) dX0_fewestBreaks_46 cciconst_m1 rfl ?_
    refine rf_ixor (n := 48) dX0_fewestBreaks_47 rfl ?_
    refine rf_iand (n := 49) dX0_fewestBreaks_48 rfl ?_
    refine rf_if_ne (tg := 66) (n := 52) dX0_fewestBreaks_49 rfl rfl (fun c12 => ?_) (fun c12 => ?_)
    · refine rf_mask (lc2 := [some (.ref 41), some (.int l1), some (.int l2), some (.int l3), none]) [true, true, true, true, false] rfl ?_
      exact pX0_fewestBreaks_K66 hG _ _ _ r16 hr16 _
    · refine rf_aload_n (n := 53) 0 dX0_fewestBreaks_52 rfl rfl rfl ?_
      refine rf_iload_n (n := 54) 1 dX0_fewestBreaks_53 rfl rfl rfl ?_
      refine rf_iload_n (n := 55) 3 dX0_fewestBreaks_54 rfl rfl rfl ?_
      refine rf_iconst (n := 56) (-1 : Int32) dX0_fewestBreaks_55 cciconst_m1 rfl ?_
      refine rf_ixor (n := 57) dX0_fewestBreaks_56 rfl ?_
      refine rf_iand (n := 58) dX0_fewestBreaks_57 rfl ?_
      refine rf_cV1I (n := 61) hG (okX0_hasLoop _ _) lVX0_103 hhX0_hasLoop kk_41 sS_41 ⟨_, rfl, rfl⟩ dX0_fewestBreaks_58 rfl (Nat.le_of_ble_eq_true rfl) (Nat.le_of_ble_eq_true rfl) (fun v9 m10 => ?_)
      refine rf_if_ne (tg := 66) (n := 64) dX0_fewestBreaks_61 rfl rfl (fun c11 => ?_) (fun c11 => ?_)
      · refine rf_mask (lc2 := [some (.ref 41), some (.int l1), some (.int l2), some (.int l3), none]) [true, true, true, true, false] rfl ?_
        exact pX0_fewestBreaks_K66 hG _ _ _ r16 hr16 _
      · refine rf_iload_n (n := 65) 3 dX0_fewestBreaks_64 rfl rfl rfl ?_
        refine rf_istore_n (lc2 := [some (.ref 41), some (.int l1), some (.int l3), some (.int l3), some (.int s0)]) (n := 66) 2 dX0_fewestBreaks_65 rfl rfl (Nat.le_of_ble_eq_true rfl) rfl rfl ?_
        refine rf_mask (lc2 := [some (.ref 41), some (.int l1), some (.int l3), some (.int l3), none]) [true, true, true, true, false] rfl ?_
        exact pX0_fewestBreaks_K66 hG _ _ _ r16 hr16 _
def fX0_fewestBreaks_B16 (l1 : Int32) (r16 : Int32 → Int32 → ax_M → Option (Int32 × ax_M)) (l2 : Int32) (l3 : Int32) (μ : ax_M) : Option (Int32 × ax_M) :=
  (if l1 ≤ l3 then (some (l2, μ)) else (ax_bd (fJ6_bitCount_0f7a4 l3 μ) (fun v5 m6 => (ax_bd (fJ6_bitCount_0f7a4 l2 m6) (fun v7 m8 => (if v7 ≤ v5 then (fX0_fewestBreaks_K37 l1 l2 l3 (0 : Int32) r16 m8) else (fX0_fewestBreaks_K37 l1 l2 l3 (1 : Int32) r16 m8)))))))
theorem pX0_fewestBreaks_B16 {x : ax_X} {G : ax_G} (hG : ax_ok G) (l1 : Int32) (r16 : Int32 → Int32 → ax_M → Option (Int32 × ax_M)) (hr16 : ∀ (a2 : Int32) (a3 : Int32) (μ : ax_M), ax_Rf mX0_fewestBreaks 2 x (ax_Z ax_jI x G) G 0 0 16 [some (.ref 41), some (.int l1), some (.int a2), some (.int a3), none] [] μ (r16 a2 a3 μ)) (l2 : Int32) (l3 : Int32) (μ : ax_M) : ax_Rf mX0_fewestBreaks 2 x (ax_Z ax_jI x G) G 0 0 16 [some (.ref 41), some (.int l1), some (.int l2), some (.int l3), none] [] μ (fX0_fewestBreaks_B16 l1 r16 l2 l3 μ) := by
  unfold fX0_fewestBreaks_B16
  refine rf_iload_n (n := 17) 3 dX0_fewestBreaks_16 rfl rfl rfl ?_
  refine rf_iload_n (n := 18) 1 dX0_fewestBreaks_17 rfl rfl rfl ?_
  refine rf_icmp_ge (tg := 72) (n := 21) dX0_fewestBreaks_18 rfl rfl (fun c15 => ?_) (fun c15 => ?_)
  · refine rf_iload_n (n := 73) 2 dX0_fewestBreaks_72 rfl rfl rfl ?_
    exact rf_retI rfl dX0_fewestBreaks_73
  · refine rf_iload_n (n := 22) 3 dX0_fewestBreaks_21 rfl rfl rfl ?_
    refine rf_cS1I (n := 25) hG (okJ6_bitCount_0f7a4 _ _) lSX0_98 hhJ6_bitCount_0f7a4 dX0_fewestBreaks_22 rfl (Nat.le_of_ble_eq_true rfl) (Nat.le_of_ble_eq_true rfl) (fun v5 m6 => ?_)
    refine rf_iload_n (n := 26) 2 dX0_fewestBreaks_25 rfl rfl rfl ?_
    refine rf_cS1I (n := 29) hG (okJ6_bitCount_0f7a4 _ _) lSX0_98 hhJ6_bitCount_0f7a4 dX0_fewestBreaks_26 rfl (Nat.le_of_ble_eq_true rfl) (Nat.le_of_ble_eq_true rfl) (fun v7 m8 => ?_)
    refine rf_icmp_ge (tg := 36) (n := 32) dX0_fewestBreaks_29 rfl rfl (fun c14 => ?_) (fun c14 => ?_)
    · refine rf_iconst (n := 37) (0 : Int32) dX0_fewestBreaks_36 cciconst_0 rfl ?_
      exact pX0_fewestBreaks_K37 hG _ _ _ _ r16 hr16 _
    · refine rf_iconst (n := 33) (1 : Int32) dX0_fewestBreaks_32 cciconst_1 rfl ?_
      refine rf_goto (tg := 37) dX0_fewestBreaks_33 rfl ?_
      exact pX0_fewestBreaks_K37 hG _ _ _ _ r16 hr16 _
theorem pX0_fewestBreaks_L16 {x : ax_X} {G : ax_G} (hG : ax_ok G) (l1 : Int32) (n : Nat) (a2 : Int32) (a3 : Int32) (μ : ax_M) : ax_Rf mX0_fewestBreaks 2 x (ax_Z ax_jI x G) G 0 0 16 [some (.ref 41), some (.int l1), some (.int a2), some (.int a3), none] [] μ (ax_lp2 (fX0_fewestBreaks_B16 l1) n a2 a3 μ) :=
  rf_lp2 (P := fun a2 a3 μ t => ax_Rf mX0_fewestBreaks 2 x (ax_Z ax_jI x G) G 0 0 16 [some (.ref 41), some (.int l1), some (.int a2), some (.int a3), none] [] μ t) (fun _ _ _ => rf_none) (fun rc hrc a2 a3 μ => pX0_fewestBreaks_B16 hG l1 rc hrc a2 a3 μ) n a2 a3 μ
def fX0_fewestBreaks (μ : ax_M) : Option (Int32 × ax_M) :=
  (ax_bd (fX0_linkCells μ) (fun _ m2 => (ax_bd (fX1_latches m2) (fun v3 m4 => (ax_lp2 (fX0_fewestBreaks_B16 v3) ax_FU v3 (0 : Int32) m4)))))
theorem okX0_fewestBreaks (μ : ax_M) : ax_Ok mX0_fewestBreaks 2 ax_jI [.ref 41] μ (fX0_fewestBreaks μ) := by
  refine ax_start (lc := [some (.ref 41), none, none, none, none]) 4 (by decide +kernel) rfl (Nat.le_of_ble_eq_true rfl) (fun x G hG => ?_)
  unfold fX0_fewestBreaks
  refine rf_aload_n (n := 1) 0 dX0_fewestBreaks_0 rfl rfl rfl ?_
  refine rf_cV0V (n := 4) hG (okX0_linkCells _) lVX0_43 hhX0_linkCells kk_41 sS_41 ⟨_, rfl, rfl⟩ dX0_fewestBreaks_1 rfl (Nat.le_of_ble_eq_true rfl) (Nat.le_of_ble_eq_true rfl) (fun _ m2 => ?_)
  refine rf_aload_n (n := 5) 0 dX0_fewestBreaks_4 rfl rfl rfl ?_
  refine rf_getR (n := 8) rr_41_0 kk_2 hG dX0_fewestBreaks_5 flX0_24 ki_0_0 sS_41 kk_41 rfl ?_
  refine rf_cV0I (n := 11) hG (okX1_latches _) lVX0_94 hhX1_latches kk_2 sS_2 ⟨_, rfl, rfl⟩ dX0_fewestBreaks_8 rfl (Nat.le_of_ble_eq_true rfl) (Nat.le_of_ble_eq_true rfl) (fun v3 m4 => ?_)
  refine rf_istore_n (lc2 := [some (.ref 41), some (.int v3), none, none, none]) (n := 12) 1 dX0_fewestBreaks_11 rfl rfl (Nat.le_of_ble_eq_true rfl) rfl rfl ?_
  refine rf_iload_n (n := 13) 1 dX0_fewestBreaks_12 rfl rfl rfl ?_
  refine rf_istore_n (lc2 := [some (.ref 41), some (.int v3), some (.int v3), none, none]) (n := 14) 2 dX0_fewestBreaks_13 rfl rfl (Nat.le_of_ble_eq_true rfl) rfl rfl ?_
  refine rf_iconst (n := 15) (0 : Int32) dX0_fewestBreaks_14 cciconst_0 rfl ?_
  refine rf_istore_n (lc2 := [some (.ref 41), some (.int v3), some (.int v3), some (.int (0 : Int32)), none]) (n := 16) 3 dX0_fewestBreaks_15 rfl rfl (Nat.le_of_ble_eq_true rfl) rfl rfl ?_
  exact pX0_fewestBreaks_L16 hG _ _ _ _ _
def fX8_breaks (μ : ax_M) : Option (Int32 × ax_M) :=
  (ax_bd (fX0_fewestBreaks μ) (fun v1 m2 => (some (v1, m2))))
theorem okX8_breaks (μ : ax_M) : ax_Ok mX8_breaks 3 ax_jI [.ref 0] μ (fX8_breaks μ) := by
  refine ax_start (lc := [some (.ref 0)]) 0 (by decide +kernel) rfl (Nat.le_of_ble_eq_true rfl) (fun x G hG => ?_)
  unfold fX8_breaks
  refine rf_aload_n (n := 1) 0 dX8_breaks_0 rfl rfl rfl ?_
  refine rf_getR (n := 4) rr_0_7 kk_41 hG dX8_breaks_1 flX8_55 ki_8_7 sS_0 kk_0 rfl ?_
  refine rf_cV0I (n := 7) hG (okX0_fewestBreaks _) lVX8_287 hhX0_fewestBreaks kk_41 sS_41 ⟨_, rfl, rfl⟩ dX8_breaks_4 rfl (Nat.le_of_ble_eq_true rfl) (Nat.le_of_ble_eq_true rfl) (fun v1 m2 => ?_)
  exact rf_retI rfl dX8_breaks_7
def fX9_bits_B4 (r4 : Int32 → Int32 → ax_M → Option (Int32 × ax_M)) (l1 : Int32) (l2 : Int32) (μ : ax_M) : Option (Int32 × ax_M) :=
  (if l2 = 0 then (some (l1, μ)) else (ax_let (l2 &&& (l2 - (1 : Int32))) (fun v1 => (r4 (l1 + (1 : Int32)) v1 μ))))
theorem pX9_bits_B4 {x : ax_X} {G : ax_G} (hG : ax_ok G) (r4 : Int32 → Int32 → ax_M → Option (Int32 × ax_M)) (hr4 : ∀ (a1 : Int32) (a2 : Int32) (μ : ax_M), ax_Rf mX9_bits 0 x (ax_Z ax_jI x G) G 0 0 4 [none, some (.int a1), some (.int a2)] [] μ (r4 a1 a2 μ)) (l1 : Int32) (l2 : Int32) (μ : ax_M) : ax_Rf mX9_bits 0 x (ax_Z ax_jI x G) G 0 0 4 [none, some (.int l1), some (.int l2)] [] μ (fX9_bits_B4 r4 l1 l2 μ) := by
  unfold fX9_bits_B4
  refine rf_iload_n (n := 5) 2 dX9_bits_4 rfl rfl rfl ?_
  refine rf_if_eq (tg := 20) (n := 8) dX9_bits_5 rfl rfl (fun c2 => ?_) (fun c2 => ?_)
  · refine rf_iload_n (n := 21) 1 dX9_bits_20 rfl rfl rfl ?_
    exact rf_retI rfl dX9_bits_21
  · refine rf_iinc (lc2 := [none, some (.int (l1 + (1 : Int32))), some (.int l2)]) (n := 11) (w := (1 : Int32)) 1 dX9_bits_8 rfl rfl rfl (Nat.le_of_ble_eq_true rfl) rfl rfl ?_
    refine rf_iload_n (n := 12) 2 dX9_bits_11 rfl rfl rfl ?_
    refine rf_iload_n (n := 13) 2 dX9_bits_12 rfl rfl rfl ?_
    refine rf_iconst (n := 14) (1 : Int32) dX9_bits_13 cciconst_1 rfl ?_
    refine rf_isub (n := 15) dX9_bits_14 rfl ?_
    refine rf_iand (n := 16) dX9_bits_15 rfl ?_
    refine rf_letI (fun v1 => ?_)
    refine rf_istore_n (lc2 := [none, some (.int (l1 + (1 : Int32))), some (.int v1)]) (n := 17) 2 dX9_bits_16 rfl rfl (Nat.le_of_ble_eq_true rfl) rfl rfl ?_
    refine rf_goto (tg := 4) dX9_bits_17 rfl ?_
    exact hr4 _ _ _
theorem pX9_bits_L4 {x : ax_X} {G : ax_G} (hG : ax_ok G) (n : Nat) (a1 : Int32) (a2 : Int32) (μ : ax_M) : ax_Rf mX9_bits 0 x (ax_Z ax_jI x G) G 0 0 4 [none, some (.int a1), some (.int a2)] [] μ (ax_lp2 (fX9_bits_B4) n a1 a2 μ) :=
  rf_lp2 (P := fun a1 a2 μ t => ax_Rf mX9_bits 0 x (ax_Z ax_jI x G) G 0 0 4 [none, some (.int a1), some (.int a2)] [] μ t) (fun _ _ _ => rf_none) (fun rc hrc a1 a2 μ => pX9_bits_B4 hG rc hrc a1 a2 μ) n a1 a2 μ
def fX9_bits (p0 : Int32) (μ : ax_M) : Option (Int32 × ax_M) :=
  (ax_lp2 (fX9_bits_B4) ax_FU (0 : Int32) p0 μ)
theorem okX9_bits (p0 : Int32) (μ : ax_M) : ax_Ok mX9_bits 0 ax_jI [.int p0] μ (fX9_bits p0 μ) := by
  refine ax_start (lc := [some (.int p0), none, none]) 2 (by decide +kernel) rfl (Nat.le_of_ble_eq_true rfl) (fun x G hG => ?_)
  unfold fX9_bits
  refine rf_iconst (n := 1) (0 : Int32) dX9_bits_0 cciconst_0 rfl ?_
  refine rf_istore_n (lc2 := [some (.int p0), some (.int (0 : Int32)), none]) (n := 2) 1 dX9_bits_1 rfl rfl (Nat.le_of_ble_eq_true rfl) rfl rfl ?_
  refine rf_iload_n (n := 3) 0 dX9_bits_2 rfl rfl rfl ?_
  refine rf_istore_n (lc2 := [some (.int p0), some (.int (0 : Int32)), some (.int p0)]) (n := 4) 2 dX9_bits_3 rfl rfl (Nat.le_of_ble_eq_true rfl) rfl rfl ?_
  refine rf_mask (lc2 := [none, some (.int (0 : Int32)), some (.int p0)]) [false, true, true] rfl ?_
  exact pX9_bits_L4 hG _ _ _ _
def fX9_makes_K29 (l1 : Int32) (l2 : Int32) (l3 : Int32) (r2 : Int32 → ax_M → Option (Unit × ax_M)) (μ : ax_M) : Option (Unit × ax_M) :=
  (r2 (l3 + (1 : Int32)) μ)
theorem pX9_makes_K29 {x : ax_X} {G : ax_G} (hG : ax_ok G) (l1 : Int32) (l2 : Int32) (l3 : Int32) (r2 : Int32 → ax_M → Option (Unit × ax_M)) (hr2 : ∀ (a3 : Int32) (μ : ax_M), ax_Rf mX9_makes 1 x (ax_Z ax_jV x G) G 0 0 2 [some (.ref 57), some (.int l1), some (.int l2), some (.int a3)] [] μ (r2 a3 μ)) (μ : ax_M) : ax_Rf mX9_makes 1 x (ax_Z ax_jV x G) G 0 0 29 [some (.ref 57), some (.int l1), some (.int l2), some (.int l3)] [] μ (fX9_makes_K29 l1 l2 l3 r2 μ) := by
  unfold fX9_makes_K29
  refine rf_iinc (lc2 := [some (.ref 57), some (.int l1), some (.int l2), some (.int (l3 + (1 : Int32)))]) (n := 32) (w := (1 : Int32)) 3 dX9_makes_29 rfl rfl rfl (Nat.le_of_ble_eq_true rfl) rfl rfl ?_
  refine rf_goto (tg := 2) dX9_makes_32 rfl ?_
  exact hr2 _ _
def fX9_makes_B2 (l1 : Int32) (l2 : Int32) (r2 : Int32 → ax_M → Option (Unit × ax_M)) (l3 : Int32) (μ : ax_M) : Option (Unit × ax_M) :=
  (ax_bd (fX9_cells μ) (fun v1 m2 => (if v1 ≤ l3 then (some ((), m2)) else (if ((l1 >>> (l3 &&& 31)) &&& (1 : Int32)) = (1 : Int32) then (Option.bind (ax_wr m2 74 68 ((9 : Int32) + l3) l2) (fun m3 => (fX9_makes_K29 l1 l2 l3 r2 m3))) else (fX9_makes_K29 l1 l2 l3 r2 m2)))))
theorem pX9_makes_B2 {x : ax_X} {G : ax_G} (hG : ax_ok G) (l1 : Int32) (l2 : Int32) (r2 : Int32 → ax_M → Option (Unit × ax_M)) (hr2 : ∀ (a3 : Int32) (μ : ax_M), ax_Rf mX9_makes 1 x (ax_Z ax_jV x G) G 0 0 2 [some (.ref 57), some (.int l1), some (.int l2), some (.int a3)] [] μ (r2 a3 μ)) (l3 : Int32) (μ : ax_M) : ax_Rf mX9_makes 1 x (ax_Z ax_jV x G) G 0 0 2 [some (.ref 57), some (.int l1), some (.int l2), some (.int l3)] [] μ (fX9_makes_B2 l1 l2 r2 l3 μ) := by
  unfold fX9_makes_B2
  refine rf_iload_n (n := 3) 3 dX9_makes_2 rfl rfl rfl ?_
  refine rf_aload_n (n := 4) 0 dX9_makes_3 rfl rfl rfl ?_
  refine rf_cV0I (n := 7) hG (okX9_cells _) lVX9_233 hhX9_cells kk_57 sS_57 ⟨_, rfl, rfl⟩ dX9_makes_4 rfl (Nat.le_of_ble_eq_true rfl) (Nat.le_of_ble_eq_true rfl) (fun v1 m2 => ?_)
  refine rf_icmp_ge (tg := 35) (n := 10) dX9_makes_7 rfl rfl (fun c5 => ?_) (fun c5 => ?_)
  · exact rf_retV rfl dX9_makes_35
  · refine rf_iload_n (n := 11) 1 dX9_makes_10 rfl rfl rfl ?_
    refine rf_iload_n (n := 12) 3 dX9_makes_11 rfl rfl rfl ?_
    refine rf_ishr (n := 13) dX9_makes_12 rfl ?_
    refine rf_iconst (n := 14) (1 : Int32) dX9_makes_13 cciconst_1 rfl ?_
    refine rf_iand (n := 15) dX9_makes_14 rfl ?_
    refine rf_iconst (n := 16) (1 : Int32) dX9_makes_15 cciconst_1 rfl ?_
    refine rf_icmp_ne (tg := 29) (n := 19) dX9_makes_16 rfl rfl (fun c4 => ?_) (fun c4 => ?_)
    · exact pX9_makes_K29 hG _ _ _ r2 hr2 _
    · refine rf_aload_n (n := 20) 0 dX9_makes_19 rfl rfl rfl ?_
      refine rf_getR (n := 23) rr_57_28 kk_74 hG dX9_makes_20 flX9_63 ki_9_28 sS_57 kk_57 rfl ?_
      refine rf_bipush (n := 25) (9 : Int32) dX9_makes_23 ccbipush_9 rfl ?_
      refine rf_iload_n (n := 26) 3 dX9_makes_25 rfl rfl rfl ?_
      refine rf_iadd (n := 27) dX9_makes_26 rfl ?_
      refine rf_iload_n (n := 28) 2 dX9_makes_27 rfl rfl rfl ?_
      refine rf_iast (n := 29) hG dX9_makes_28 sS_74 kk_74 rfl (fun m3 => ?_)
      exact pX9_makes_K29 hG _ _ _ r2 hr2 _
theorem pX9_makes_L2 {x : ax_X} {G : ax_G} (hG : ax_ok G) (l1 : Int32) (l2 : Int32) (n : Nat) (a3 : Int32) (μ : ax_M) : ax_Rf mX9_makes 1 x (ax_Z ax_jV x G) G 0 0 2 [some (.ref 57), some (.int l1), some (.int l2), some (.int a3)] [] μ (ax_lp1 (fX9_makes_B2 l1 l2) n a3 μ) :=
  rf_lp1 (P := fun a3 μ t => ax_Rf mX9_makes 1 x (ax_Z ax_jV x G) G 0 0 2 [some (.ref 57), some (.int l1), some (.int l2), some (.int a3)] [] μ t) (fun _ _ => rf_none) (fun rc hrc a3 μ => pX9_makes_B2 hG l1 l2 rc hrc a3 μ) n a3 μ
def fX9_makes (p1 : Int32) (p2 : Int32) (μ : ax_M) : Option (Unit × ax_M) :=
  (ax_lp1 (fX9_makes_B2 p1 p2) ax_FU (0 : Int32) μ)
theorem okX9_makes (p1 : Int32) (p2 : Int32) (μ : ax_M) : ax_Ok mX9_makes 1 ax_jV [.ref 57, .int p1, .int p2] μ (fX9_makes p1 p2 μ) := by
  refine ax_start (lc := [some (.ref 57), some (.int p1), some (.int p2), none]) 1 (by decide +kernel) rfl (Nat.le_of_ble_eq_true rfl) (fun x G hG => ?_)
  unfold fX9_makes
  refine rf_iconst (n := 1) (0 : Int32) dX9_makes_0 cciconst_0 rfl ?_
  refine rf_istore_n (lc2 := [some (.ref 57), some (.int p1), some (.int p2), some (.int (0 : Int32))]) (n := 2) 3 dX9_makes_1 rfl rfl (Nat.le_of_ble_eq_true rfl) rfl rfl ?_
  exact pX9_makes_L2 hG _ _ _ _ _
def fX9_hasLoop_K125 (s0 : Int32) (μ : ax_M) : Option (Int32 × ax_M) :=
  (some (vp_nar .boolean s0, μ))
theorem pX9_hasLoop_K125 {x : ax_X} {G : ax_G} (hG : ax_ok G) (s0 : Int32) (μ : ax_M) : ax_Rf mX9_hasLoop 1 x (ax_Z ax_jI x G) G 0 0 125 [none, none, none, none, none] [.int s0] μ (fX9_hasLoop_K125 s0 μ) := by
  unfold fX9_hasLoop_K125
  exact rf_retZ rfl dX9_hasLoop_125
def fX9_hasLoop_K100 (l1 : Int32) (l2 : Int32) (l3 : Int32) (l4 : Int32) (r49 : Int32 → Int32 → ax_M → Option (Int32 × ax_M)) (μ : ax_M) : Option (Int32 × ax_M) :=
  (r49 l3 (l4 + (1 : Int32)) μ)
theorem pX9_hasLoop_K100 {x : ax_X} {G : ax_G} (hG : ax_ok G) (l1 : Int32) (l2 : Int32) (l3 : Int32) (l4 : Int32) (r49 : Int32 → Int32 → ax_M → Option (Int32 × ax_M)) (hr49 : ∀ (a3 : Int32) (a4 : Int32) (μ : ax_M), ax_Rf mX9_hasLoop 1 x (ax_Z ax_jI x G) G 0 0 49 [some (.ref 57), some (.int l1), some (.int l2), some (.int a3), some (.int a4)] [] μ (r49 a3 a4 μ)) (μ : ax_M) : ax_Rf mX9_hasLoop 1 x (ax_Z ax_jI x G) G 0 0 100 [some (.ref 57), some (.int l1), some (.int l2), some (.int l3), some (.int l4)] [] μ (fX9_hasLoop_K100 l1 l2 l3 l4 r49 μ) := by
  unfold fX9_hasLoop_K100
  refine rf_iinc (lc2 := [some (.ref 57), some (.int l1), some (.int l2), some (.int l3), some (.int (l4 + (1 : Int32)))]) (n := 103) (w := (1 : Int32)) 4 dX9_hasLoop_100 rfl rfl rfl (Nat.le_of_ble_eq_true rfl) rfl rfl ?_
  refine rf_goto (tg := 49) dX9_hasLoop_103 rfl ?_
  exact hr49 _ _ _
def fX9_hasLoop_B49 (l1 : Int32) (l2 : Int32) (r38 : Int32 → Int32 → ax_M → Option (Int32 × ax_M)) (r49 : Int32 → Int32 → ax_M → Option (Int32 × ax_M)) (l3 : Int32) (l4 : Int32) (μ : ax_M) : Option (Int32 × ax_M) :=
  (ax_bd (fX9_paths μ) (fun v4 m5 => (if v4 ≤ l4 then (ax_let (l1 &&& l3) (fun v6 => (r38 v6 (l2 + (1 : Int32)) m5))) else (Option.bind (ax_rd m5 70 48 l4) (fun v7 => (if ((l1 >>> (v7 &&& 31)) &&& (1 : Int32)) = (1 : Int32) then (Option.bind (ax_rd m5 71 48 l4) (fun v8 => (if ((l1 >>> (v8 &&& 31)) &&& (1 : Int32)) = (1 : Int32) then (Option.bind (ax_rd m5 71 48 l4) (fun v9 => (ax_let (l3 ||| ((1 : Int32) <<< (v9 &&& 31))) (fun v10 => (fX9_hasLoop_K100 l1 l2 v10 l4 r49 m5))))) else (fX9_hasLoop_K100 l1 l2 l3 l4 r49 m5)))) else (fX9_hasLoop_K100 l1 l2 l3 l4 r49 m5)))))))
theorem pX9_hasLoop_B49 {x : ax_X} {G : ax_G} (hG : ax_ok G) (l1 : Int32) (l2 : Int32) (r38 : Int32 → Int32 → ax_M → Option (Int32 × ax_M)) (hr38 : ∀ (a1 : Int32) (a2 : Int32) (μ : ax_M), ax_Rf mX9_hasLoop 1 x (ax_Z ax_jI x G) G 0 0 38 [some (.ref 57), some (.int a1), some (.int a2), none, none] [] μ (r38 a1 a2 μ)) (r49 : Int32 → Int32 → ax_M → Option (Int32 × ax_M)) (hr49 : ∀ (a3 : Int32) (a4 : Int32) (μ : ax_M), ax_Rf mX9_hasLoop 1 x (ax_Z ax_jI x G) G 0 0 49 [some (.ref 57), some (.int l1), some (.int l2), some (.int a3), some (.int a4)] [] μ (r49 a3 a4 μ)) (l3 : Int32) (l4 : Int32) (μ : ax_M) : ax_Rf mX9_hasLoop 1 x (ax_Z ax_jI x G) G 0 0 49 [some (.ref 57), some (.int l1), some (.int l2), some (.int l3), some (.int l4)] [] μ (fX9_hasLoop_B49 l1 l2 r38 r49 l3 l4 μ) := by
  unfold fX9_hasLoop_B49
  refine rf_iload (n := 51) 4 dX9_hasLoop_49 rfl rfl ?_
  refine rf_aload_n (n := 52) 0 dX9_hasLoop_51 rfl rfl rfl ?_
  refine rf_cV0I (n := 55) hG (okX9_paths _) lVX9_236 hhX9_paths kk_57 sS_57 ⟨_, rfl, rfl⟩ dX9_hasLoop_52 rfl (Nat.le_of_ble_eq_true rfl) (Nat.le_of_ble_eq_true rfl) (fun v4 m5 => ?_)
  refine rf_icmp_ge (tg := 106) (n := 58) dX9_hasLoop_55 rfl rfl (fun c13 => ?_) (fun c13 => ?_)
  · refine rf_iload_n (n := 107) 1 dX9_hasLoop_106 rfl rfl rfl ?_
    refine rf_iload_n (n := 108) 3 dX9_hasLoop_107 rfl rfl rfl ?_
    refine rf_iand (n := 109) dX9_hasLoop_108 rfl ?_
    refine rf_letI (fun v6 => ?_)
    refine rf_istore_n (lc2 := [some (.ref 57), some (.int v6), some (.int l2), some (.int l3), some (.int l4)]) (n := 110) 1 dX9_hasLoop_109 rfl rfl (Nat.le_of_ble_eq_true rfl) rfl rfl ?_
    refine rf_iinc (lc2 := [some (.ref 57), some (.int v6), some (.int (l2 + (1 : Int32))), some (.int l3), some (.int l4)]) (n := 113) (w := (1 : Int32)) 2 dX9_hasLoop_110 rfl rfl rfl (Nat.le_of_ble_eq_true rfl) rfl rfl ?_
    refine rf_goto (tg := 38) dX9_hasLoop_113 rfl ?_
    refine rf_mask (lc2 := [some (.ref 57), some (.int v6), some (.int (l2 + (1 : Int32))), none, none]) [true, true, true, false, false] rfl ?_
    exact hr38 _ _ _
  · refine rf_iload_n (n := 59) 1 dX9_hasLoop_58 rfl rfl rfl ?_
    refine rf_aload_n (n := 60) 0 dX9_hasLoop_59 rfl rfl rfl ?_
    refine rf_getR (n := 63) rr_57_14 kk_70 hG dX9_hasLoop_60 flX9_47 ki_9_14 sS_57 kk_57 rfl ?_
    refine rf_iload (n := 65) 4 dX9_hasLoop_63 rfl rfl ?_
    refine rf_iald (n := 66) hG dX9_hasLoop_65 sS_70 kk_70 rfl (fun v7 => ?_)
    refine rf_ishr (n := 67) dX9_hasLoop_66 rfl ?_
    refine rf_iconst (n := 68) (1 : Int32) dX9_hasLoop_67 cciconst_1 rfl ?_
    refine rf_iand (n := 69) dX9_hasLoop_68 rfl ?_
    refine rf_iconst (n := 70) (1 : Int32) dX9_hasLoop_69 cciconst_1 rfl ?_
    refine rf_icmp_ne (tg := 100) (n := 73) dX9_hasLoop_70 rfl rfl (fun c12 => ?_) (fun c12 => ?_)
    · exact pX9_hasLoop_K100 hG _ _ _ _ r49 hr49 _
    · refine rf_iload_n (n := 74) 1 dX9_hasLoop_73 rfl rfl rfl ?_
      refine rf_aload_n (n := 75) 0 dX9_hasLoop_74 rfl rfl rfl ?_
      refine rf_getR (n := 78) rr_57_15 kk_71 hG dX9_hasLoop_75 flX9_50 ki_9_15 sS_57 kk_57 rfl ?_
      refine rf_iload (n := 80) 4 dX9_hasLoop_78 rfl rfl ?_
      refine rf_iald (n := 81) hG dX9_hasLoop_80 sS_71 kk_71 rfl (fun v8 => ?_)
      refine rf_ishr (n := 82) dX9_hasLoop_81 rfl ?_
      refine rf_iconst (n := 83) (1 : Int32) dX9_hasLoop_82 cciconst_1 rfl ?_
      refine rf_iand (n := 84) dX9_hasLoop_83 rfl ?_
      refine rf_iconst (n := 85) (1 : Int32) dX9_hasLoop_84 cciconst_1 rfl ?_
      refine rf_icmp_ne (tg := 100) (n := 88) dX9_hasLoop_85 rfl rfl (fun c11 => ?_) (fun c11 => ?_)
      · exact pX9_hasLoop_K100 hG _ _ _ _ r49 hr49 _
      · refine rf_iload_n (n := 89) 3 dX9_hasLoop_88 rfl rfl rfl ?_
        refine rf_iconst (n := 90) (1 : Int32) dX9_hasLoop_89 cciconst_1 rfl ?_
        refine rf_aload_n (n := 91) 0 dX9_hasLoop_90 rfl rfl rfl ?_
        refine rf_getR (n := 94) rr_57_15 kk_71 hG dX9_hasLoop_91 flX9_50 ki_9_15 sS_57 kk_57 rfl ?_
        refine rf_iload (n := 96) 4 dX9_hasLoop_94 rfl rfl ?_
        refine rf_iald (n := 97) hG dX9_hasLoop_96 sS_71 kk_71 rfl (fun v9 => ?_)
        refine rf_ishl (n := 98) dX9_hasLoop_97 rfl ?_
        refine rf_ior (n := 99) dX9_hasLoop_98 rfl ?_
        refine rf_letI (fun v10 => ?_)
        refine rf_istore_n (lc2 := [some (.ref 57), some (.int l1), some (.int l2), some (.int v10), some (.int l4)]) (n := 100) 3 dX9_hasLoop_99 rfl rfl (Nat.le_of_ble_eq_true rfl) rfl rfl ?_
        exact pX9_hasLoop_K100 hG _ _ _ _ r49 hr49 _
theorem pX9_hasLoop_L49 {x : ax_X} {G : ax_G} (hG : ax_ok G) (l1 : Int32) (l2 : Int32) (r38 : Int32 → Int32 → ax_M → Option (Int32 × ax_M)) (hr38 : ∀ (a1 : Int32) (a2 : Int32) (μ : ax_M), ax_Rf mX9_hasLoop 1 x (ax_Z ax_jI x G) G 0 0 38 [some (.ref 57), some (.int a1), some (.int a2), none, none] [] μ (r38 a1 a2 μ)) (n : Nat) (a3 : Int32) (a4 : Int32) (μ : ax_M) : ax_Rf mX9_hasLoop 1 x (ax_Z ax_jI x G) G 0 0 49 [some (.ref 57), some (.int l1), some (.int l2), some (.int a3), some (.int a4)] [] μ (ax_lp2 (fX9_hasLoop_B49 l1 l2 r38) n a3 a4 μ) :=
  rf_lp2 (P := fun a3 a4 μ t => ax_Rf mX9_hasLoop 1 x (ax_Z ax_jI x G) G 0 0 49 [some (.ref 57), some (.int l1), some (.int l2), some (.int a3), some (.int a4)] [] μ t) (fun _ _ _ => rf_none) (fun rc hrc a3 a4 μ => pX9_hasLoop_B49 hG l1 l2 r38 hr38 rc hrc a3 a4 μ) n a3 a4 μ
def fX9_hasLoop_B38 (r38 : Int32 → Int32 → ax_M → Option (Int32 × ax_M)) (l1 : Int32) (l2 : Int32) (μ : ax_M) : Option (Int32 × ax_M) :=
  (if (10 : Int32) ≤ l2 then (if l1 = 0 then (fX9_hasLoop_K125 (0 : Int32) μ) else (fX9_hasLoop_K125 (1 : Int32) μ)) else (ax_lp2 (fX9_hasLoop_B49 l1 l2 r38) ax_FU (0 : Int32) (0 : Int32) μ))
theorem pX9_hasLoop_B38 {x : ax_X} {G : ax_G} (hG : ax_ok G) (r38 : Int32 → Int32 → ax_M → Option (Int32 × ax_M)) (hr38 : ∀ (a1 : Int32) (a2 : Int32) (μ : ax_M), ax_Rf mX9_hasLoop 1 x (ax_Z ax_jI x G) G 0 0 38 [some (.ref 57), some (.int a1), some (.int a2), none, none] [] μ (r38 a1 a2 μ)) (l1 : Int32) (l2 : Int32) (μ : ax_M) : ax_Rf mX9_hasLoop 1 x (ax_Z ax_jI x G) G 0 0 38 [some (.ref 57), some (.int l1), some (.int l2), none, none] [] μ (fX9_hasLoop_B38 r38 l1 l2 μ) := by
  unfold fX9_hasLoop_B38
  refine rf_iload_n (n := 39) 2 dX9_hasLoop_38 rfl rfl rfl ?_
  refine rf_bipush (n := 41) (10 : Int32) dX9_hasLoop_39 ccbipush_10 rfl ?_
  refine rf_icmp_ge (tg := 116) (n := 44) dX9_hasLoop_41 rfl rfl (fun c14 => ?_) (fun c14 => ?_)
  · refine rf_iload_n (n := 117) 1 dX9_hasLoop_116 rfl rfl rfl ?_
    refine rf_if_eq (tg := 124) (n := 120) dX9_hasLoop_117 rfl rfl (fun c3 => ?_) (fun c3 => ?_)
    · refine rf_iconst (n := 125) (0 : Int32) dX9_hasLoop_124 cciconst_0 rfl ?_
      refine rf_mask (lc2 := [none, none, none, none, none]) [false, false, false, true, true] rfl ?_
      exact pX9_hasLoop_K125 hG _ _
    · refine rf_iconst (n := 121) (1 : Int32) dX9_hasLoop_120 cciconst_1 rfl ?_
      refine rf_goto (tg := 125) dX9_hasLoop_121 rfl ?_
      refine rf_mask (lc2 := [none, none, none, none, none]) [false, false, false, true, true] rfl ?_
      exact pX9_hasLoop_K125 hG _ _
  · refine rf_iconst (n := 45) (0 : Int32) dX9_hasLoop_44 cciconst_0 rfl ?_
    refine rf_istore_n (lc2 := [some (.ref 57), some (.int l1), some (.int l2), some (.int (0 : Int32)), none]) (n := 46) 3 dX9_hasLoop_45 rfl rfl (Nat.le_of_ble_eq_true rfl) rfl rfl ?_
    refine rf_iconst (n := 47) (0 : Int32) dX9_hasLoop_46 cciconst_0 rfl ?_
    refine rf_istore (lc2 := [some (.ref 57), some (.int l1), some (.int l2), some (.int (0 : Int32)), some (.int (0 : Int32))]) (n := 49) 4 dX9_hasLoop_47 rfl (Nat.le_of_ble_eq_true rfl) rfl rfl ?_
    exact pX9_hasLoop_L49 hG _ _ r38 hr38 _ _ _ _
theorem pX9_hasLoop_L38 {x : ax_X} {G : ax_G} (hG : ax_ok G) (n : Nat) (a1 : Int32) (a2 : Int32) (μ : ax_M) : ax_Rf mX9_hasLoop 1 x (ax_Z ax_jI x G) G 0 0 38 [some (.ref 57), some (.int a1), some (.int a2), none, none] [] μ (ax_lp2 (fX9_hasLoop_B38) n a1 a2 μ) :=
  rf_lp2 (P := fun a1 a2 μ t => ax_Rf mX9_hasLoop 1 x (ax_Z ax_jI x G) G 0 0 38 [some (.ref 57), some (.int a1), some (.int a2), none, none] [] μ t) (fun _ _ _ => rf_none) (fun rc hrc a1 a2 μ => pX9_hasLoop_B38 hG rc hrc a1 a2 μ) n a1 a2 μ
def fX9_hasLoop_K28 (l2 : Int32) (s0 : Int32) (s1 : Int32) (r4 : Int32 → Int32 → ax_M → Option (Int32 × ax_M)) (μ : ax_M) : Option (Int32 × ax_M) :=
  (ax_let (s0 ||| s1) (fun v17 => (r4 v17 (l2 + (1 : Int32)) μ)))
theorem pX9_hasLoop_K28 {x : ax_X} {G : ax_G} (hG : ax_ok G) (l2 : Int32) (s0 : Int32) (s1 : Int32) (r4 : Int32 → Int32 → ax_M → Option (Int32 × ax_M)) (hr4 : ∀ (a1 : Int32) (a2 : Int32) (μ : ax_M), ax_Rf mX9_hasLoop 1 x (ax_Z ax_jI x G) G 0 0 4 [some (.ref 57), some (.int a1), some (.int a2), none, none] [] μ (r4 a1 a2 μ)) (μ : ax_M) : ax_Rf mX9_hasLoop 1 x (ax_Z ax_jI x G) G 0 0 28 [some (.ref 57), none, some (.int l2), none, none] [.int s1, .int s0] μ (fX9_hasLoop_K28 l2 s0 s1 r4 μ) := by
  unfold fX9_hasLoop_K28
  refine rf_ior (n := 29) dX9_hasLoop_28 rfl ?_
  refine rf_letI (fun v17 => ?_)
  refine rf_istore_n (lc2 := [some (.ref 57), some (.int v17), some (.int l2), none, none]) (n := 30) 1 dX9_hasLoop_29 rfl rfl (Nat.le_of_ble_eq_true rfl) rfl rfl ?_
  refine rf_iinc (lc2 := [some (.ref 57), some (.int v17), some (.int (l2 + (1 : Int32))), none, none]) (n := 33) (w := (1 : Int32)) 2 dX9_hasLoop_30 rfl rfl rfl (Nat.le_of_ble_eq_true rfl) rfl rfl ?_
  refine rf_goto (tg := 4) dX9_hasLoop_33 rfl ?_
  exact hr4 _ _ _
def fX9_hasLoop_B4 (r4 : Int32 → Int32 → ax_M → Option (Int32 × ax_M)) (l1 : Int32) (l2 : Int32) (μ : ax_M) : Option (Int32 × ax_M) :=
  (ax_bd (fX9_cells μ) (fun v1 m2 => (if v1 ≤ l2 then (ax_lp2 (fX9_hasLoop_B38) ax_FU l1 (0 : Int32) m2) else (ax_bd (fX9_isFlop l2 m2) (fun v15 m16 => (if v15 = 0 then (fX9_hasLoop_K28 l2 l1 ((1 : Int32) <<< (l2 &&& 31)) r4 m16) else (fX9_hasLoop_K28 l2 l1 (0 : Int32) r4 m16)))))))
theorem pX9_hasLoop_B4 {x : ax_X} {G : ax_G} (hG : ax_ok G) (r4 : Int32 → Int32 → ax_M → Option (Int32 × ax_M)) (hr4 : ∀ (a1 : Int32) (a2 : Int32) (μ : ax_M), ax_Rf mX9_hasLoop 1 x (ax_Z ax_jI x G) G 0 0 4 [some (.ref 57), some (.int a1), some (.int a2), none, none] [] μ (r4 a1 a2 μ)) (l1 : Int32) (l2 : Int32) (μ : ax_M) : ax_Rf mX9_hasLoop 1 x (ax_Z ax_jI x G) G 0 0 4 [some (.ref 57), some (.int l1), some (.int l2), none, none] [] μ (fX9_hasLoop_B4 r4 l1 l2 μ) := by
  unfold fX9_hasLoop_B4
  refine rf_iload_n (n := 5) 2 dX9_hasLoop_4 rfl rfl rfl ?_
  refine rf_aload_n (n := 6) 0 dX9_hasLoop_5 rfl rfl rfl ?_
  refine rf_cV0I (n := 9) hG (okX9_cells _) lVX9_233 hhX9_cells kk_57 sS_57 ⟨_, rfl, rfl⟩ dX9_hasLoop_6 rfl (Nat.le_of_ble_eq_true rfl) (Nat.le_of_ble_eq_true rfl) (fun v1 m2 => ?_)
  refine rf_icmp_ge (tg := 36) (n := 12) dX9_hasLoop_9 rfl rfl (fun c19 => ?_) (fun c19 => ?_)
  · refine rf_iconst (n := 37) (0 : Int32) dX9_hasLoop_36 cciconst_0 rfl ?_
    refine rf_istore_n (lc2 := [some (.ref 57), some (.int l1), some (.int (0 : Int32)), none, none]) (n := 38) 2 dX9_hasLoop_37 rfl rfl (Nat.le_of_ble_eq_true rfl) rfl rfl ?_
    exact pX9_hasLoop_L38 hG _ _ _ _
  · refine rf_iload_n (n := 13) 1 dX9_hasLoop_12 rfl rfl rfl ?_
    refine rf_aload_n (n := 14) 0 dX9_hasLoop_13 rfl rfl rfl ?_
    refine rf_iload_n (n := 15) 2 dX9_hasLoop_14 rfl rfl rfl ?_
    refine rf_cV1I (n := 18) hG (okX9_isFlop _ _) lVX9_281 hhX9_isFlop kk_57 sS_57 ⟨_, rfl, rfl⟩ dX9_hasLoop_15 rfl (Nat.le_of_ble_eq_true rfl) (Nat.le_of_ble_eq_true rfl) (fun v15 m16 => ?_)
    refine rf_if_eq (tg := 25) (n := 21) dX9_hasLoop_18 rfl rfl (fun c18 => ?_) (fun c18 => ?_)
    · refine rf_iconst (n := 26) (1 : Int32) dX9_hasLoop_25 cciconst_1 rfl ?_
      refine rf_iload_n (n := 27) 2 dX9_hasLoop_26 rfl rfl rfl ?_
      refine rf_ishl (n := 28) dX9_hasLoop_27 rfl ?_
      refine rf_mask (lc2 := [some (.ref 57), none, some (.int l2), none, none]) [true, false, true, true, true] rfl ?_
      exact pX9_hasLoop_K28 hG _ _ _ r4 hr4 _
    · refine rf_iconst (n := 22) (0 : Int32) dX9_hasLoop_21 cciconst_0 rfl ?_
      refine rf_goto (tg := 28) dX9_hasLoop_22 rfl ?_
      refine rf_mask (lc2 := [some (.ref 57), none, some (.int l2), none, none]) [true, false, true, true, true] rfl ?_
      exact pX9_hasLoop_K28 hG _ _ _ r4 hr4 _
theorem pX9_hasLoop_L4 {x : ax_X} {G : ax_G} (hG : ax_ok G) (n : Nat) (a1 : Int32) (a2 : Int32) (μ : ax_M) : ax_Rf mX9_hasLoop 1 x (ax_Z ax_jI x G) G 0 0 4 [some (.ref 57), some (.int a1), some (.int a2), none, none] [] μ (ax_lp2 (fX9_hasLoop_B4) n a1 a2 μ) :=
  rf_lp2 (P := fun a1 a2 μ t => ax_Rf mX9_hasLoop 1 x (ax_Z ax_jI x G) G 0 0 4 [some (.ref 57), some (.int a1), some (.int a2), none, none] [] μ t) (fun _ _ _ => rf_none) (fun rc hrc a1 a2 μ => pX9_hasLoop_B4 hG rc hrc a1 a2 μ) n a1 a2 μ
def fX9_hasLoop (μ : ax_M) : Option (Int32 × ax_M) :=
  (ax_lp2 (fX9_hasLoop_B4) ax_FU (0 : Int32) (0 : Int32) μ)
theorem okX9_hasLoop (μ : ax_M) : ax_Ok mX9_hasLoop 1 ax_jI [.ref 57] μ (fX9_hasLoop μ) := by
  refine ax_start (lc := [some (.ref 57), none, none, none, none]) 4 (by decide +kernel) rfl (Nat.le_of_ble_eq_true rfl) (fun x G hG => ?_)
  unfold fX9_hasLoop
  refine rf_iconst (n := 1) (0 : Int32) dX9_hasLoop_0 cciconst_0 rfl ?_
  refine rf_istore_n (lc2 := [some (.ref 57), some (.int (0 : Int32)), none, none, none]) (n := 2) 1 dX9_hasLoop_1 rfl rfl (Nat.le_of_ble_eq_true rfl) rfl rfl ?_
  refine rf_iconst (n := 3) (0 : Int32) dX9_hasLoop_2 cciconst_0 rfl ?_
  refine rf_istore_n (lc2 := [some (.ref 57), some (.int (0 : Int32)), some (.int (0 : Int32)), none, none]) (n := 4) 2 dX9_hasLoop_3 rfl rfl (Nat.le_of_ble_eq_true rfl) rfl rfl ?_
  exact pX9_hasLoop_L4 hG _ _ _ _
def fX9_breaks_K93 (l1 : Int32) (l2 : Int32) (l3 : Int32) (r45 : Int32 → Int32 → ax_M → Option (Int32 × ax_M)) (μ : ax_M) : Option (Int32 × ax_M) :=
  (r45 l2 (l3 + (1 : Int32)) μ)
theorem pX9_breaks_K93 {x : ax_X} {G : ax_G} (hG : ax_ok G) (l1 : Int32) (l2 : Int32) (l3 : Int32) (r45 : Int32 → Int32 → ax_M → Option (Int32 × ax_M)) (hr45 : ∀ (a2 : Int32) (a3 : Int32) (μ : ax_M), ax_Rf mX9_breaks 2 x (ax_Z ax_jI x G) G 0 0 45 [some (.ref 57), some (.int l1), some (.int a2), some (.int a3)] [] μ (r45 a2 a3 μ)) (μ : ax_M) : ax_Rf mX9_breaks 2 x (ax_Z ax_jI x G) G 0 0 93 [some (.ref 57), some (.int l1), some (.int l2), some (.int l3)] [] μ (fX9_breaks_K93 l1 l2 l3 r45 μ) := by
  unfold fX9_breaks_K93
  refine rf_iinc (lc2 := [some (.ref 57), some (.int l1), some (.int l2), some (.int (l3 + (1 : Int32)))]) (n := 96) (w := (1 : Int32)) 3 dX9_breaks_93 rfl rfl rfl (Nat.le_of_ble_eq_true rfl) rfl rfl ?_
  refine rf_goto (tg := 45) dX9_breaks_96 rfl ?_
  exact hr45 _ _ _
def fX9_breaks_K87 (l1 : Int32) (l2 : Int32) (l3 : Int32) (r45 : Int32 → Int32 → ax_M → Option (Int32 × ax_M)) (μ : ax_M) : Option (Int32 × ax_M) :=
  (ax_bd (fX9_makes l3 (0 : Int32) μ) (fun _ m13 => (fX9_breaks_K93 l1 l2 l3 r45 m13)))
theorem pX9_breaks_K87 {x : ax_X} {G : ax_G} (hG : ax_ok G) (l1 : Int32) (l2 : Int32) (l3 : Int32) (r45 : Int32 → Int32 → ax_M → Option (Int32 × ax_M)) (hr45 : ∀ (a2 : Int32) (a3 : Int32) (μ : ax_M), ax_Rf mX9_breaks 2 x (ax_Z ax_jI x G) G 0 0 45 [some (.ref 57), some (.int l1), some (.int a2), some (.int a3)] [] μ (r45 a2 a3 μ)) (μ : ax_M) : ax_Rf mX9_breaks 2 x (ax_Z ax_jI x G) G 0 0 87 [some (.ref 57), some (.int l1), some (.int l2), some (.int l3)] [] μ (fX9_breaks_K87 l1 l2 l3 r45 μ) := by
  unfold fX9_breaks_K87
  refine rf_aload_n (n := 88) 0 dX9_breaks_87 rfl rfl rfl ?_
  refine rf_iload_n (n := 89) 3 dX9_breaks_88 rfl rfl rfl ?_
  refine rf_iconst (n := 90) (0 : Int32) dX9_breaks_89 cciconst_0 rfl ?_
  refine rf_cV2V (n := 93) hG (okX9_makes _ _ _) lVX9_372 hhX9_makes kk_57 sS_57 ⟨_, rfl, rfl⟩ dX9_breaks_90 rfl (Nat.le_of_ble_eq_true rfl) (Nat.le_of_ble_eq_true rfl) (fun _ m13 => ?_)
  exact pX9_breaks_K93 hG _ _ _ r45 hr45 _
def fX9_breaks_B45 (l1 : Int32) (r45 : Int32 → Int32 → ax_M → Option (Int32 × ax_M)) (l2 : Int32) (l3 : Int32) (μ : ax_M) : Option (Int32 × ax_M) :=
  (if l1 ≤ l3 then (some (l2, μ)) else (if (l3 &&& (l1 ^^^ (-1 : Int32))) = 0 then (ax_bd (fX9_bits l3 μ) (fun v4 m5 => (ax_bd (fX9_bits l2 m5) (fun v6 m7 => (if v4 < v6 then (ax_bd (fX9_makes l3 (1 : Int32) m7) (fun _ m9 => (ax_bd (fX9_hasLoop m9) (fun v10 m11 => (if v10 = 0 then (fX9_breaks_K87 l1 l3 l3 r45 m11) else (fX9_breaks_K87 l1 l2 l3 r45 m11)))))) else (fX9_breaks_K93 l1 l2 l3 r45 m7)))))) else (fX9_breaks_K93 l1 l2 l3 r45 μ)))
theorem pX9_breaks_B45 {x : ax_X} {G : ax_G} (hG : ax_ok G) (l1 : Int32) (r45 : Int32 → Int32 → ax_M → Option (Int32 × ax_M)) (hr45 : ∀ (a2 : Int32) (a3 : Int32) (μ : ax_M), ax_Rf mX9_breaks 2 x (ax_Z ax_jI x G) G 0 0 45 [some (.ref 57), some (.int l1), some (.int a2), some (.int a3)] [] μ (r45 a2 a3 μ)) (l2 : Int32) (l3 : Int32) (μ : ax_M) : ax_Rf mX9_breaks 2 x (ax_Z ax_jI x G) G 0 0 45 [some (.ref 57), some (.int l1), some (.int l2), some (.int l3)] [] μ (fX9_breaks_B45 l1 r45 l2 l3 μ) := by
  unfold fX9_breaks_B45
  refine rf_iload_n (n := 46) 3 dX9_breaks_45 rfl rfl rfl ?_
  refine rf_iload_n (n := 47) 1 dX9_breaks_46 rfl rfl rfl ?_
  refine rf_icmp_ge (tg := 99) (n := 50) dX9_breaks_47 rfl rfl (fun c17 => ?_) (fun c17 => ?_)
  · refine rf_iload_n (n := 100) 2 dX9_breaks_99 rfl rfl rfl ?_
    exact rf_retI rfl dX9_breaks_100
  · refine rf_iload_n (n := 51) 3 dX9_breaks_50 rfl rfl rfl ?_
    refine rf_iload_n (n := 52) 1 dX9_breaks_51 rfl rfl rfl ?_
    refine rf_iconst (n := 53) (-1 : Int32) dX9_breaks_52 cciconst_m1 rfl ?_
    refine rf_ixor (n := 54) dX9_breaks_53 rfl ?_
    refine rf_iand (n := 55) dX9_breaks_54 rfl ?_
    refine rf_if_ne (tg := 93) (n := 58) dX9_breaks_55 rfl rfl (fun c16 => ?_) (fun c16 => ?_)
    · exact pX9_breaks_K93 hG _ _ _ r45 hr45 _
    · refine rf_iload_n (n := 59) 3 dX9_breaks_58 rfl rfl rfl ?_
      refine rf_cS1I (n := 62) hG (okX9_bits _ _) lSX9_369 hhX9_bits dX9_breaks_59 rfl (Nat.le_of_ble_eq_true rfl) (Nat.le_of_ble_eq_true rfl) (fun v4 m5 => ?_)
      refine rf_iload_n (n := 63) 2 dX9_breaks_62 rfl rfl rfl ?_
      refine rf_cS1I (n := 66) hG (okX9_bits _ _) lSX9_369 hhX9_bits dX9_breaks_63 rfl (Nat.le_of_ble_eq_true rfl) (Nat.le_of_ble_eq_true rfl) (fun v6 m7 => ?_)
      refine rf_icmp_lt (tg := 72) (n := 69) dX9_breaks_66 rfl rfl (fun c15 => ?_) (fun c15 => ?_)
      · refine rf_aload_n (n := 73) 0 dX9_breaks_72 rfl rfl rfl ?_
        refine rf_iload_n (n := 74) 3 dX9_breaks_73 rfl rfl rfl ?_
        refine rf_iconst (n := 75) (1 : Int32) dX9_breaks_74 cciconst_1 rfl ?_
        refine rf_cV2V (n := 78) hG (okX9_makes _ _ _) lVX9_372 hhX9_makes kk_57 sS_57 ⟨_, rfl, rfl⟩ dX9_breaks_75 rfl (Nat.le_of_ble_eq_true rfl) (Nat.le_of_ble_eq_true rfl) (fun _ m9 => ?_)
        refine rf_aload_n (n := 79) 0 dX9_breaks_78 rfl rfl rfl ?_
        refine rf_cV0I (n := 82) hG (okX9_hasLoop _) lVX9_375 hhX9_hasLoop kk_57 sS_57 ⟨_, rfl, rfl⟩ dX9_breaks_79 rfl (Nat.le_of_ble_eq_true rfl) (Nat.le_of_ble_eq_true rfl) (fun v10 m11 => ?_)
        refine rf_if_ne (tg := 87) (n := 85) dX9_breaks_82 rfl rfl (fun c14 => ?_) (fun c14 => ?_)
        · exact pX9_breaks_K87 hG _ _ _ r45 hr45 _
        · refine rf_iload_n (n := 86) 3 dX9_breaks_85 rfl rfl rfl ?_
          refine rf_istore_n (lc2 := [some (.ref 57), some (.int l1), some (.int l3), some (.int l3)]) (n := 87) 2 dX9_breaks_86 rfl rfl (Nat.le_of_ble_eq_true rfl) rfl rfl ?_
          exact pX9_breaks_K87 hG _ _ _ r45 hr45 _
      · refine rf_goto (tg := 93) dX9_breaks_69 rfl ?_
        exact pX9_breaks_K93 hG _ _ _ r45 hr45 _
theorem pX9_breaks_L45 {x : ax_X} {G : ax_G} (hG : ax_ok G) (l1 : Int32) (n : Nat) (a2 : Int32) (a3 : Int32) (μ : ax_M) : ax_Rf mX9_breaks 2 x (ax_Z ax_jI x G) G 0 0 45 [some (.ref 57), some (.int l1), some (.int a2), some (.int a3)] [] μ (ax_lp2 (fX9_breaks_B45 l1) n a2 a3 μ) :=
  rf_lp2 (P := fun a2 a3 μ t => ax_Rf mX9_breaks 2 x (ax_Z ax_jI x G) G 0 0 45 [some (.ref 57), some (.int l1), some (.int a2), some (.int a3)] [] μ t) (fun _ _ _ => rf_none) (fun rc hrc a2 a3 μ => pX9_breaks_B45 hG l1 rc hrc a2 a3 μ) n a2 a3 μ
def fX9_breaks_K33 (l2 : Int32) (s0 : Int32) (s1 : Int32) (r9 : Int32 → Int32 → ax_M → Option (Int32 × ax_M)) (μ : ax_M) : Option (Int32 × ax_M) :=
  (ax_let (s0 ||| s1) (fun v20 => (r9 v20 (l2 + (1 : Int32)) μ)))
theorem pX9_breaks_K33 {x : ax_X} {G : ax_G} (hG : ax_ok G) (l2 : Int32) (s0 : Int32) (s1 : Int32) (r9 : Int32 → Int32 → ax_M → Option (Int32 × ax_M)) (hr9 : ∀ (a1 : Int32) (a2 : Int32) (μ : ax_M), ax_Rf mX9_breaks 2 x (ax_Z ax_jI x G) G 0 0 9 [some (.ref 57), some (.int a1), some (.int a2), none] [] μ (r9 a1 a2 μ)) (μ : ax_M) : ax_Rf mX9_breaks 2 x (ax_Z ax_jI x G) G 0 0 33 [some (.ref 57), none, some (.int l2), none] [.int s1, .int s0] μ (fX9_breaks_K33 l2 s0 s1 r9 μ) := by
  unfold fX9_breaks_K33
  refine rf_ior (n := 34) dX9_breaks_33 rfl ?_
  refine rf_letI (fun v20 => ?_)
  refine rf_istore_n (lc2 := [some (.ref 57), some (.int v20), some (.int l2), none]) (n := 35) 1 dX9_breaks_34 rfl rfl (Nat.le_of_ble_eq_true rfl) rfl rfl ?_
  refine rf_iinc (lc2 := [some (.ref 57), some (.int v20), some (.int (l2 + (1 : Int32))), none]) (n := 38) (w := (1 : Int32)) 2 dX9_breaks_35 rfl rfl rfl (Nat.le_of_ble_eq_true rfl) rfl rfl ?_
  refine rf_goto (tg := 9) dX9_breaks_38 rfl ?_
  exact hr9 _ _ _
def fX9_breaks_B9 (r9 : Int32 → Int32 → ax_M → Option (Int32 × ax_M)) (l1 : Int32) (l2 : Int32) (μ : ax_M) : Option (Int32 × ax_M) :=
  (ax_bd (fX9_cells μ) (fun v2 m3 => (if v2 ≤ l2 then (ax_lp2 (fX9_breaks_B45 l1) ax_FU l1 (0 : Int32) m3) else (ax_bd (fX9_isFlop l2 m3) (fun v18 m19 => (if v18 = 0 then (fX9_breaks_K33 l2 l1 ((1 : Int32) <<< (l2 &&& 31)) r9 m19) else (fX9_breaks_K33 l2 l1 (0 : Int32) r9 m19)))))))
theorem pX9_breaks_B9 {x : ax_X} {G : ax_G} (hG : ax_ok G) (r9 : Int32 → Int32 → ax_M → Option (Int32 × ax_M)) (hr9 : ∀ (a1 : Int32) (a2 : Int32) (μ : ax_M), ax_Rf mX9_breaks 2 x (ax_Z ax_jI x G) G 0 0 9 [some (.ref 57), some (.int a1), some (.int a2), none] [] μ (r9 a1 a2 μ)) (l1 : Int32) (l2 : Int32) (μ : ax_M) : ax_Rf mX9_breaks 2 x (ax_Z ax_jI x G) G 0 0 9 [some (.ref 57), some (.int l1), some (.int l2), none] [] μ (fX9_breaks_B9 r9 l1 l2 μ) := by
  unfold fX9_breaks_B9
  refine rf_iload_n (n := 10) 2 dX9_breaks_9 rfl rfl rfl ?_
  refine rf_aload_n (n := 11) 0 dX9_breaks_10 rfl rfl rfl ?_
  refine rf_cV0I (n := 14) hG (okX9_cells _) lVX9_233 hhX9_cells kk_57 sS_57 ⟨_, rfl, rfl⟩ dX9_breaks_11 rfl (Nat.le_of_ble_eq_true rfl) (Nat.le_of_ble_eq_true rfl) (fun v2 m3 => ?_)
  refine rf_icmp_ge (tg := 41) (n := 17) dX9_breaks_14 rfl rfl (fun c22 => ?_) (fun c22 => ?_)
  · refine rf_iload_n (n := 42) 1 dX9_breaks_41 rfl rfl rfl ?_
    refine rf_istore_n (lc2 := [some (.ref 57), some (.int l1), some (.int l1), none]) (n := 43) 2 dX9_breaks_42 rfl rfl (Nat.le_of_ble_eq_true rfl) rfl rfl ?_
    refine rf_iconst (n := 44) (0 : Int32) dX9_breaks_43 cciconst_0 rfl ?_
    refine rf_istore_n (lc2 := [some (.ref 57), some (.int l1), some (.int l1), some (.int (0 : Int32))]) (n := 45) 3 dX9_breaks_44 rfl rfl (Nat.le_of_ble_eq_true rfl) rfl rfl ?_
    exact pX9_breaks_L45 hG _ _ _ _ _
  · refine rf_iload_n (n := 18) 1 dX9_breaks_17 rfl rfl rfl ?_
    refine rf_aload_n (n := 19) 0 dX9_breaks_18 rfl rfl rfl ?_
    refine rf_iload_n (n := 20) 2 dX9_breaks_19 rfl rfl rfl ?_
    refine rf_cV1I (n := 23) hG (okX9_isFlop _ _) lVX9_281 hhX9_isFlop kk_57 sS_57 ⟨_, rfl, rfl⟩ dX9_breaks_20 rfl (Nat.le_of_ble_eq_true rfl) (Nat.le_of_ble_eq_true rfl) (fun v18 m19 => ?_)
    refine rf_if_eq (tg := 30) (n := 26) dX9_breaks_23 rfl rfl (fun c21 => ?_) (fun c21 => ?_)
    · refine rf_iconst (n := 31) (1 : Int32) dX9_breaks_30 cciconst_1 rfl ?_
      refine rf_iload_n (n := 32) 2 dX9_breaks_31 rfl rfl rfl ?_
      refine rf_ishl (n := 33) dX9_breaks_32 rfl ?_
      refine rf_mask (lc2 := [some (.ref 57), none, some (.int l2), none]) [true, false, true, true] rfl ?_
      exact pX9_breaks_K33 hG _ _ _ r9 hr9 _
    · refine rf_iconst (n := 27) (0 : Int32) dX9_breaks_26 cciconst_0 rfl ?_
      refine rf_goto (tg := 33) dX9_breaks_27 rfl ?_
      refine rf_mask (lc2 := [some (.ref 57), none, some (.int l2), none]) [true, false, true, true] rfl ?_
      exact pX9_breaks_K33 hG _ _ _ r9 hr9 _
theorem pX9_breaks_L9 {x : ax_X} {G : ax_G} (hG : ax_ok G) (n : Nat) (a1 : Int32) (a2 : Int32) (μ : ax_M) : ax_Rf mX9_breaks 2 x (ax_Z ax_jI x G) G 0 0 9 [some (.ref 57), some (.int a1), some (.int a2), none] [] μ (ax_lp2 (fX9_breaks_B9) n a1 a2 μ) :=
  rf_lp2 (P := fun a1 a2 μ t => ax_Rf mX9_breaks 2 x (ax_Z ax_jI x G) G 0 0 9 [some (.ref 57), some (.int a1), some (.int a2), none] [] μ t) (fun _ _ _ => rf_none) (fun rc hrc a1 a2 μ => pX9_breaks_B9 hG rc hrc a1 a2 μ) n a1 a2 μ
def fX9_breaks (μ : ax_M) : Option (Int32 × ax_M) :=
  (ax_let (ax_wi μ 57 0 (0 : Int32)) (fun m1 => (ax_lp2 (fX9_breaks_B9) ax_FU (0 : Int32) (0 : Int32) m1)))
theorem okX9_breaks (μ : ax_M) : ax_Ok mX9_breaks 2 ax_jI [.ref 57] μ (fX9_breaks μ) := by
  refine ax_start (lc := [some (.ref 57), none, none, none]) 3 (by decide +kernel) rfl (Nat.le_of_ble_eq_true rfl) (fun x G hG => ?_)
  unfold fX9_breaks
  refine rf_aload_n (n := 1) 0 dX9_breaks_0 rfl rfl rfl ?_
  refine rf_iconst (n := 2) (0 : Int32) dX9_breaks_1 cciconst_0 rfl ?_
  refine rf_pfI (n := 5) hG rfl dX9_breaks_2 flX9_103 ki_9_0 nf_9_0 sS_57 kk_57 rfl (fun m1 => ?_)
  refine rf_iconst (n := 6) (0 : Int32) dX9_breaks_5 cciconst_0 rfl ?_
  refine rf_istore_n (lc2 := [some (.ref 57), some (.int (0 : Int32)), none, none]) (n := 7) 1 dX9_breaks_6 rfl rfl (Nat.le_of_ble_eq_true rfl) rfl rfl ?_
  refine rf_iconst (n := 8) (0 : Int32) dX9_breaks_7 cciconst_0 rfl ?_
  refine rf_istore_n (lc2 := [some (.ref 57), some (.int (0 : Int32)), some (.int (0 : Int32)), none]) (n := 9) 2 dX9_breaks_8 rfl rfl (Nat.le_of_ble_eq_true rfl) rfl rfl ?_
  exact pX9_breaks_L9 hG _ _ _ _
def fX6_cutSlope_K61 (l2 : Int32) (s0 : Int32) (μ : ax_M) : Option (Int32 × ax_M) :=
  (some ((l2 - s0), μ))
theorem pX6_cutSlope_K61 {x : ax_X} {G : ax_G} (hG : ax_ok G) (l2 : Int32) (s0 : Int32) (μ : ax_M) : ax_Rf mX6_cutSlope 0 x (ax_Z ax_jI x G) G 0 0 61 [none, none, some (.int l2), none] [.int s0] μ (fX6_cutSlope_K61 l2 s0 μ) := by
  unfold fX6_cutSlope_K61
  refine rf_istore_n (lc2 := [none, none, some (.int l2), some (.int s0)]) (n := 62) 3 dX6_cutSlope_61 rfl rfl (Nat.le_of_ble_eq_true rfl) rfl rfl ?_
  refine rf_iload_n (n := 63) 2 dX6_cutSlope_62 rfl rfl rfl ?_
  refine rf_iload_n (n := 64) 3 dX6_cutSlope_63 rfl rfl rfl ?_
  refine rf_isub (n := 65) dX6_cutSlope_64 rfl ?_
  exact rf_retI rfl dX6_cutSlope_65
def fX6_cutSlope_K32 (l1 : Int32) (s0 : Int32) (μ : ax_M) : Option (Int32 × ax_M) :=
  (Option.bind (ax_rd μ 56 11 ((μ.1 49 8) - (1 : Int32))) (fun v3 => (Option.bind (ax_rd μ 11 24 v3) (fun v4 => (if v4 = l1 then (fX6_cutSlope_K61 s0 (1 : Int32) μ) else (fX6_cutSlope_K61 s0 (0 : Int32) μ))))))
theorem pX6_cutSlope_K32 {x : ax_X} {G : ax_G} (hG : ax_ok G) (l1 : Int32) (s0 : Int32) (μ : ax_M) : ax_Rf mX6_cutSlope 0 x (ax_Z ax_jI x G) G 0 0 32 [some (.ref 49), some (.int l1), none, none] [.int s0] μ (fX6_cutSlope_K32 l1 s0 μ) := by
  unfold fX6_cutSlope_K32
  refine rf_istore_n (lc2 := [some (.ref 49), some (.int l1), some (.int s0), none]) (n := 33) 2 dX6_cutSlope_32 rfl rfl (Nat.le_of_ble_eq_true rfl) rfl rfl ?_
  refine rf_aload_n (n := 34) 0 dX6_cutSlope_33 rfl rfl rfl ?_
  refine rf_getR (n := 37) rr_49_0 kk_2 hG dX6_cutSlope_34 flX6_33 ki_6_0 sS_49 kk_49 rfl ?_
  refine rf_getR (n := 40) rr_2_8 kk_11 hG dX6_cutSlope_37 flX6_60 ki_1_8 sS_2 kk_2 rfl ?_
  refine rf_aload_n (n := 41) 0 dX6_cutSlope_40 rfl rfl rfl ?_
  refine rf_getR (n := 44) rr_49_7 kk_56 hG dX6_cutSlope_41 flX6_30 ki_6_7 sS_49 kk_49 rfl ?_
  refine rf_aload_n (n := 45) 0 dX6_cutSlope_44 rfl rfl rfl ?_
  refine rf_getI (n := 48) hG dX6_cutSlope_45 flX6_86 ki_6_8 sS_49 kk_49 rfl ?_
  refine rf_iconst (n := 49) (1 : Int32) dX6_cutSlope_48 cciconst_1 rfl ?_
  refine rf_isub (n := 50) dX6_cutSlope_49 rfl ?_
  refine rf_iald (n := 51) hG dX6_cutSlope_50 sS_56 kk_56 rfl (fun v3 => ?_)
  refine rf_iald (n := 52) hG dX6_cutSlope_51 sS_11 kk_11 rfl (fun v4 => ?_)
  refine rf_iload_n (n := 53) 1 dX6_cutSlope_52 rfl rfl rfl ?_
  refine rf_icmp_ne (tg := 60) (n := 56) dX6_cutSlope_53 rfl rfl (fun c5 => ?_) (fun c5 => ?_)
  · refine rf_iconst (n := 61) (0 : Int32) dX6_cutSlope_60 cciconst_0 rfl ?_
    refine rf_mask (lc2 := [none, none, some (.int s0), none]) [false, false, true, true] rfl ?_
    exact pX6_cutSlope_K61 hG _ _ _
  · refine rf_iconst (n := 57) (1 : Int32) dX6_cutSlope_56 cciconst_1 rfl ?_
    refine rf_goto (tg := 61) dX6_cutSlope_57 rfl ?_
    refine rf_mask (lc2 := [none, none, some (.int s0), none]) [false, false, true, true] rfl ?_
    exact pX6_cutSlope_K61 hG _ _ _
def fX6_cutSlope (p1 : Int32) (μ : ax_M) : Option (Int32 × ax_M) :=
  (if (μ.1 49 8) = 0 then (some ((0 : Int32), μ)) else (Option.bind (ax_rd μ 56 11 (0 : Int32)) (fun v1 => (Option.bind (ax_rd μ 12 24 v1) (fun v2 => (if v2 = p1 then (fX6_cutSlope_K32 p1 (1 : Int32) μ) else (fX6_cutSlope_K32 p1 (0 : Int32) μ)))))))
theorem okX6_cutSlope (p1 : Int32) (μ : ax_M) : ax_Ok mX6_cutSlope 0 ax_jI [.ref 49, .int p1] μ (fX6_cutSlope p1 μ) := by
  refine ax_start (lc := [some (.ref 49), some (.int p1), none, none]) 2 (by decide +kernel) rfl (Nat.le_of_ble_eq_true rfl) (fun x G hG => ?_)
  unfold fX6_cutSlope
  refine rf_aload_n (n := 1) 0 dX6_cutSlope_0 rfl rfl rfl ?_
  refine rf_getI (n := 4) hG dX6_cutSlope_1 flX6_86 ki_6_8 sS_49 kk_49 rfl ?_
  refine rf_if_ne (tg := 9) (n := 7) dX6_cutSlope_4 rfl rfl (fun c7 => ?_) (fun c7 => ?_)
  · refine rf_aload_n (n := 10) 0 dX6_cutSlope_9 rfl rfl rfl ?_
    refine rf_getR (n := 13) rr_49_0 kk_2 hG dX6_cutSlope_10 flX6_33 ki_6_0 sS_49 kk_49 rfl ?_
    refine rf_getR (n := 16) rr_2_9 kk_12 hG dX6_cutSlope_13 flX6_57 ki_1_9 sS_2 kk_2 rfl ?_
    refine rf_aload_n (n := 17) 0 dX6_cutSlope_16 rfl rfl rfl ?_
    refine rf_getR (n := 20) rr_49_7 kk_56 hG dX6_cutSlope_17 flX6_30 ki_6_7 sS_49 kk_49 rfl ?_
    refine rf_iconst (n := 21) (0 : Int32) dX6_cutSlope_20 cciconst_0 rfl ?_
    refine rf_iald (n := 22) hG dX6_cutSlope_21 sS_56 kk_56 rfl (fun v1 => ?_)
    refine rf_iald (n := 23) hG dX6_cutSlope_22 sS_12 kk_12 rfl (fun v2 => ?_)
    refine rf_iload_n (n := 24) 1 dX6_cutSlope_23 rfl rfl rfl ?_
    refine rf_icmp_ne (tg := 31) (n := 27) dX6_cutSlope_24 rfl rfl (fun c6 => ?_) (fun c6 => ?_)
    · refine rf_iconst (n := 32) (0 : Int32) dX6_cutSlope_31 cciconst_0 rfl ?_
      exact pX6_cutSlope_K32 hG _ _ _
    · refine rf_iconst (n := 28) (1 : Int32) dX6_cutSlope_27 cciconst_1 rfl ?_
      refine rf_goto (tg := 32) dX6_cutSlope_28 rfl ?_
      exact pX6_cutSlope_K32 hG _ _ _
  · refine rf_iconst (n := 8) (0 : Int32) dX6_cutSlope_7 cciconst_0 rfl ?_
    exact rf_retI rfl dX6_cutSlope_8
