def fX1_leastMove_K94 (l1 : Int32) (l2 : Int32) (l3 : Int32) (r6 : Int32 → Int32 → ax_M → Option (Int32 × ax_M)) (μ : ax_M) : Option (Int32 × ax_M) :=
  (r6 l2 (l3 + (1 : Int32)) μ)
theorem pX1_leastMove_K94 {x : ax_X} {G : ax_G} (hG : ax_ok G) (l1 : Int32) (l2 : Int32) (l3 : Int32) (r6 : Int32 → Int32 → ax_M → Option (Int32 × ax_M)) (hr6 : ∀ (a2 : Int32) (a3 : Int32) (μ : ax_M), ax_Rf mX1_leastMove 1 x (ax_Z ax_jI x G) G 0 0 6 [some (.ref 2), some (.int l1), some (.int a2), some (.int a3)] [] μ (r6 a2 a3 μ)) (μ : ax_M) : ax_Rf mX1_leastMove 1 x (ax_Z ax_jI x G) G 0 0 94 [some (.ref 2), some (.int l1), some (.int l2), some (.int l3)] [] μ (fX1_leastMove_K94 l1 l2 l3 r6 μ) := by
  unfold fX1_leastMove_K94
  refine rf_iinc (lc2 := [some (.ref 2), some (.int l1), some (.int l2), some (.int (l3 + (1 : Int32)))]) (n := 97) (w := (1 : Int32)) 3 dX1_leastMove_94 rfl rfl rfl (Nat.le_of_ble_eq_true rfl) rfl rfl ?_
  refine rf_goto (tg := 6) dX1_leastMove_97 rfl ?_
  exact hr6 _ _ _
def fX1_leastMove_K54 (l1 : Int32) (l2 : Int32) (l3 : Int32) (r6 : Int32 → Int32 → ax_M → Option (Int32 × ax_M)) (μ : ax_M) : Option (Int32 × ax_M) :=
  (Option.bind (ax_rd μ 11 24 l3) (fun v3 => (Option.bind (ax_rd μ 12 24 l3) (fun v4 => (if v3 = v4 then (fX1_leastMove_K94 l1 l2 l3 r6 μ) else (Option.bind (ax_rd μ 11 24 l3) (fun v5 => (if v5 = l1 then (Option.bind (ax_rd μ 13 24 l3) (fun v6 => (ax_let (ax_mx l2 (v6 - (999 : Int32))) (fun v7 => (fX1_leastMove_K94 l1 v7 l3 r6 μ))))) else (fX1_leastMove_K94 l1 l2 l3 r6 μ)))))))))
theorem pX1_leastMove_K54 {x : ax_X} {G : ax_G} (hG : ax_ok G) (l1 : Int32) (l2 : Int32) (l3 : Int32) (r6 : Int32 → Int32 → ax_M → Option (Int32 × ax_M)) (hr6 : ∀ (a2 : Int32) (a3 : Int32) (μ : ax_M), ax_Rf mX1_leastMove 1 x (ax_Z ax_jI x G) G 0 0 6 [some (.ref 2), some (.int l1), some (.int a2), some (.int a3)] [] μ (r6 a2 a3 μ)) (μ : ax_M) : ax_Rf mX1_leastMove 1 x (ax_Z ax_jI x G) G 0 0 54 [some (.ref 2), some (.int l1), some (.int l2), some (.int l3)] [] μ (fX1_leastMove_K54 l1 l2 l3 r6 μ) := by
  unfold fX1_leastMove_K54
  refine rf_aload_n (n := 55) 0 dX1_leastMove_54 rfl rfl rfl ?_
  refine rf_getR (n := 58) rr_2_8 kk_11 hG dX1_leastMove_55 flX1_36 ki_1_8 sS_2 kk_2 rfl ?_
  refine rf_iload_n (n := 59) 3 dX1_leastMove_58 rfl rfl rfl ?_
  refine rf_iald (n := 60) hG dX1_leastMove_59 sS_11 kk_11 rfl (fun v3 => ?_)
  refine rf_aload_n (n := 61) 0 dX1_leastMove_60 rfl rfl rfl ?_
  refine rf_getR (n := 64) rr_2_9 kk_12 hG dX1_leastMove_61 flX1_39 ki_1_9 sS_2 kk_2 rfl ?_
  refine rf_iload_n (n := 65) 3 dX1_leastMove_64 rfl rfl rfl ?_
  refine rf_iald (n := 66) hG dX1_leastMove_65 sS_12 kk_12 rfl (fun v4 => ?_)
  refine rf_icmp_eq (tg := 94) (n := 69) dX1_leastMove_66 rfl rfl (fun c9 => ?_) (fun c9 => ?_)
  · exact pX1_leastMove_K94 hG _ _ _ r6 hr6 _
  · refine rf_aload_n (n := 70) 0 dX1_leastMove_69 rfl rfl rfl ?_
    refine rf_getR (n := 73) rr_2_8 kk_11 hG dX1_leastMove_70 flX1_36 ki_1_8 sS_2 kk_2 rfl ?_
    refine rf_iload_n (n := 74) 3 dX1_leastMove_73 rfl rfl rfl ?_
    refine rf_iald (n := 75) hG dX1_leastMove_74 sS_11 kk_11 rfl (fun v5 => ?_)
    refine rf_iload_n (n := 76) 1 dX1_leastMove_75 rfl rfl rfl ?_
    refine rf_icmp_ne (tg := 94) (n := 79) dX1_leastMove_76 rfl rfl (fun c8 => ?_) (fun c8 => ?_)
    · exact pX1_leastMove_K94 hG _ _ _ r6 hr6 _
    · refine rf_iload_n (n := 80) 2 dX1_leastMove_79 rfl rfl rfl ?_
      refine rf_aload_n (n := 81) 0 dX1_leastMove_80 rfl rfl rfl ?_
      refine rf_getR (n := 84) rr_2_10 kk_13 hG dX1_leastMove_81 flX1_42 ki_1_10 sS_2 kk_2 rfl ?_
      refine rf_iload_n (n := 85) 3 dX1_leastMove_84 rfl rfl rfl ?_
      refine rf_iald (n := 86) hG dX1_leastMove_85 sS_13 kk_13 rfl (fun v6 => ?_)
      refine rf_sipush (n := 89) (999 : Int32) dX1_leastMove_86 ccsipush_999 rfl ?_
      refine rf_isub (n := 90) dX1_leastMove_89 rfl ?_
      refine rf_max (n := 93) dX1_leastMove_90 mxX1_90 ax_maxw (Nat.le_of_ble_eq_true rfl) (Nat.le_of_ble_eq_true rfl) rfl ?_
      refine rf_letI (fun v7 => ?_)
      refine rf_istore_n (lc2 := [some (.ref 2), some (.int l1), some (.int v7), some (.int l3)]) (n := 94) 2 dX1_leastMove_93 rfl rfl (Nat.le_of_ble_eq_true rfl) rfl rfl ?_
      exact pX1_leastMove_K94 hG _ _ _ r6 hr6 _
def fX1_leastMove_B6 (l1 : Int32) (r6 : Int32 → Int32 → ax_M → Option (Int32 × ax_M)) (l2 : Int32) (l3 : Int32) (μ : ax_M) : Option (Int32 × ax_M) :=
  (if (μ.1 2 14) ≤ l3 then (some (l2, μ)) else (Option.bind (ax_rd μ 11 24 l3) (fun v1 => (Option.bind (ax_rd μ 12 24 l3) (fun v2 => (if v1 = v2 then (fX1_leastMove_K54 l1 l2 l3 r6 μ) else (Option.bind (ax_rd μ 12 24 l3) (fun v10 => (if v10 = l1 then (Option.bind (ax_rd μ 14 24 l3) (fun v11 => (ax_let (ax_mx l2 (-v11)) (fun v12 => (fX1_leastMove_K94 l1 v12 l3 r6 μ))))) else (fX1_leastMove_K54 l1 l2 l3 r6 μ))))))))))
theorem pX1_leastMove_B6 {x : ax_X} {G : ax_G} (hG : ax_ok G) (l1 : Int32) (r6 : Int32 → Int32 → ax_M → Option (Int32 × ax_M)) (hr6 : ∀ (a2 : Int32) (a3 : Int32) (μ : ax_M), ax_Rf mX1_leastMove 1 x (ax_Z ax_jI x G) G 0 0 6 [some (.ref 2), some (.int l1), some (.int a2), some (.int a3)] [] μ (r6 a2 a3 μ)) (l2 : Int32) (l3 : Int32) (μ : ax_M) : ax_Rf mX1_leastMove 1 x (ax_Z ax_jI x G) G 0 0 6 [some (.ref 2), some (.int l1), some (.int l2), some (.int l3)] [] μ (fX1_leastMove_B6 l1 r6 l2 l3 μ) := by
  unfold fX1_leastMove_B6
  refine rf_iload_n (n := 7) 3 dX1_leastMove_6 rfl rfl rfl ?_
  refine rf_aload_n (n := 8) 0 dX1_leastMove_7 rfl rfl rfl ?_
  refine rf_getI (n := 11) hG dX1_leastMove_8 flX1_58 ki_1_14 sS_2 kk_2 rfl ?_
  refine rf_icmp_ge (tg := 100) (n := 14) dX1_leastMove_11 rfl rfl (fun c15 => ?_) (fun c15 => ?_)
  · refine rf_iload_n (n := 101) 2 dX1_leastMove_100 rfl rfl rfl ?_
    exact rf_retI rfl dX1_leastMove_101
  · refine rf_aload_n (n := 15) 0 dX1_leastMove_14 rfl rfl rfl ?_
    refine rf_getR (n := 18) rr_2_8 kk_11 hG dX1_leastMove_15 flX1_36 ki_1_8 sS_2 kk_2 rfl ?_
    refine rf_iload_n (n := 19) 3 dX1_leastMove_18 rfl rfl rfl ?_
    refine rf_iald (n := 20) hG dX1_leastMove_19 sS_11 kk_11 rfl (fun v1 => ?_)
    refine rf_aload_n (n := 21) 0 dX1_leastMove_20 rfl rfl rfl ?_
    refine rf_getR (n := 24) rr_2_9 kk_12 hG dX1_leastMove_21 flX1_39 ki_1_9 sS_2 kk_2 rfl ?_
    refine rf_iload_n (n := 25) 3 dX1_leastMove_24 rfl rfl rfl ?_
    refine rf_iald (n := 26) hG dX1_leastMove_25 sS_12 kk_12 rfl (fun v2 => ?_)
    refine rf_icmp_eq (tg := 54) (n := 29) dX1_leastMove_26 rfl rfl (fun c14 => ?_) (fun c14 => ?_)
    · exact pX1_leastMove_K54 hG _ _ _ r6 hr6 _
    · refine rf_aload_n (n := 30) 0 dX1_leastMove_29 rfl rfl rfl ?_
      refine rf_getR (n := 33) rr_2_9 kk_12 hG dX1_leastMove_30 flX1_39 ki_1_9 sS_2 kk_2 rfl ?_
      refine rf_iload_n (n := 34) 3 dX1_leastMove_33 rfl rfl rfl ?_
      refine rf_iald (n := 35) hG dX1_leastMove_34 sS_12 kk_12 rfl (fun v10 => ?_)
      refine rf_iload_n (n := 36) 1 dX1_leastMove_35 rfl rfl rfl ?_
      refine rf_icmp_ne (tg := 54) (n := 39) dX1_leastMove_36 rfl rfl (fun c13 => ?_) (fun c13 => ?_)
      · exact pX1_leastMove_K54 hG _ _ _ r6 hr6 _
      · refine rf_iload_n (n := 40) 2 dX1_leastMove_39 rfl rfl rfl ?_
        refine rf_aload_n (n := 41) 0 dX1_leastMove_40 rfl rfl rfl ?_
        refine rf_getR (n := 44) rr_2_11 kk_14 hG dX1_leastMove_41 flX1_45 ki_1_11 sS_2 kk_2 rfl ?_
        refine rf_iload_n (n := 45) 3 dX1_leastMove_44 rfl rfl rfl ?_
        refine rf_iald (n := 46) hG dX1_leastMove_45 sS_14 kk_14 rfl (fun v11 => ?_)
        refine rf_ineg (n := 47) dX1_leastMove_46 rfl ?_
        refine rf_max (n := 50) dX1_leastMove_47 mxX1_90 ax_maxw (Nat.le_of_ble_eq_true rfl) (Nat.le_of_ble_eq_true rfl) rfl ?_
        refine rf_letI (fun v12 => ?_)
        refine rf_istore_n (lc2 := [some (.ref 2), some (.int l1), some (.int v12), some (.int l3)]) (n := 51) 2 dX1_leastMove_50 rfl rfl (Nat.le_of_ble_eq_true rfl) rfl rfl ?_
        refine rf_goto (tg := 94) dX1_leastMove_51 rfl ?_
        exact pX1_leastMove_K94 hG _ _ _ r6 hr6 _
theorem pX1_leastMove_L6 {x : ax_X} {G : ax_G} (hG : ax_ok G) (l1 : Int32) (n : Nat) (a2 : Int32) (a3 : Int32) (μ : ax_M) : ax_Rf mX1_leastMove 1 x (ax_Z ax_jI x G) G 0 0 6 [some (.ref 2), some (.int l1), some (.int a2), some (.int a3)] [] μ (ax_lp2 (fX1_leastMove_B6 l1) n a2 a3 μ) :=
  rf_lp2 (P := fun a2 a3 μ t => ax_Rf mX1_leastMove 1 x (ax_Z ax_jI x G) G 0 0 6 [some (.ref 2), some (.int l1), some (.int a2), some (.int a3)] [] μ t) (fun _ _ _ => rf_none) (fun rc hrc a2 a3 μ => pX1_leastMove_B6 hG l1 rc hrc a2 a3 μ) n a2 a3 μ
def fX1_leastMove (p1 : Int32) (μ : ax_M) : Option (Int32 × ax_M) :=
  (ax_lp2 (fX1_leastMove_B6 p1) ax_FU (-999 : Int32) (0 : Int32) μ)
theorem okX1_leastMove (p1 : Int32) (μ : ax_M) : ax_Ok mX1_leastMove 1 ax_jI [.ref 2, .int p1] μ (fX1_leastMove p1 μ) := by
  refine ax_start (lc := [some (.ref 2), some (.int p1), none, none]) 2 (by decide +kernel) rfl (Nat.le_of_ble_eq_true rfl) (fun x G hG => ?_)
  unfold fX1_leastMove
  refine rf_sipush (n := 3) (-999 : Int32) dX1_leastMove_0 ccsipush_m999 rfl ?_
  refine rf_istore_n (lc2 := [some (.ref 2), some (.int p1), some (.int (-999 : Int32)), none]) (n := 4) 2 dX1_leastMove_3 rfl rfl (Nat.le_of_ble_eq_true rfl) rfl rfl ?_
  refine rf_iconst (n := 5) (0 : Int32) dX1_leastMove_4 cciconst_0 rfl ?_
  refine rf_istore_n (lc2 := [some (.ref 2), some (.int p1), some (.int (-999 : Int32)), some (.int (0 : Int32))]) (n := 6) 3 dX1_leastMove_5 rfl rfl (Nat.le_of_ble_eq_true rfl) rfl rfl ?_
  exact pX1_leastMove_L6 hG _ _ _ _ _
def fX1_greatestMove_K93 (l1 : Int32) (l2 : Int32) (l3 : Int32) (r6 : Int32 → Int32 → ax_M → Option (Int32 × ax_M)) (μ : ax_M) : Option (Int32 × ax_M) :=
  (r6 l2 (l3 + (1 : Int32)) μ)
theorem pX1_greatestMove_K93 {x : ax_X} {G : ax_G} (hG : ax_ok G) (l1 : Int32) (l2 : Int32) (l3 : Int32) (r6 : Int32 → Int32 → ax_M → Option (Int32 × ax_M)) (hr6 : ∀ (a2 : Int32) (a3 : Int32) (μ : ax_M), ax_Rf mX1_greatestMove 1 x (ax_Z ax_jI x G) G 0 0 6 [some (.ref 2), some (.int l1), some (.int a2), some (.int a3)] [] μ (r6 a2 a3 μ)) (μ : ax_M) : ax_Rf mX1_greatestMove 1 x (ax_Z ax_jI x G) G 0 0 93 [some (.ref 2), some (.int l1), some (.int l2), some (.int l3)] [] μ (fX1_greatestMove_K93 l1 l2 l3 r6 μ) := by
  unfold fX1_greatestMove_K93
  refine rf_iinc (lc2 := [some (.ref 2), some (.int l1), some (.int l2), some (.int (l3 + (1 : Int32)))]) (n := 96) (w := (1 : Int32)) 3 dX1_greatestMove_93 rfl rfl rfl (Nat.le_of_ble_eq_true rfl) rfl rfl ?_
  refine rf_goto (tg := 6) dX1_greatestMove_96 rfl ?_
  exact hr6 _ _ _
def fX1_greatestMove_K57 (l1 : Int32) (l2 : Int32) (l3 : Int32) (r6 : Int32 → Int32 → ax_M → Option (Int32 × ax_M)) (μ : ax_M) : Option (Int32 × ax_M) :=
  (Option.bind (ax_rd μ 11 24 l3) (fun v3 => (Option.bind (ax_rd μ 12 24 l3) (fun v4 => (if v3 = v4 then (fX1_greatestMove_K93 l1 l2 l3 r6 μ) else (Option.bind (ax_rd μ 11 24 l3) (fun v5 => (if v5 = l1 then (Option.bind (ax_rd μ 14 24 l3) (fun v6 => (ax_let (ax_mn l2 v6) (fun v7 => (fX1_greatestMove_K93 l1 v7 l3 r6 μ))))) else (fX1_greatestMove_K93 l1 l2 l3 r6 μ)))))))))
theorem pX1_greatestMove_K57 {x : ax_X} {G : ax_G} (hG : ax_ok G) (l1 : Int32) (l2 : Int32) (l3 : Int32) (r6 : Int32 → Int32 → ax_M → Option (Int32 × ax_M)) (hr6 : ∀ (a2 : Int32) (a3 : Int32) (μ : ax_M), ax_Rf mX1_greatestMove 1 x (ax_Z ax_jI x G) G 0 0 6 [some (.ref 2), some (.int l1), some (.int a2), some (.int a3)] [] μ (r6 a2 a3 μ)) (μ : ax_M) : ax_Rf mX1_greatestMove 1 x (ax_Z ax_jI x G) G 0 0 57 [some (.ref 2), some (.int l1), some (.int l2), some (.int l3)] [] μ (fX1_greatestMove_K57 l1 l2 l3 r6 μ) := by
  unfold fX1_greatestMove_K57
  refine rf_aload_n (n := 58) 0 dX1_greatestMove_57 rfl rfl rfl ?_
  refine rf_getR (n := 61) rr_2_8 kk_11 hG dX1_greatestMove_58 flX1_36 ki_1_8 sS_2 kk_2 rfl ?_
  refine rf_iload_n (n := 62) 3 dX1_greatestMove_61 rfl rfl rfl ?_
  refine rf_iald (n := 63) hG dX1_greatestMove_62 sS_11 kk_11 rfl (fun v3 => ?_)
  refine rf_aload_n (n := 64) 0 dX1_greatestMove_63 rfl rfl rfl ?_
  refine rf_getR (n := 67) rr_2_9 kk_12 hG dX1_greatestMove_64 flX1_39 ki_1_9 sS_2 kk_2 rfl ?_
  refine rf_iload_n (n := 68) 3 dX1_greatestMove_67 rfl rfl rfl ?_
  refine rf_iald (n := 69) hG dX1_greatestMove_68 sS_12 kk_12 rfl (fun v4 => ?_)
  refine rf_icmp_eq (tg := 93) (n := 72) dX1_greatestMove_69 rfl rfl (fun c9 => ?_) (fun c9 => ?_)
  · exact pX1_greatestMove_K93 hG _ _ _ r6 hr6 _
  · refine rf_aload_n (n := 73) 0 dX1_greatestMove_72 rfl rfl rfl ?_
    refine rf_getR (n := 76) rr_2_8 kk_11 hG dX1_greatestMove_73 flX1_36 ki_1_8 sS_2 kk_2 rfl ?_
    refine rf_iload_n (n := 77) 3 dX1_greatestMove_76 rfl rfl rfl ?_
    refine rf_iald (n := 78) hG dX1_greatestMove_77 sS_11 kk_11 rfl (fun v5 => ?_)
    refine rf_iload_n (n := 79) 1 dX1_greatestMove_78 rfl rfl rfl ?_
    refine rf_icmp_ne (tg := 93) (n := 82) dX1_greatestMove_79 rfl rfl (fun c8 => ?_) (fun c8 => ?_)
    · exact pX1_greatestMove_K93 hG _ _ _ r6 hr6 _
    · refine rf_iload_n (n := 83) 2 dX1_greatestMove_82 rfl rfl rfl ?_
      refine rf_aload_n (n := 84) 0 dX1_greatestMove_83 rfl rfl rfl ?_
      refine rf_getR (n := 87) rr_2_11 kk_14 hG dX1_greatestMove_84 flX1_45 ki_1_11 sS_2 kk_2 rfl ?_
      refine rf_iload_n (n := 88) 3 dX1_greatestMove_87 rfl rfl rfl ?_
      refine rf_iald (n := 89) hG dX1_greatestMove_88 sS_14 kk_14 rfl (fun v6 => ?_)
      refine rf_min (n := 92) dX1_greatestMove_89 mxX1_109 ax_minw (Nat.le_of_ble_eq_true rfl) (Nat.le_of_ble_eq_true rfl) rfl ?_
      refine rf_letI (fun v7 => ?_)
      refine rf_istore_n (lc2 := [some (.ref 2), some (.int l1), some (.int v7), some (.int l3)]) (n := 93) 2 dX1_greatestMove_92 rfl rfl (Nat.le_of_ble_eq_true rfl) rfl rfl ?_
      exact pX1_greatestMove_K93 hG _ _ _ r6 hr6 _
def fX1_greatestMove_B6 (l1 : Int32) (r6 : Int32 → Int32 → ax_M → Option (Int32 × ax_M)) (l2 : Int32) (l3 : Int32) (μ : ax_M) : Option (Int32 × ax_M) :=
  (if (μ.1 2 14) ≤ l3 then (some (l2, μ)) else (Option.bind (ax_rd μ 11 24 l3) (fun v1 => (Option.bind (ax_rd μ 12 24 l3) (fun v2 => (if v1 = v2 then (fX1_greatestMove_K57 l1 l2 l3 r6 μ) else (Option.bind (ax_rd μ 12 24 l3) (fun v10 => (if v10 = l1 then (Option.bind (ax_rd μ 13 24 l3) (fun v11 => (ax_let (ax_mn l2 ((999 : Int32) - v11)) (fun v12 => (fX1_greatestMove_K93 l1 v12 l3 r6 μ))))) else (fX1_greatestMove_K57 l1 l2 l3 r6 μ))))))))))
theorem pX1_greatestMove_B6 {x : ax_X} {G : ax_G} (hG : ax_ok G) (l1 : Int32) (r6 : Int32 → Int32 → ax_M → Option (Int32 × ax_M)) (hr6 : ∀ (a2 : Int32) (a3 : Int32) (μ : ax_M), ax_Rf mX1_greatestMove 1 x (ax_Z ax_jI x G) G 0 0 6 [some (.ref 2), some (.int l1), some (.int a2), some (.int a3)] [] μ (r6 a2 a3 μ)) (l2 : Int32) (l3 : Int32) (μ : ax_M) : ax_Rf mX1_greatestMove 1 x (ax_Z ax_jI x G) G 0 0 6 [some (.ref 2), some (.int l1), some (.int l2), some (.int l3)] [] μ (fX1_greatestMove_B6 l1 r6 l2 l3 μ) := by
  unfold fX1_greatestMove_B6
  refine rf_iload_n (n := 7) 3 dX1_greatestMove_6 rfl rfl rfl ?_
  refine rf_aload_n (n := 8) 0 dX1_greatestMove_7 rfl rfl rfl ?_
  refine rf_getI (n := 11) hG dX1_greatestMove_8 flX1_58 ki_1_14 sS_2 kk_2 rfl ?_
  refine rf_icmp_ge (tg := 99) (n := 14) dX1_greatestMove_11 rfl rfl (fun c15 => ?_) (fun c15 => ?_)
  · refine rf_iload_n (n := 100) 2 dX1_greatestMove_99 rfl rfl rfl ?_
    exact rf_retI rfl dX1_greatestMove_100
  · refine rf_aload_n (n := 15) 0 dX1_greatestMove_14 rfl rfl rfl ?_
    refine rf_getR (n := 18) rr_2_8 kk_11 hG dX1_greatestMove_15 flX1_36 ki_1_8 sS_2 kk_2 rfl ?_
    refine rf_iload_n (n := 19) 3 dX1_greatestMove_18 rfl rfl rfl ?_
    refine rf_iald (n := 20) hG dX1_greatestMove_19 sS_11 kk_11 rfl (fun v1 => ?_)
    refine rf_aload_n (n := 21) 0 dX1_greatestMove_20 rfl rfl rfl ?_
    refine rf_getR (n := 24) rr_2_9 kk_12 hG dX1_greatestMove_21 flX1_39 ki_1_9 sS_2 kk_2 rfl ?_
    refine rf_iload_n (n := 25) 3 dX1_greatestMove_24 rfl rfl rfl ?_
    refine rf_iald (n := 26) hG dX1_greatestMove_25 sS_12 kk_12 rfl (fun v2 => ?_)
    refine rf_icmp_eq (tg := 57) (n := 29) dX1_greatestMove_26 rfl rfl (fun c14 => ?_) (fun c14 => ?_)
    · exact pX1_greatestMove_K57 hG _ _ _ r6 hr6 _
    · refine rf_aload_n (n := 30) 0 dX1_greatestMove_29 rfl rfl rfl ?_
      refine rf_getR (n := 33) rr_2_9 kk_12 hG dX1_greatestMove_30 flX1_39 ki_1_9 sS_2 kk_2 rfl ?_
      refine rf_iload_n (n := 34) 3 dX1_greatestMove_33 rfl rfl rfl ?_
      refine rf_iald (n := 35) hG dX1_greatestMove_34 sS_12 kk_12 rfl (fun v10 => ?_)
      refine rf_iload_n (n := 36) 1 dX1_greatestMove_35 rfl rfl rfl ?_
      refine rf_icmp_ne (tg := 57) (n := 39) dX1_greatestMove_36 rfl rfl (fun c13 => ?_) (fun c13 => ?_)
      · exact pX1_greatestMove_K57 hG _ _ _ r6 hr6 _
      · refine rf_iload_n (n := 40) 2 dX1_greatestMove_39 rfl rfl rfl ?_
        refine rf_sipush (n := 43) (999 : Int32) dX1_greatestMove_40 ccsipush_999 rfl ?_
        refine rf_aload_n (n := 44) 0 dX1_greatestMove_43 rfl rfl rfl ?_
        refine rf_getR (n := 47) rr_2_10 kk_13 hG dX1_greatestMove_44 flX1_42 ki_1_10 sS_2 kk_2 rfl ?_
        refine rf_iload_n (n := 48) 3 dX1_greatestMove_47 rfl rfl rfl ?_
        refine rf_iald (n := 49) hG dX1_greatestMove_48 sS_13 kk_13 rfl (fun v11 => ?_)
        refine rf_isub (n := 50) dX1_greatestMove_49 rfl ?_
        refine rf_min (n := 53) dX1_greatestMove_50 mxX1_109 ax_minw (Nat.le_of_ble_eq_true rfl) (Nat.le_of_ble_eq_true rfl) rfl ?_
        refine rf_letI (fun v12 => ?_)
        refine rf_istore_n (lc2 := [some (.ref 2), some (.int l1), some (.int v12), some (.int l3)]) (n := 54) 2 dX1_greatestMove_53 rfl rfl (Nat.le_of_ble_eq_true rfl) rfl rfl ?_
        refine rf_goto (tg := 93) dX1_greatestMove_54 rfl ?_
        exact pX1_greatestMove_K93 hG _ _ _ r6 hr6 _
theorem pX1_greatestMove_L6 {x : ax_X} {G : ax_G} (hG : ax_ok G) (l1 : Int32) (n : Nat) (a2 : Int32) (a3 : Int32) (μ : ax_M) : ax_Rf mX1_greatestMove 1 x (ax_Z ax_jI x G) G 0 0 6 [some (.ref 2), some (.int l1), some (.int a2), some (.int a3)] [] μ (ax_lp2 (fX1_greatestMove_B6 l1) n a2 a3 μ) :=
  rf_lp2 (P := fun a2 a3 μ t => ax_Rf mX1_greatestMove 1 x (ax_Z ax_jI x G) G 0 0 6 [some (.ref 2), some (.int l1), some (.int a2), some (.int a3)] [] μ t) (fun _ _ _ => rf_none) (fun rc hrc a2 a3 μ => pX1_greatestMove_B6 hG l1 rc hrc a2 a3 μ) n a2 a3 μ
def fX1_greatestMove (p1 : Int32) (μ : ax_M) : Option (Int32 × ax_M) :=
  (ax_lp2 (fX1_greatestMove_B6 p1) ax_FU (999 : Int32) (0 : Int32) μ)
theorem okX1_greatestMove (p1 : Int32) (μ : ax_M) : ax_Ok mX1_greatestMove 1 ax_jI [.ref 2, .int p1] μ (fX1_greatestMove p1 μ) := by
  refine ax_start (lc := [some (.ref 2), some (.int p1), none, none]) 2 (by decide +kernel) rfl (Nat.le_of_ble_eq_true rfl) (fun x G hG => ?_)
  unfold fX1_greatestMove
  refine rf_sipush (n := 3) (999 : Int32) dX1_greatestMove_0 ccsipush_999 rfl ?_
  refine rf_istore_n (lc2 := [some (.ref 2), some (.int p1), some (.int (999 : Int32)), none]) (n := 4) 2 dX1_greatestMove_3 rfl rfl (Nat.le_of_ble_eq_true rfl) rfl rfl ?_
  refine rf_iconst (n := 5) (0 : Int32) dX1_greatestMove_4 cciconst_0 rfl ?_
  refine rf_istore_n (lc2 := [some (.ref 2), some (.int p1), some (.int (999 : Int32)), some (.int (0 : Int32))]) (n := 6) 3 dX1_greatestMove_5 rfl rfl (Nat.le_of_ble_eq_true rfl) rfl rfl ?_
  exact pX1_greatestMove_L6 hG _ _ _ _ _
def fX1_moveWork_K40 (l1 : Int32) (l2 : Int32) (l3 : Int32) (s0 : Int32) (s1 : Int32) (r2 : Int32 → ax_M → Option (Unit × ax_M)) (μ : ax_M) : Option (Unit × ax_M) :=
  (ax_let (s0 - s1) (fun v3 => (Option.bind (ax_rd μ 13 24 l3) (fun v4 => (Option.bind (ax_wr μ 13 24 l3 (v4 + v3)) (fun m5 => (Option.bind (ax_rd m5 14 24 l3) (fun v6 => (Option.bind (ax_wr m5 14 24 l3 (v6 + v3)) (fun m7 => (r2 (l3 + (1 : Int32)) m7)))))))))))
theorem pX1_moveWork_K40 {x : ax_X} {G : ax_G} (hG : ax_ok G) (l1 : Int32) (l2 : Int32) (l3 : Int32) (s0 : Int32) (s1 : Int32) (r2 : Int32 → ax_M → Option (Unit × ax_M)) (hr2 : ∀ (a3 : Int32) (μ : ax_M), ax_Rf mX1_moveWork 0 x (ax_Z ax_jV x G) G 0 0 2 [some (.ref 2), some (.int l1), some (.int l2), some (.int a3), none] [] μ (r2 a3 μ)) (μ : ax_M) : ax_Rf mX1_moveWork 0 x (ax_Z ax_jV x G) G 0 0 40 [some (.ref 2), some (.int l1), some (.int l2), some (.int l3), none] [.int s1, .int s0] μ (fX1_moveWork_K40 l1 l2 l3 s0 s1 r2 μ) := by
  unfold fX1_moveWork_K40
  refine rf_isub (n := 41) dX1_moveWork_40 rfl ?_
  refine rf_letI (fun v3 => ?_)
  refine rf_istore (lc2 := [some (.ref 2), some (.int l1), some (.int l2), some (.int l3), some (.int v3)]) (n := 43) 4 dX1_moveWork_41 rfl (Nat.le_of_ble_eq_true rfl) rfl rfl ?_
  refine rf_aload_n (n := 44) 0 dX1_moveWork_43 rfl rfl rfl ?_
  refine rf_getR (n := 47) rr_2_10 kk_13 hG dX1_moveWork_44 flX1_42 ki_1_10 sS_2 kk_2 rfl ?_
  refine rf_iload_n (n := 48) 3 dX1_moveWork_47 rfl rfl rfl ?_
  refine rf_dup2 (n := 49) dX1_moveWork_48 rfl ?_
  refine rf_iald (n := 50) hG dX1_moveWork_49 sS_13 kk_13 rfl (fun v4 => ?_)
  refine rf_iload (n := 52) 4 dX1_moveWork_50 rfl rfl ?_
  refine rf_iadd (n := 53) dX1_moveWork_52 rfl ?_
  refine rf_iast (n := 54) hG dX1_moveWork_53 sS_13 kk_13 rfl (fun m5 => ?_)
  refine rf_aload_n (n := 55) 0 dX1_moveWork_54 rfl rfl rfl ?_
  refine rf_getR (n := 58) rr_2_11 kk_14 hG dX1_moveWork_55 flX1_45 ki_1_11 sS_2 kk_2 rfl ?_
  refine rf_iload_n (n := 59) 3 dX1_moveWork_58 rfl rfl rfl ?_
  refine rf_dup2 (n := 60) dX1_moveWork_59 rfl ?_
  refine rf_iald (n := 61) hG dX1_moveWork_60 sS_14 kk_14 rfl (fun v6 => ?_)
  refine rf_iload (n := 63) 4 dX1_moveWork_61 rfl rfl ?_
  refine rf_iadd (n := 64) dX1_moveWork_63 rfl ?_
  refine rf_iast (n := 65) hG dX1_moveWork_64 sS_14 kk_14 rfl (fun m7 => ?_)
  refine rf_iinc (lc2 := [some (.ref 2), some (.int l1), some (.int l2), some (.int (l3 + (1 : Int32))), some (.int v3)]) (n := 68) (w := (1 : Int32)) 3 dX1_moveWork_65 rfl rfl rfl (Nat.le_of_ble_eq_true rfl) rfl rfl ?_
  refine rf_goto (tg := 2) dX1_moveWork_68 rfl ?_
  refine rf_mask (lc2 := [some (.ref 2), some (.int l1), some (.int l2), some (.int (l3 + (1 : Int32))), none]) [true, true, true, true, false] rfl ?_
  exact hr2 _ _
def fX1_moveWork_K25 (l1 : Int32) (l2 : Int32) (l3 : Int32) (s0 : Int32) (r2 : Int32 → ax_M → Option (Unit × ax_M)) (μ : ax_M) : Option (Unit × ax_M) :=
  (Option.bind (ax_rd μ 11 24 l3) (fun v2 => (if v2 = l1 then (fX1_moveWork_K40 l1 l2 l3 s0 l2 r2 μ) else (fX1_moveWork_K40 l1 l2 l3 s0 (0 : Int32) r2 μ))))
theorem pX1_moveWork_K25 {x : ax_X} {G : ax_G} (hG : ax_ok G) (l1 : Int32) (l2 : Int32) (l3 : Int32) (s0 : Int32) (r2 : Int32 → ax_M → Option (Unit × ax_M)) (hr2 : ∀ (a3 : Int32) (μ : ax_M), ax_Rf mX1_moveWork 0 x (ax_Z ax_jV x G) G 0 0 2 [some (.ref 2), some (.int l1), some (.int l2), some (.int a3), none] [] μ (r2 a3 μ)) (μ : ax_M) : ax_Rf mX1_moveWork 0 x (ax_Z ax_jV x G) G 0 0 25 [some (.ref 2), some (.int l1), some (.int l2), some (.int l3), none] [.int s0] μ (fX1_moveWork_K25 l1 l2 l3 s0 r2 μ) := by
  unfold fX1_moveWork_K25
  refine rf_aload_n (n := 26) 0 dX1_moveWork_25 rfl rfl rfl ?_
  refine rf_getR (n := 29) rr_2_8 kk_11 hG dX1_moveWork_26 flX1_36 ki_1_8 sS_2 kk_2 rfl ?_
  refine rf_iload_n (n := 30) 3 dX1_moveWork_29 rfl rfl rfl ?_
  refine rf_iald (n := 31) hG dX1_moveWork_30 sS_11 kk_11 rfl (fun v2 => ?_)
  refine rf_iload_n (n := 32) 1 dX1_moveWork_31 rfl rfl rfl ?_
  refine rf_icmp_ne (tg := 39) (n := 35) dX1_moveWork_32 rfl rfl (fun c8 => ?_) (fun c8 => ?_)
  · refine rf_iconst (n := 40) (0 : Int32) dX1_moveWork_39 cciconst_0 rfl ?_
    exact pX1_moveWork_K40 hG _ _ _ _ _ r2 hr2 _
  · refine rf_iload_n (n := 36) 2 dX1_moveWork_35 rfl rfl rfl ?_
    refine rf_goto (tg := 40) dX1_moveWork_36 rfl ?_
    exact pX1_moveWork_K40 hG _ _ _ _ _ r2 hr2 _
def fX1_moveWork_B2 (l1 : Int32) (l2 : Int32) (r2 : Int32 → ax_M → Option (Unit × ax_M)) (l3 : Int32) (μ : ax_M) : Option (Unit × ax_M) :=
  (if (μ.1 2 14) ≤ l3 then (some ((), μ)) else (Option.bind (ax_rd μ 12 24 l3) (fun v1 => (if v1 = l1 then (fX1_moveWork_K25 l1 l2 l3 l2 r2 μ) else (fX1_moveWork_K25 l1 l2 l3 (0 : Int32) r2 μ)))))
theorem pX1_moveWork_B2 {x : ax_X} {G : ax_G} (hG : ax_ok G) (l1 : Int32) (l2 : Int32) (r2 : Int32 → ax_M → Option (Unit × ax_M)) (hr2 : ∀ (a3 : Int32) (μ : ax_M), ax_Rf mX1_moveWork 0 x (ax_Z ax_jV x G) G 0 0 2 [some (.ref 2), some (.int l1), some (.int l2), some (.int a3), none] [] μ (r2 a3 μ)) (l3 : Int32) (μ : ax_M) : ax_Rf mX1_moveWork 0 x (ax_Z ax_jV x G) G 0 0 2 [some (.ref 2), some (.int l1), some (.int l2), some (.int l3), none] [] μ (fX1_moveWork_B2 l1 l2 r2 l3 μ) := by
  unfold fX1_moveWork_B2
  refine rf_iload_n (n := 3) 3 dX1_moveWork_2 rfl rfl rfl ?_
  refine rf_aload_n (n := 4) 0 dX1_moveWork_3 rfl rfl rfl ?_
  refine rf_getI (n := 7) hG dX1_moveWork_4 flX1_58 ki_1_14 sS_2 kk_2 rfl ?_
  refine rf_icmp_ge (tg := 71) (n := 10) dX1_moveWork_7 rfl rfl (fun c10 => ?_) (fun c10 => ?_)
  · exact rf_retV rfl dX1_moveWork_71
  · refine rf_aload_n (n := 11) 0 dX1_moveWork_10 rfl rfl rfl ?_
    refine rf_getR (n := 14) rr_2_9 kk_12 hG dX1_moveWork_11 flX1_39 ki_1_9 sS_2 kk_2 rfl ?_
    refine rf_iload_n (n := 15) 3 dX1_moveWork_14 rfl rfl rfl ?_
    refine rf_iald (n := 16) hG dX1_moveWork_15 sS_12 kk_12 rfl (fun v1 => ?_)
    refine rf_iload_n (n := 17) 1 dX1_moveWork_16 rfl rfl rfl ?_
    refine rf_icmp_ne (tg := 24) (n := 20) dX1_moveWork_17 rfl rfl (fun c9 => ?_) (fun c9 => ?_)
    · refine rf_iconst (n := 25) (0 : Int32) dX1_moveWork_24 cciconst_0 rfl ?_
      exact pX1_moveWork_K25 hG _ _ _ _ r2 hr2 _
    · refine rf_iload_n (n := 21) 2 dX1_moveWork_20 rfl rfl rfl ?_
      refine rf_goto (tg := 25) dX1_moveWork_21 rfl ?_
      exact pX1_moveWork_K25 hG _ _ _ _ r2 hr2 _
theorem pX1_moveWork_L2 {x : ax_X} {G : ax_G} (hG : ax_ok G) (l1 : Int32) (l2 : Int32) (n : Nat) (a3 : Int32) (μ : ax_M) : ax_Rf mX1_moveWork 0 x (ax_Z ax_jV x G) G 0 0 2 [some (.ref 2), some (.int l1), some (.int l2), some (.int a3), none] [] μ (ax_lp1 (fX1_moveWork_B2 l1 l2) n a3 μ) :=
  rf_lp1 (P := fun a3 μ t => ax_Rf mX1_moveWork 0 x (ax_Z ax_jV x G) G 0 0 2 [some (.ref 2), some (.int l1), some (.int l2), some (.int a3), none] [] μ t) (fun _ _ => rf_none) (fun rc hrc a3 μ => pX1_moveWork_B2 hG l1 l2 rc hrc a3 μ) n a3 μ
def fX1_moveWork (p1 : Int32) (p2 : Int32) (μ : ax_M) : Option (Unit × ax_M) :=
  (ax_lp1 (fX1_moveWork_B2 p1 p2) ax_FU (0 : Int32) μ)
theorem okX1_moveWork (p1 : Int32) (p2 : Int32) (μ : ax_M) : ax_Ok mX1_moveWork 0 ax_jV [.ref 2, .int p1, .int p2] μ (fX1_moveWork p1 p2 μ) := by
  refine ax_start (lc := [some (.ref 2), some (.int p1), some (.int p2), none, none]) 2 (by decide +kernel) rfl (Nat.le_of_ble_eq_true rfl) (fun x G hG => ?_)
  unfold fX1_moveWork
  refine rf_iconst (n := 1) (0 : Int32) dX1_moveWork_0 cciconst_0 rfl ?_
  refine rf_istore_n (lc2 := [some (.ref 2), some (.int p1), some (.int p2), some (.int (0 : Int32)), none]) (n := 2) 3 dX1_moveWork_1 rfl rfl (Nat.le_of_ble_eq_true rfl) rfl rfl ?_
  exact pX1_moveWork_L2 hG _ _ _ _ _
def fX8_move_K35 (μ : ax_M) : Option (Int32 × ax_M) :=
  (some ((0 : Int32), μ))
theorem pX8_move_K35 {x : ax_X} {G : ax_G} (hG : ax_ok G) (μ : ax_M) : ax_Rf mX8_move 4 x (ax_Z ax_jI x G) G 0 0 35 [none, none, none] [] μ (fX8_move_K35 μ) := by
  unfold fX8_move_K35
  refine rf_iconst (n := 36) (0 : Int32) dX8_move_35 cciconst_0 rfl ?_
  exact rf_retB rfl (Or.inl rfl) dX8_move_36
def fX8_move (p1 : Int32) (p2 : Int32) (μ : ax_M) : Option (Int32 × ax_M) :=
  (ax_bd (fX1_hasCell p1 μ) (fun v1 m2 => (if v1 = 0 then (fX8_move_K35 m2) else (ax_bd (fX1_leastMove p1 m2) (fun v3 m4 => (if p2 < v3 then (fX8_move_K35 m4) else (ax_bd (fX1_greatestMove p1 m4) (fun v5 m6 => (if p2 ≤ v5 then (ax_bd (fX8_beginChange m6) (fun _ m8 => (ax_bd (fX1_moveWork p1 p2 m8) (fun _ m10 => (some ((1 : Int32), m10)))))) else (fX8_move_K35 m6))))))))))
theorem okX8_move (p1 : Int32) (p2 : Int32) (μ : ax_M) : ax_Ok mX8_move 4 ax_jI [.ref 0, .int p1, .int p2] μ (fX8_move p1 p2 μ) := by
  refine ax_start (lc := [some (.ref 0), some (.int p1), some (.int p2)]) 0 (by decide +kernel) rfl (Nat.le_of_ble_eq_true rfl) (fun x G hG => ?_)
  unfold fX8_move
  refine rf_aload_n (n := 1) 0 dX8_move_0 rfl rfl rfl ?_
  refine rf_getR (n := 4) rr_0_2 kk_2 hG dX8_move_1 flX8_16 ki_8_2 sS_0 kk_0 rfl ?_
  refine rf_iload_n (n := 5) 1 dX8_move_4 rfl rfl rfl ?_
  refine rf_cV1I (n := 8) hG (okX1_hasCell _ _) lVX8_152 hhX1_hasCell kk_2 sS_2 ⟨_, rfl, rfl⟩ dX8_move_5 rfl (Nat.le_of_ble_eq_true rfl) (Nat.le_of_ble_eq_true rfl) (fun v1 m2 => ?_)
  refine rf_if_eq (tg := 35) (n := 11) dX8_move_8 rfl rfl (fun c13 => ?_) (fun c13 => ?_)
  · refine rf_mask (lc2 := [none, none, none]) [false, false, false] rfl ?_
    exact pX8_move_K35 hG _
  · refine rf_iload_n (n := 12) 2 dX8_move_11 rfl rfl rfl ?_
    refine rf_aload_n (n := 13) 0 dX8_move_12 rfl rfl rfl ?_
    refine rf_getR (n := 16) rr_0_2 kk_2 hG dX8_move_13 flX8_16 ki_8_2 sS_0 kk_0 rfl ?_
    refine rf_iload_n (n := 17) 1 dX8_move_16 rfl rfl rfl ?_
    refine rf_cV1I (n := 20) hG (okX1_leastMove _ _) lVX8_164 hhX1_leastMove kk_2 sS_2 ⟨_, rfl, rfl⟩ dX8_move_17 rfl (Nat.le_of_ble_eq_true rfl) (Nat.le_of_ble_eq_true rfl) (fun v3 m4 => ?_)
    refine rf_icmp_lt (tg := 35) (n := 23) dX8_move_20 rfl rfl (fun c12 => ?_) (fun c12 => ?_)
    · refine rf_mask (lc2 := [none, none, none]) [false, false, false] rfl ?_
      exact pX8_move_K35 hG _
    · refine rf_iload_n (n := 24) 2 dX8_move_23 rfl rfl rfl ?_
      refine rf_aload_n (n := 25) 0 dX8_move_24 rfl rfl rfl ?_
      refine rf_getR (n := 28) rr_0_2 kk_2 hG dX8_move_25 flX8_16 ki_8_2 sS_0 kk_0 rfl ?_
      refine rf_iload_n (n := 29) 1 dX8_move_28 rfl rfl rfl ?_
      refine rf_cV1I (n := 32) hG (okX1_greatestMove _ _) lVX8_168 hhX1_greatestMove kk_2 sS_2 ⟨_, rfl, rfl⟩ dX8_move_29 rfl (Nat.le_of_ble_eq_true rfl) (Nat.le_of_ble_eq_true rfl) (fun v5 m6 => ?_)
      refine rf_icmp_le (tg := 37) (n := 35) dX8_move_32 rfl rfl (fun c11 => ?_) (fun c11 => ?_)
      · refine rf_aload_n (n := 38) 0 dX8_move_37 rfl rfl rfl ?_
        refine rf_cV0V (n := 41) hG (okX8_beginChange _) lVX8_131 hhX8_beginChange kk_0 sS_0 ⟨_, rfl, rfl⟩ dX8_move_38 rfl (Nat.le_of_ble_eq_true rfl) (Nat.le_of_ble_eq_true rfl) (fun _ m8 => ?_)
        refine rf_aload_n (n := 42) 0 dX8_move_41 rfl rfl rfl ?_
        refine rf_getR (n := 45) rr_0_2 kk_2 hG dX8_move_42 flX8_16 ki_8_2 sS_0 kk_0 rfl ?_
        refine rf_iload_n (n := 46) 1 dX8_move_45 rfl rfl rfl ?_
        refine rf_iload_n (n := 47) 2 dX8_move_46 rfl rfl rfl ?_
        refine rf_cV2V (n := 50) hG (okX1_moveWork _ _ _) lVX8_171 hhX1_moveWork kk_2 sS_2 ⟨_, rfl, rfl⟩ dX8_move_47 rfl (Nat.le_of_ble_eq_true rfl) (Nat.le_of_ble_eq_true rfl) (fun _ m10 => ?_)
        refine rf_iconst (n := 51) (1 : Int32) dX8_move_50 cciconst_1 rfl ?_
        exact rf_retB rfl (Or.inr rfl) dX8_move_51
      · refine rf_mask (lc2 := [none, none, none]) [false, false, false] rfl ?_
        exact pX8_move_K35 hG _
def fX9_moreBy_K30 (s0 : Int32) (s1 : Int32) (μ : ax_M) : Option (Int32 × ax_M) :=
  (some ((s0 - s1), μ))
theorem pX9_moreBy_K30 {x : ax_X} {G : ax_G} (hG : ax_ok G) (s0 : Int32) (s1 : Int32) (μ : ax_M) : ax_Rf mX9_moreBy 0 x (ax_Z ax_jI x G) G 0 0 30 [none, none, none, none] [.int s1, .int s0] μ (fX9_moreBy_K30 s0 s1 μ) := by
  unfold fX9_moreBy_K30
  refine rf_isub (n := 31) dX9_moreBy_30 rfl ?_
  exact rf_retI rfl dX9_moreBy_31
def fX9_moreBy_K15 (l1 : Int32) (l2 : Int32) (l3 : Int32) (s0 : Int32) (μ : ax_M) : Option (Int32 × ax_M) :=
  (Option.bind (ax_rd μ 70 48 l1) (fun v2 => (if v2 = l2 then (fX9_moreBy_K30 s0 l3 μ) else (fX9_moreBy_K30 s0 (0 : Int32) μ))))
theorem pX9_moreBy_K15 {x : ax_X} {G : ax_G} (hG : ax_ok G) (l1 : Int32) (l2 : Int32) (l3 : Int32) (s0 : Int32) (μ : ax_M) : ax_Rf mX9_moreBy 0 x (ax_Z ax_jI x G) G 0 0 15 [some (.ref 57), some (.int l1), some (.int l2), some (.int l3)] [.int s0] μ (fX9_moreBy_K15 l1 l2 l3 s0 μ) := by
  unfold fX9_moreBy_K15
  refine rf_aload_n (n := 16) 0 dX9_moreBy_15 rfl rfl rfl ?_
  refine rf_getR (n := 19) rr_57_14 kk_70 hG dX9_moreBy_16 flX9_47 ki_9_14 sS_57 kk_57 rfl ?_
  refine rf_iload_n (n := 20) 1 dX9_moreBy_19 rfl rfl rfl ?_
  refine rf_iald (n := 21) hG dX9_moreBy_20 sS_70 kk_70 rfl (fun v2 => ?_)
  refine rf_iload_n (n := 22) 2 dX9_moreBy_21 rfl rfl rfl ?_
  refine rf_icmp_ne (tg := 29) (n := 25) dX9_moreBy_22 rfl rfl (fun c3 => ?_) (fun c3 => ?_)
  · refine rf_iconst (n := 30) (0 : Int32) dX9_moreBy_29 cciconst_0 rfl ?_
    refine rf_mask (lc2 := [none, none, none, none]) [false, false, false, false] rfl ?_
    exact pX9_moreBy_K30 hG _ _ _
  · refine rf_iload_n (n := 26) 3 dX9_moreBy_25 rfl rfl rfl ?_
    refine rf_goto (tg := 30) dX9_moreBy_26 rfl ?_
    refine rf_mask (lc2 := [none, none, none, none]) [false, false, false, false] rfl ?_
    exact pX9_moreBy_K30 hG _ _ _
def fX9_moreBy (p1 : Int32) (p2 : Int32) (p3 : Int32) (μ : ax_M) : Option (Int32 × ax_M) :=
  (Option.bind (ax_rd μ 71 48 p1) (fun v1 => (if v1 = p2 then (fX9_moreBy_K15 p1 p2 p3 p3 μ) else (fX9_moreBy_K15 p1 p2 p3 (0 : Int32) μ))))
theorem okX9_moreBy (p1 : Int32) (p2 : Int32) (p3 : Int32) (μ : ax_M) : ax_Ok mX9_moreBy 0 ax_jI [.ref 57, .int p1, .int p2, .int p3] μ (fX9_moreBy p1 p2 p3 μ) := by
  refine ax_start (lc := [some (.ref 57), some (.int p1), some (.int p2), some (.int p3)]) 0 (by decide +kernel) rfl (Nat.le_of_ble_eq_true rfl) (fun x G hG => ?_)
  unfold fX9_moreBy
  refine rf_aload_n (n := 1) 0 dX9_moreBy_0 rfl rfl rfl ?_
  refine rf_getR (n := 4) rr_57_15 kk_71 hG dX9_moreBy_1 flX9_50 ki_9_15 sS_57 kk_57 rfl ?_
  refine rf_iload_n (n := 5) 1 dX9_moreBy_4 rfl rfl rfl ?_
  refine rf_iald (n := 6) hG dX9_moreBy_5 sS_71 kk_71 rfl (fun v1 => ?_)
  refine rf_iload_n (n := 7) 2 dX9_moreBy_6 rfl rfl rfl ?_
  refine rf_icmp_ne (tg := 14) (n := 10) dX9_moreBy_7 rfl rfl (fun c4 => ?_) (fun c4 => ?_)
  · refine rf_iconst (n := 15) (0 : Int32) dX9_moreBy_14 cciconst_0 rfl ?_
    exact pX9_moreBy_K15 hG _ _ _ _ _
  · refine rf_iload_n (n := 11) 3 dX9_moreBy_10 rfl rfl rfl ?_
    refine rf_goto (tg := 15) dX9_moreBy_11 rfl ?_
    exact pX9_moreBy_K15 hG _ _ _ _ _
def fX9_canMove_K52 (μ : ax_M) : Option (Int32 × ax_M) :=
  (some ((0 : Int32), μ))
theorem pX9_canMove_K52 {x : ax_X} {G : ax_G} (hG : ax_ok G) (μ : ax_M) : ax_Rf mX9_canMove 1 x (ax_Z ax_jI x G) G 0 0 52 [none, none, none, none, none] [] μ (fX9_canMove_K52 μ) := by
  unfold fX9_canMove_K52
  refine rf_iconst (n := 53) (0 : Int32) dX9_canMove_52 cciconst_0 rfl ?_
  exact rf_retB rfl (Or.inl rfl) dX9_canMove_53
def fX9_canMove_B2 (l1 : Int32) (l2 : Int32) (r2 : Int32 → ax_M → Option (Int32 × ax_M)) (l3 : Int32) (μ : ax_M) : Option (Int32 × ax_M) :=
  (ax_bd (fX9_paths μ) (fun v1 m2 => (if v1 ≤ l3 then (some ((1 : Int32), m2)) else (ax_bd (fX9_moreBy l3 l1 l2 m2) (fun v3 m4 => (Option.bind (ax_rd m4 74 68 ((43 : Int32) + l3)) (fun v5 => (if (v5 + v3) < 0 then (fX9_canMove_K52 m4) else (Option.bind (ax_rd m4 74 68 ((19 : Int32) + l3)) (fun v6 => (if (v6 + v3) ≤ (999 : Int32) then (r2 (l3 + (1 : Int32)) m4) else (fX9_canMove_K52 m4))))))))))))
theorem pX9_canMove_B2 {x : ax_X} {G : ax_G} (hG : ax_ok G) (l1 : Int32) (l2 : Int32) (r2 : Int32 → ax_M → Option (Int32 × ax_M)) (hr2 : ∀ (a3 : Int32) (μ : ax_M), ax_Rf mX9_canMove 1 x (ax_Z ax_jI x G) G 0 0 2 [some (.ref 57), some (.int l1), some (.int l2), some (.int a3), none] [] μ (r2 a3 μ)) (l3 : Int32) (μ : ax_M) : ax_Rf mX9_canMove 1 x (ax_Z ax_jI x G) G 0 0 2 [some (.ref 57), some (.int l1), some (.int l2), some (.int l3), none] [] μ (fX9_canMove_B2 l1 l2 r2 l3 μ) := by
  unfold fX9_canMove_B2
  refine rf_iload_n (n := 3) 3 dX9_canMove_2 rfl rfl rfl ?_
  refine rf_aload_n (n := 4) 0 dX9_canMove_3 rfl rfl rfl ?_
  refine rf_cV0I (n := 7) hG (okX9_paths _) lVX9_236 hhX9_paths kk_57 sS_57 ⟨_, rfl, rfl⟩ dX9_canMove_4 rfl (Nat.le_of_ble_eq_true rfl) (Nat.le_of_ble_eq_true rfl) (fun v1 m2 => ?_)
  refine rf_icmp_ge (tg := 60) (n := 10) dX9_canMove_7 rfl rfl (fun c9 => ?_) (fun c9 => ?_)
  · refine rf_iconst (n := 61) (1 : Int32) dX9_canMove_60 cciconst_1 rfl ?_
    exact rf_retB rfl (Or.inr rfl) dX9_canMove_61
  · refine rf_aload_n (n := 11) 0 dX9_canMove_10 rfl rfl rfl ?_
    refine rf_iload_n (n := 12) 3 dX9_canMove_11 rfl rfl rfl ?_
    refine rf_iload_n (n := 13) 1 dX9_canMove_12 rfl rfl rfl ?_
    refine rf_iload_n (n := 14) 2 dX9_canMove_13 rfl rfl rfl ?_
    refine rf_cV3I (n := 17) hG (okX9_moreBy _ _ _ _) lVX9_248 hhX9_moreBy kk_57 sS_57 ⟨_, rfl, rfl⟩ dX9_canMove_14 rfl (Nat.le_of_ble_eq_true rfl) (Nat.le_of_ble_eq_true rfl) (fun v3 m4 => ?_)
    refine rf_istore (lc2 := [some (.ref 57), some (.int l1), some (.int l2), some (.int l3), some (.int v3)]) (n := 19) 4 dX9_canMove_17 rfl (Nat.le_of_ble_eq_true rfl) rfl rfl ?_
    refine rf_aload_n (n := 20) 0 dX9_canMove_19 rfl rfl rfl ?_
    refine rf_getR (n := 23) rr_57_28 kk_74 hG dX9_canMove_20 flX9_63 ki_9_28 sS_57 kk_57 rfl ?_
    refine rf_bipush (n := 25) (43 : Int32) dX9_canMove_23 ccbipush_43 rfl ?_
    refine rf_iload_n (n := 26) 3 dX9_canMove_25 rfl rfl rfl ?_
    refine rf_iadd (n := 27) dX9_canMove_26 rfl ?_
    refine rf_iald (n := 28) hG dX9_canMove_27 sS_74 kk_74 rfl (fun v5 => ?_)
    refine rf_iload (n := 30) 4 dX9_canMove_28 rfl rfl ?_
    refine rf_iadd (n := 31) dX9_canMove_30 rfl ?_
    refine rf_if_lt (tg := 52) (n := 34) dX9_canMove_31 rfl rfl (fun c8 => ?_) (fun c8 => ?_)
    · refine rf_mask (lc2 := [none, none, none, none, none]) [false, false, false, false, false] rfl ?_
      exact pX9_canMove_K52 hG _
    · refine rf_aload_n (n := 35) 0 dX9_canMove_34 rfl rfl rfl ?_
      refine rf_getR (n := 38) rr_57_28 kk_74 hG dX9_canMove_35 flX9_63 ki_9_28 sS_57 kk_57 rfl ?_
      refine rf_bipush (n := 40) (19 : Int32) dX9_canMove_38 ccbipush_19 rfl ?_
      refine rf_iload_n (n := 41) 3 dX9_canMove_40 rfl rfl rfl ?_
      refine rf_iadd (n := 42) dX9_canMove_41 rfl ?_
      refine rf_iald (n := 43) hG dX9_canMove_42 sS_74 kk_74 rfl (fun v6 => ?_)
      refine rf_iload (n := 45) 4 dX9_canMove_43 rfl rfl ?_
      refine rf_iadd (n := 46) dX9_canMove_45 rfl ?_
      refine rf_sipush (n := 49) (999 : Int32) dX9_canMove_46 ccsipush_999 rfl ?_
      refine rf_icmp_le (tg := 54) (n := 52) dX9_canMove_49 rfl rfl (fun c7 => ?_) (fun c7 => ?_)
      · refine rf_iinc (lc2 := [some (.ref 57), some (.int l1), some (.int l2), some (.int (l3 + (1 : Int32))), some (.int v3)]) (n := 57) (w := (1 : Int32)) 3 dX9_canMove_54 rfl rfl rfl (Nat.le_of_ble_eq_true rfl) rfl rfl ?_
        refine rf_goto (tg := 2) dX9_canMove_57 rfl ?_
        refine rf_mask (lc2 := [some (.ref 57), some (.int l1), some (.int l2), some (.int (l3 + (1 : Int32))), none]) [true, true, true, true, false] rfl ?_
        exact hr2 _ _
      · refine rf_mask (lc2 := [none, none, none, none, none]) [false, false, false, false, false] rfl ?_
        exact pX9_canMove_K52 hG _
theorem pX9_canMove_L2 {x : ax_X} {G : ax_G} (hG : ax_ok G) (l1 : Int32) (l2 : Int32) (n : Nat) (a3 : Int32) (μ : ax_M) : ax_Rf mX9_canMove 1 x (ax_Z ax_jI x G) G 0 0 2 [some (.ref 57), some (.int l1), some (.int l2), some (.int a3), none] [] μ (ax_lp1 (fX9_canMove_B2 l1 l2) n a3 μ) :=
  rf_lp1 (P := fun a3 μ t => ax_Rf mX9_canMove 1 x (ax_Z ax_jI x G) G 0 0 2 [some (.ref 57), some (.int l1), some (.int l2), some (.int a3), none] [] μ t) (fun _ _ => rf_none) (fun rc hrc a3 μ => pX9_canMove_B2 hG l1 l2 rc hrc a3 μ) n a3 μ
def fX9_canMove (p1 : Int32) (p2 : Int32) (μ : ax_M) : Option (Int32 × ax_M) :=
  (ax_lp1 (fX9_canMove_B2 p1 p2) ax_FU (0 : Int32) μ)
theorem okX9_canMove (p1 : Int32) (p2 : Int32) (μ : ax_M) : ax_Ok mX9_canMove 1 ax_jI [.ref 57, .int p1, .int p2] μ (fX9_canMove p1 p2 μ) := by
  refine ax_start (lc := [some (.ref 57), some (.int p1), some (.int p2), none, none]) 2 (by decide +kernel) rfl (Nat.le_of_ble_eq_true rfl) (fun x G hG => ?_)
  unfold fX9_canMove
  refine rf_iconst (n := 1) (0 : Int32) dX9_canMove_0 cciconst_0 rfl ?_
  refine rf_istore_n (lc2 := [some (.ref 57), some (.int p1), some (.int p2), some (.int (0 : Int32)), none]) (n := 2) 3 dX9_canMove_1 rfl rfl (Nat.le_of_ble_eq_true rfl) rfl rfl ?_
  exact pX9_canMove_L2 hG _ _ _ _ _
def fX9_moves_B2 (l1 : Int32) (l2 : Int32) (r2 : Int32 → ax_M → Option (Unit × ax_M)) (l3 : Int32) (μ : ax_M) : Option (Unit × ax_M) :=
  (ax_bd (fX9_paths μ) (fun v1 m2 => (if v1 ≤ l3 then (some ((), m2)) else (ax_bd (fX9_moreBy l3 l1 l2 m2) (fun v3 m4 => (Option.bind (ax_rd m4 74 68 ((19 : Int32) + l3)) (fun v5 => (Option.bind (ax_wr m4 74 68 ((19 : Int32) + l3) (v5 + v3)) (fun m6 => (Option.bind (ax_rd m6 74 68 ((43 : Int32) + l3)) (fun v7 => (Option.bind (ax_wr m6 74 68 ((43 : Int32) + l3) (v7 + v3)) (fun m8 => (r2 (l3 + (1 : Int32)) m8))))))))))))))
theorem pX9_moves_B2 {x : ax_X} {G : ax_G} (hG : ax_ok G) (l1 : Int32) (l2 : Int32) (r2 : Int32 → ax_M → Option (Unit × ax_M)) (hr2 : ∀ (a3 : Int32) (μ : ax_M), ax_Rf mX9_moves 1 x (ax_Z ax_jV x G) G 0 0 2 [some (.ref 57), some (.int l1), some (.int l2), some (.int a3), none] [] μ (r2 a3 μ)) (l3 : Int32) (μ : ax_M) : ax_Rf mX9_moves 1 x (ax_Z ax_jV x G) G 0 0 2 [some (.ref 57), some (.int l1), some (.int l2), some (.int l3), none] [] μ (fX9_moves_B2 l1 l2 r2 l3 μ) := by
  unfold fX9_moves_B2
  refine rf_iload_n (n := 3) 3 dX9_moves_2 rfl rfl rfl ?_
  refine rf_aload_n (n := 4) 0 dX9_moves_3 rfl rfl rfl ?_
  refine rf_cV0I (n := 7) hG (okX9_paths _) lVX9_236 hhX9_paths kk_57 sS_57 ⟨_, rfl, rfl⟩ dX9_moves_4 rfl (Nat.le_of_ble_eq_true rfl) (Nat.le_of_ble_eq_true rfl) (fun v1 m2 => ?_)
  refine rf_icmp_ge (tg := 53) (n := 10) dX9_moves_7 rfl rfl (fun c9 => ?_) (fun c9 => ?_)
  · exact rf_retV rfl dX9_moves_53
  · refine rf_aload_n (n := 11) 0 dX9_moves_10 rfl rfl rfl ?_
    refine rf_iload_n (n := 12) 3 dX9_moves_11 rfl rfl rfl ?_
    refine rf_iload_n (n := 13) 1 dX9_moves_12 rfl rfl rfl ?_
    refine rf_iload_n (n := 14) 2 dX9_moves_13 rfl rfl rfl ?_
    refine rf_cV3I (n := 17) hG (okX9_moreBy _ _ _ _) lVX9_248 hhX9_moreBy kk_57 sS_57 ⟨_, rfl, rfl⟩ dX9_moves_14 rfl (Nat.le_of_ble_eq_true rfl) (Nat.le_of_ble_eq_true rfl) (fun v3 m4 => ?_)
    refine rf_istore (lc2 := [some (.ref 57), some (.int l1), some (.int l2), some (.int l3), some (.int v3)]) (n := 19) 4 dX9_moves_17 rfl (Nat.le_of_ble_eq_true rfl) rfl rfl ?_
    refine rf_aload_n (n := 20) 0 dX9_moves_19 rfl rfl rfl ?_
    refine rf_getR (n := 23) rr_57_28 kk_74 hG dX9_moves_20 flX9_63 ki_9_28 sS_57 kk_57 rfl ?_
    refine rf_bipush (n := 25) (19 : Int32) dX9_moves_23 ccbipush_19 rfl ?_
    refine rf_iload_n (n := 26) 3 dX9_moves_25 rfl rfl rfl ?_
    refine rf_iadd (n := 27) dX9_moves_26 rfl ?_
    refine rf_dup2 (n := 28) dX9_moves_27 rfl ?_
    refine rf_iald (n := 29) hG dX9_moves_28 sS_74 kk_74 rfl (fun v5 => ?_)
    refine rf_iload (n := 31) 4 dX9_moves_29 rfl rfl ?_
    refine rf_iadd (n := 32) dX9_moves_31 rfl ?_
    refine rf_iast (n := 33) hG dX9_moves_32 sS_74 kk_74 rfl (fun m6 => ?_)
    refine rf_aload_n (n := 34) 0 dX9_moves_33 rfl rfl rfl ?_
    refine rf_getR (n := 37) rr_57_28 kk_74 hG dX9_moves_34 flX9_63 ki_9_28 sS_57 kk_57 rfl ?_
    refine rf_bipush (n := 39) (43 : Int32) dX9_moves_37 ccbipush_43 rfl ?_
    refine rf_iload_n (n := 40) 3 dX9_moves_39 rfl rfl rfl ?_
    refine rf_iadd (n := 41) dX9_moves_40 rfl ?_
    refine rf_dup2 (n := 42) dX9_moves_41 rfl ?_
    refine rf_iald (n := 43) hG dX9_moves_42 sS_74 kk_74 rfl (fun v7 => ?_)
    refine rf_iload (n := 45) 4 dX9_moves_43 rfl rfl ?_
    refine rf_iadd (n := 46) dX9_moves_45 rfl ?_
    refine rf_iast (n := 47) hG dX9_moves_46 sS_74 kk_74 rfl (fun m8 => ?_)
    refine rf_iinc (lc2 := [some (.ref 57), some (.int l1), some (.int l2), some (.int (l3 + (1 : Int32))), some (.int v3)]) (n := 50) (w := (1 : Int32)) 3 dX9_moves_47 rfl rfl rfl (Nat.le_of_ble_eq_true rfl) rfl rfl ?_
    refine rf_goto (tg := 2) dX9_moves_50 rfl ?_
    refine rf_mask (lc2 := [some (.ref 57), some (.int l1), some (.int l2), some (.int (l3 + (1 : Int32))), none]) [true, true, true, true, false] rfl ?_
    exact hr2 _ _
theorem pX9_moves_L2 {x : ax_X} {G : ax_G} (hG : ax_ok G) (l1 : Int32) (l2 : Int32) (n : Nat) (a3 : Int32) (μ : ax_M) : ax_Rf mX9_moves 1 x (ax_Z ax_jV x G) G 0 0 2 [some (.ref 57), some (.int l1), some (.int l2), some (.int a3), none] [] μ (ax_lp1 (fX9_moves_B2 l1 l2) n a3 μ) :=
  rf_lp1 (P := fun a3 μ t => ax_Rf mX9_moves 1 x (ax_Z ax_jV x G) G 0 0 2 [some (.ref 57), some (.int l1), some (.int l2), some (.int a3), none] [] μ t) (fun _ _ => rf_none) (fun rc hrc a3 μ => pX9_moves_B2 hG l1 l2 rc hrc a3 μ) n a3 μ
def fX9_moves (p1 : Int32) (p2 : Int32) (μ : ax_M) : Option (Unit × ax_M) :=
  (ax_lp1 (fX9_moves_B2 p1 p2) ax_FU (0 : Int32) μ)
theorem okX9_moves (p1 : Int32) (p2 : Int32) (μ : ax_M) : ax_Ok mX9_moves 1 ax_jV [.ref 57, .int p1, .int p2] μ (fX9_moves p1 p2 μ) := by
  refine ax_start (lc := [some (.ref 57), some (.int p1), some (.int p2), none, none]) 2 (by decide +kernel) rfl (Nat.le_of_ble_eq_true rfl) (fun x G hG => ?_)
  unfold fX9_moves
  refine rf_iconst (n := 1) (0 : Int32) dX9_moves_0 cciconst_0 rfl ?_
  refine rf_istore_n (lc2 := [some (.ref 57), some (.int p1), some (.int p2), some (.int (0 : Int32)), none]) (n := 2) 3 dX9_moves_1 rfl rfl (Nat.le_of_ble_eq_true rfl) rfl rfl ?_
  exact pX9_moves_L2 hG _ _ _ _ _
def fX9_move_K36 (μ : ax_M) : Option (Int32 × ax_M) :=
  (some ((0 : Int32), μ))
theorem pX9_move_K36 {x : ax_X} {G : ax_G} (hG : ax_ok G) (μ : ax_M) : ax_Rf mX9_move 2 x (ax_Z ax_jI x G) G 0 0 36 [none, none, none] [] μ (fX9_move_K36 μ) := by
  unfold fX9_move_K36
  refine rf_iconst (n := 37) (0 : Int32) dX9_move_36 cciconst_0 rfl ?_
  exact rf_retB rfl (Or.inl rfl) dX9_move_37
def fX9_move (p1 : Int32) (p2 : Int32) (μ : ax_M) : Option (Int32 × ax_M) :=
  (ax_let (ax_wi μ 57 0 (0 : Int32)) (fun m1 => (ax_bd (fX9_isCell p1 m1) (fun v2 m3 => (if v2 = 0 then (fX9_move_K36 m3) else (if p2 < (-999 : Int32) then (fX9_move_K36 m3) else (if (999 : Int32) < p2 then (fX9_move_K36 m3) else (ax_bd (fX9_canMove p1 p2 m3) (fun v4 m5 => (if v4 = 0 then (fX9_move_K36 m5) else (ax_bd (fX9_remembers m5) (fun _ m7 => (ax_bd (fX9_moves p1 p2 m7) (fun _ m9 => (some ((1 : Int32), m9))))))))))))))))
theorem okX9_move (p1 : Int32) (p2 : Int32) (μ : ax_M) : ax_Ok mX9_move 2 ax_jI [.ref 57, .int p1, .int p2] μ (fX9_move p1 p2 μ) := by
  refine ax_start (lc := [some (.ref 57), some (.int p1), some (.int p2)]) 0 (by decide +kernel) rfl (Nat.le_of_ble_eq_true rfl) (fun x G hG => ?_)
  unfold fX9_move
  refine rf_aload_n (n := 1) 0 dX9_move_0 rfl rfl rfl ?_
  refine rf_iconst (n := 2) (0 : Int32) dX9_move_1 cciconst_0 rfl ?_
  refine rf_pfI (n := 5) hG rfl dX9_move_2 flX9_103 ki_9_0 nf_9_0 sS_57 kk_57 rfl (fun m1 => ?_)
  refine rf_aload_n (n := 6) 0 dX9_move_5 rfl rfl rfl ?_
  refine rf_iload_n (n := 7) 1 dX9_move_6 rfl rfl rfl ?_
  refine rf_cV1I (n := 10) hG (okX9_isCell _ _) lVX9_252 hhX9_isCell kk_57 sS_57 ⟨_, rfl, rfl⟩ dX9_move_7 rfl (Nat.le_of_ble_eq_true rfl) (Nat.le_of_ble_eq_true rfl) (fun v2 m3 => ?_)
  refine rf_if_eq (tg := 36) (n := 13) dX9_move_10 rfl rfl (fun c13 => ?_) (fun c13 => ?_)
  · refine rf_mask (lc2 := [none, none, none]) [false, false, false] rfl ?_
    exact pX9_move_K36 hG _
  · refine rf_iload_n (n := 14) 2 dX9_move_13 rfl rfl rfl ?_
    refine rf_sipush (n := 17) (-999 : Int32) dX9_move_14 ccsipush_m999 rfl ?_
    refine rf_icmp_lt (tg := 36) (n := 20) dX9_move_17 rfl rfl (fun c12 => ?_) (fun c12 => ?_)
    · refine rf_mask (lc2 := [none, none, none]) [false, false, false] rfl ?_
      exact pX9_move_K36 hG _
    · refine rf_iload_n (n := 21) 2 dX9_move_20 rfl rfl rfl ?_
      refine rf_sipush (n := 24) (999 : Int32) dX9_move_21 ccsipush_999 rfl ?_
      refine rf_icmp_gt (tg := 36) (n := 27) dX9_move_24 rfl rfl (fun c11 => ?_) (fun c11 => ?_)
      · refine rf_mask (lc2 := [none, none, none]) [false, false, false] rfl ?_
        exact pX9_move_K36 hG _
      · refine rf_aload_n (n := 28) 0 dX9_move_27 rfl rfl rfl ?_
        refine rf_iload_n (n := 29) 1 dX9_move_28 rfl rfl rfl ?_
        refine rf_iload_n (n := 30) 2 dX9_move_29 rfl rfl rfl ?_
        refine rf_cV2I (n := 33) hG (okX9_canMove _ _ _) lVX9_255 hhX9_canMove kk_57 sS_57 ⟨_, rfl, rfl⟩ dX9_move_30 rfl (Nat.le_of_ble_eq_true rfl) (Nat.le_of_ble_eq_true rfl) (fun v4 m5 => ?_)
        refine rf_if_ne (tg := 38) (n := 36) dX9_move_33 rfl rfl (fun c10 => ?_) (fun c10 => ?_)
        · refine rf_aload_n (n := 39) 0 dX9_move_38 rfl rfl rfl ?_
          refine rf_cV0V (n := 42) hG (okX9_remembers _) lVX9_245 hhX9_remembers kk_57 sS_57 ⟨_, rfl, rfl⟩ dX9_move_39 rfl (Nat.le_of_ble_eq_true rfl) (Nat.le_of_ble_eq_true rfl) (fun _ m7 => ?_)
          refine rf_aload_n (n := 43) 0 dX9_move_42 rfl rfl rfl ?_
          refine rf_iload_n (n := 44) 1 dX9_move_43 rfl rfl rfl ?_
          refine rf_iload_n (n := 45) 2 dX9_move_44 rfl rfl rfl ?_
          refine rf_cV2V (n := 48) hG (okX9_moves _ _ _) lVX9_259 hhX9_moves kk_57 sS_57 ⟨_, rfl, rfl⟩ dX9_move_45 rfl (Nat.le_of_ble_eq_true rfl) (Nat.le_of_ble_eq_true rfl) (fun _ m9 => ?_)
          refine rf_iconst (n := 49) (1 : Int32) dX9_move_48 cciconst_1 rfl ?_
          exact rf_retB rfl (Or.inr rfl) dX9_move_49
        · refine rf_mask (lc2 := [none, none, none]) [false, false, false] rfl ?_
          exact pX9_move_K36 hG _
def fX9_pathsAt_K28 (l2 : Int32) (l4 : Int32) (s0 : Int32) (s1 : Int32) (r5 : Int32 → Int32 → ax_M → Option (Int32 × ax_M)) (μ : ax_M) : Option (Int32 × ax_M) :=
  (ax_let (s0 + s1) (fun v4 => (r5 v4 (l4 + (1 : Int32)) μ)))
theorem pX9_pathsAt_K28 {x : ax_X} {G : ax_G} (hG : ax_ok G) (l2 : Int32) (l4 : Int32) (s0 : Int32) (s1 : Int32) (r5 : Int32 → Int32 → ax_M → Option (Int32 × ax_M)) (hr5 : ∀ (a3 : Int32) (a4 : Int32) (μ : ax_M), ax_Rf mX9_pathsAt 1 x (ax_Z ax_jI x G) G 0 0 5 [some (.ref 57), some (.ref 71), some (.int l2), some (.int a3), some (.int a4)] [] μ (r5 a3 a4 μ)) (μ : ax_M) : ax_Rf mX9_pathsAt 1 x (ax_Z ax_jI x G) G 0 0 28 [some (.ref 57), some (.ref 71), some (.int l2), none, some (.int l4)] [.int s1, .int s0] μ (fX9_pathsAt_K28 l2 l4 s0 s1 r5 μ) := by
  unfold fX9_pathsAt_K28
  refine rf_iadd (n := 29) dX9_pathsAt_28 rfl ?_
  refine rf_letI (fun v4 => ?_)
  refine rf_istore_n (lc2 := [some (.ref 57), some (.ref 71), some (.int l2), some (.int v4), some (.int l4)]) (n := 30) 3 dX9_pathsAt_29 rfl rfl (Nat.le_of_ble_eq_true rfl) rfl rfl ?_
  refine rf_iinc (lc2 := [some (.ref 57), some (.ref 71), some (.int l2), some (.int v4), some (.int (l4 + (1 : Int32)))]) (n := 33) (w := (1 : Int32)) 4 dX9_pathsAt_30 rfl rfl rfl (Nat.le_of_ble_eq_true rfl) rfl rfl ?_
  refine rf_goto (tg := 5) dX9_pathsAt_33 rfl ?_
  exact hr5 _ _ _
def fX9_pathsAt_B5 (l2 : Int32) (r5 : Int32 → Int32 → ax_M → Option (Int32 × ax_M)) (l3 : Int32) (l4 : Int32) (μ : ax_M) : Option (Int32 × ax_M) :=
  (ax_bd (fX9_paths μ) (fun v1 m2 => (if v1 ≤ l4 then (some (l3, m2)) else (Option.bind (ax_rd m2 71 48 l4) (fun v3 => (if v3 = l2 then (fX9_pathsAt_K28 l2 l4 l3 (1 : Int32) r5 m2) else (fX9_pathsAt_K28 l2 l4 l3 (0 : Int32) r5 m2)))))))
theorem pX9_pathsAt_B5 {x : ax_X} {G : ax_G} (hG : ax_ok G) (l2 : Int32) (r5 : Int32 → Int32 → ax_M → Option (Int32 × ax_M)) (hr5 : ∀ (a3 : Int32) (a4 : Int32) (μ : ax_M), ax_Rf mX9_pathsAt 1 x (ax_Z ax_jI x G) G 0 0 5 [some (.ref 57), some (.ref 71), some (.int l2), some (.int a3), some (.int a4)] [] μ (r5 a3 a4 μ)) (l3 : Int32) (l4 : Int32) (μ : ax_M) : ax_Rf mX9_pathsAt 1 x (ax_Z ax_jI x G) G 0 0 5 [some (.ref 57), some (.ref 71), some (.int l2), some (.int l3), some (.int l4)] [] μ (fX9_pathsAt_B5 l2 r5 l3 l4 μ) := by
  unfold fX9_pathsAt_B5
  refine rf_iload (n := 7) 4 dX9_pathsAt_5 rfl rfl ?_
  refine rf_aload_n (n := 8) 0 dX9_pathsAt_7 rfl rfl rfl ?_
  refine rf_cV0I (n := 11) hG (okX9_paths _) lVX9_236 hhX9_paths kk_57 sS_57 ⟨_, rfl, rfl⟩ dX9_pathsAt_8 rfl (Nat.le_of_ble_eq_true rfl) (Nat.le_of_ble_eq_true rfl) (fun v1 m2 => ?_)
  refine rf_icmp_ge (tg := 36) (n := 14) dX9_pathsAt_11 rfl rfl (fun c6 => ?_) (fun c6 => ?_)
  · refine rf_iload_n (n := 37) 3 dX9_pathsAt_36 rfl rfl rfl ?_
    exact rf_retI rfl dX9_pathsAt_37
  · refine rf_iload_n (n := 15) 3 dX9_pathsAt_14 rfl rfl rfl ?_
    refine rf_aload_n (n := 16) 1 dX9_pathsAt_15 rfl rfl rfl ?_
    refine rf_iload (n := 18) 4 dX9_pathsAt_16 rfl rfl ?_
    refine rf_iald (n := 19) hG dX9_pathsAt_18 sS_71 kk_71 rfl (fun v3 => ?_)
    refine rf_iload_n (n := 20) 2 dX9_pathsAt_19 rfl rfl rfl ?_
    refine rf_icmp_ne (tg := 27) (n := 23) dX9_pathsAt_20 rfl rfl (fun c5 => ?_) (fun c5 => ?_)
    · refine rf_iconst (n := 28) (0 : Int32) dX9_pathsAt_27 cciconst_0 rfl ?_
      refine rf_mask (lc2 := [some (.ref 57), some (.ref 71), some (.int l2), none, some (.int l4)]) [true, true, true, false, true] rfl ?_
      exact pX9_pathsAt_K28 hG _ _ _ _ r5 hr5 _
    · refine rf_iconst (n := 24) (1 : Int32) dX9_pathsAt_23 cciconst_1 rfl ?_
      refine rf_goto (tg := 28) dX9_pathsAt_24 rfl ?_
      refine rf_mask (lc2 := [some (.ref 57), some (.ref 71), some (.int l2), none, some (.int l4)]) [true, true, true, false, true] rfl ?_
      exact pX9_pathsAt_K28 hG _ _ _ _ r5 hr5 _
theorem pX9_pathsAt_L5 {x : ax_X} {G : ax_G} (hG : ax_ok G) (l2 : Int32) (n : Nat) (a3 : Int32) (a4 : Int32) (μ : ax_M) : ax_Rf mX9_pathsAt 1 x (ax_Z ax_jI x G) G 0 0 5 [some (.ref 57), some (.ref 71), some (.int l2), some (.int a3), some (.int a4)] [] μ (ax_lp2 (fX9_pathsAt_B5 l2) n a3 a4 μ) :=
  rf_lp2 (P := fun a3 a4 μ t => ax_Rf mX9_pathsAt 1 x (ax_Z ax_jI x G) G 0 0 5 [some (.ref 57), some (.ref 71), some (.int l2), some (.int a3), some (.int a4)] [] μ t) (fun _ _ _ => rf_none) (fun rc hrc a3 a4 μ => pX9_pathsAt_B5 hG l2 rc hrc a3 a4 μ) n a3 a4 μ
def fX9_pathsAt (p2 : Int32) (μ : ax_M) : Option (Int32 × ax_M) :=
  (ax_lp2 (fX9_pathsAt_B5 p2) ax_FU (0 : Int32) (0 : Int32) μ)
theorem okX9_pathsAt (p2 : Int32) (μ : ax_M) : ax_Ok mX9_pathsAt 1 ax_jI [.ref 57, .ref 71, .int p2] μ (fX9_pathsAt p2 μ) := by
  refine ax_start (lc := [some (.ref 57), some (.ref 71), some (.int p2), none, none]) 2 (by decide +kernel) rfl (Nat.le_of_ble_eq_true rfl) (fun x G hG => ?_)
  unfold fX9_pathsAt
  refine rf_iconst (n := 1) (0 : Int32) dX9_pathsAt_0 cciconst_0 rfl ?_
  refine rf_istore_n (lc2 := [some (.ref 57), some (.ref 71), some (.int p2), some (.int (0 : Int32)), none]) (n := 2) 3 dX9_pathsAt_1 rfl rfl (Nat.le_of_ble_eq_true rfl) rfl rfl ?_
  refine rf_iconst (n := 3) (0 : Int32) dX9_pathsAt_2 cciconst_0 rfl ?_
  refine rf_istore (lc2 := [some (.ref 57), some (.ref 71), some (.int p2), some (.int (0 : Int32)), some (.int (0 : Int32))]) (n := 5) 4 dX9_pathsAt_3 rfl (Nat.le_of_ble_eq_true rfl) rfl rfl ?_
  exact pX9_pathsAt_L5 hG _ _ _ _ _
def fX9_pathsAt_1_K28 (l2 : Int32) (l4 : Int32) (s0 : Int32) (s1 : Int32) (r5 : Int32 → Int32 → ax_M → Option (Int32 × ax_M)) (μ : ax_M) : Option (Int32 × ax_M) :=
  (ax_let (s0 + s1) (fun v4 => (r5 v4 (l4 + (1 : Int32)) μ)))
theorem pX9_pathsAt_1_K28 {x : ax_X} {G : ax_G} (hG : ax_ok G) (l2 : Int32) (l4 : Int32) (s0 : Int32) (s1 : Int32) (r5 : Int32 → Int32 → ax_M → Option (Int32 × ax_M)) (hr5 : ∀ (a3 : Int32) (a4 : Int32) (μ : ax_M), ax_Rf mX9_pathsAt 1 x (ax_Z ax_jI x G) G 0 0 5 [some (.ref 57), some (.ref 70), some (.int l2), some (.int a3), some (.int a4)] [] μ (r5 a3 a4 μ)) (μ : ax_M) : ax_Rf mX9_pathsAt 1 x (ax_Z ax_jI x G) G 0 0 28 [some (.ref 57), some (.ref 70), some (.int l2), none, some (.int l4)] [.int s1, .int s0] μ (fX9_pathsAt_1_K28 l2 l4 s0 s1 r5 μ) := by
  unfold fX9_pathsAt_1_K28
  refine rf_iadd (n := 29) dX9_pathsAt_28 rfl ?_
  refine rf_letI (fun v4 => ?_)
  refine rf_istore_n (lc2 := [some (.ref 57), some (.ref 70), some (.int l2), some (.int v4), some (.int l4)]) (n := 30) 3 dX9_pathsAt_29 rfl rfl (Nat.le_of_ble_eq_true rfl) rfl rfl ?_
  refine rf_iinc (lc2 := [some (.ref 57), some (.ref 70), some (.int l2), some (.int v4), some (.int (l4 + (1 : Int32)))]) (n := 33) (w := (1 : Int32)) 4 dX9_pathsAt_30 rfl rfl rfl (Nat.le_of_ble_eq_true rfl) rfl rfl ?_
  refine rf_goto (tg := 5) dX9_pathsAt_33 rfl ?_
  exact hr5 _ _ _
def fX9_pathsAt_1_B5 (l2 : Int32) (r5 : Int32 → Int32 → ax_M → Option (Int32 × ax_M)) (l3 : Int32) (l4 : Int32) (μ : ax_M) : Option (Int32 × ax_M) :=
  (ax_bd (fX9_paths μ) (fun v1 m2 => (if v1 ≤ l4 then (some (l3, m2)) else (Option.bind (ax_rd m2 70 48 l4) (fun v3 => (if v3 = l2 then (fX9_pathsAt_1_K28 l2 l4 l3 (1 : Int32) r5 m2) else (fX9_pathsAt_1_K28 l2 l4 l3 (0 : Int32) r5 m2)))))))
theorem pX9_pathsAt_1_B5 {x : ax_X} {G : ax_G} (hG : ax_ok G) (l2 : Int32) (r5 : Int32 → Int32 → ax_M → Option (Int32 × ax_M)) (hr5 : ∀ (a3 : Int32) (a4 : Int32) (μ : ax_M), ax_Rf mX9_pathsAt 1 x (ax_Z ax_jI x G) G 0 0 5 [some (.ref 57), some (.ref 70), some (.int l2), some (.int a3), some (.int a4)] [] μ (r5 a3 a4 μ)) (l3 : Int32) (l4 : Int32) (μ : ax_M) : ax_Rf mX9_pathsAt 1 x (ax_Z ax_jI x G) G 0 0 5 [some (.ref 57), some (.ref 70), some (.int l2), some (.int l3), some (.int l4)] [] μ (fX9_pathsAt_1_B5 l2 r5 l3 l4 μ) := by
  unfold fX9_pathsAt_1_B5
  refine rf_iload (n := 7) 4 dX9_pathsAt_5 rfl rfl ?_
  refine rf_aload_n (n := 8) 0 dX9_pathsAt_7 rfl rfl rfl ?_
  refine rf_cV0I (n := 11) hG (okX9_paths _) lVX9_236 hhX9_paths kk_57 sS_57 ⟨_, rfl, rfl⟩ dX9_pathsAt_8 rfl (Nat.le_of_ble_eq_true rfl) (Nat.le_of_ble_eq_true rfl) (fun v1 m2 => ?_)
  refine rf_icmp_ge (tg := 36) (n := 14) dX9_pathsAt_11 rfl rfl (fun c6 => ?_) (fun c6 => ?_)
  · refine rf_iload_n (n := 37) 3 dX9_pathsAt_36 rfl rfl rfl ?_
    exact rf_retI rfl dX9_pathsAt_37
  · refine rf_iload_n (n := 15) 3 dX9_pathsAt_14 rfl rfl rfl ?_
    refine rf_aload_n (n := 16) 1 dX9_pathsAt_15 rfl rfl rfl ?_
    refine rf_iload (n := 18) 4 dX9_pathsAt_16 rfl rfl ?_
    refine rf_iald (n := 19) hG dX9_pathsAt_18 sS_70 kk_70 rfl (fun v3 => ?_)
    refine rf_iload_n (n := 20) 2 dX9_pathsAt_19 rfl rfl rfl ?_
    refine rf_icmp_ne (tg := 27) (n := 23) dX9_pathsAt_20 rfl rfl (fun c5 => ?_) (fun c5 => ?_)
    · refine rf_iconst (n := 28) (0 : Int32) dX9_pathsAt_27 cciconst_0 rfl ?_
      refine rf_mask (lc2 := [some (.ref 57), some (.ref 70), some (.int l2), none, some (.int l4)]) [true, true, true, false, true] rfl ?_
      exact pX9_pathsAt_1_K28 hG _ _ _ _ r5 hr5 _
    · refine rf_iconst (n := 24) (1 : Int32) dX9_pathsAt_23 cciconst_1 rfl ?_
      refine rf_goto (tg := 28) dX9_pathsAt_24 rfl ?_
      refine rf_mask (lc2 := [some (.ref 57), some (.ref 70), some (.int l2), none, some (.int l4)]) [true, true, true, false, true] rfl ?_
      exact pX9_pathsAt_1_K28 hG _ _ _ _ r5 hr5 _
theorem pX9_pathsAt_1_L5 {x : ax_X} {G : ax_G} (hG : ax_ok G) (l2 : Int32) (n : Nat) (a3 : Int32) (a4 : Int32) (μ : ax_M) : ax_Rf mX9_pathsAt 1 x (ax_Z ax_jI x G) G 0 0 5 [some (.ref 57), some (.ref 70), some (.int l2), some (.int a3), some (.int a4)] [] μ (ax_lp2 (fX9_pathsAt_1_B5 l2) n a3 a4 μ) :=
  rf_lp2 (P := fun a3 a4 μ t => ax_Rf mX9_pathsAt 1 x (ax_Z ax_jI x G) G 0 0 5 [some (.ref 57), some (.ref 70), some (.int l2), some (.int a3), some (.int a4)] [] μ t) (fun _ _ _ => rf_none) (fun rc hrc a3 a4 μ => pX9_pathsAt_1_B5 hG l2 rc hrc a3 a4 μ) n a3 a4 μ
def fX9_pathsAt_1 (p2 : Int32) (μ : ax_M) : Option (Int32 × ax_M) :=
  (ax_lp2 (fX9_pathsAt_1_B5 p2) ax_FU (0 : Int32) (0 : Int32) μ)
theorem okX9_pathsAt_1 (p2 : Int32) (μ : ax_M) : ax_Ok mX9_pathsAt 1 ax_jI [.ref 57, .ref 70, .int p2] μ (fX9_pathsAt_1 p2 μ) := by
  refine ax_start (lc := [some (.ref 57), some (.ref 70), some (.int p2), none, none]) 2 (by decide +kernel) rfl (Nat.le_of_ble_eq_true rfl) (fun x G hG => ?_)
  unfold fX9_pathsAt_1
  refine rf_iconst (n := 1) (0 : Int32) dX9_pathsAt_0 cciconst_0 rfl ?_
  refine rf_istore_n (lc2 := [some (.ref 57), some (.ref 70), some (.int p2), some (.int (0 : Int32)), none]) (n := 2) 3 dX9_pathsAt_1 rfl rfl (Nat.le_of_ble_eq_true rfl) rfl rfl ?_
  refine rf_iconst (n := 3) (0 : Int32) dX9_pathsAt_2 cciconst_0 rfl ?_
  refine rf_istore (lc2 := [some (.ref 57), some (.ref 70), some (.int p2), some (.int (0 : Int32)), some (.int (0 : Int32))]) (n := 5) 4 dX9_pathsAt_3 rfl (Nat.le_of_ble_eq_true rfl) rfl rfl ?_
  exact pX9_pathsAt_1_L5 hG _ _ _ _ _
def fX9_cell (p1 : Int32) (p2 : Int32) (μ : ax_M) : Option (Int32 × ax_M) :=
  (ax_let (ax_wi μ 57 0 (0 : Int32)) (fun m1 => (ax_bd (fX9_isCell p1 m1) (fun v2 m3 => (if v2 = 0 then (ax_let (ax_wi m3 57 0 (1 : Int32)) (fun m21 => (some ((0 : Int32), m21)))) else (if p2 = (0 : Int32) then (Option.bind (ax_rd m3 65 20 p1) (fun v5 => (some (v5, m3)))) else (if p2 = (1 : Int32) then (Option.bind (ax_rd m3 66 20 p1) (fun v7 => (some (v7, m3)))) else (if p2 = (2 : Int32) then (Option.bind (ax_rd m3 67 20 p1) (fun v9 => (some (v9, m3)))) else (if p2 = (3 : Int32) then (Option.bind (ax_rd m3 68 20 p1) (fun v11 => (some (v11, m3)))) else (if p2 = (4 : Int32) then (Option.bind (ax_rd m3 74 68 ((9 : Int32) + p1)) (fun v13 => (some (v13, m3)))) else (if p2 = (5 : Int32) then (ax_bd (fX9_pathsAt p1 m3) (fun v15 m16 => (some (v15, m16)))) else (if p2 = (6 : Int32) then (ax_bd (fX9_pathsAt_1 p1 m3) (fun v18 m19 => (some (v18, m19)))) else (ax_let (ax_wi m3 57 0 (2 : Int32)) (fun m20 => (some ((0 : Int32), m20))))))))))))))))
theorem okX9_cell (p1 : Int32) (p2 : Int32) (μ : ax_M) : ax_Ok mX9_cell 2 ax_jI [.ref 57, .int p1, .int p2] μ (fX9_cell p1 p2 μ) := by
  refine ax_start (lc := [some (.ref 57), some (.int p1), some (.int p2)]) 0 (by decide +kernel) rfl (Nat.le_of_ble_eq_true rfl) (fun x G hG => ?_)
  unfold fX9_cell
  refine rf_aload_n (n := 1) 0 dX9_cell_0 rfl rfl rfl ?_
  refine rf_iconst (n := 2) (0 : Int32) dX9_cell_1 cciconst_0 rfl ?_
  refine rf_pfI (n := 5) hG rfl dX9_cell_2 flX9_103 ki_9_0 nf_9_0 sS_57 kk_57 rfl (fun m1 => ?_)
  refine rf_aload_n (n := 6) 0 dX9_cell_5 rfl rfl rfl ?_
  refine rf_iload_n (n := 7) 1 dX9_cell_6 rfl rfl rfl ?_
  refine rf_cV1I (n := 10) hG (okX9_isCell _ _) lVX9_252 hhX9_isCell kk_57 sS_57 ⟨_, rfl, rfl⟩ dX9_cell_7 rfl (Nat.le_of_ble_eq_true rfl) (Nat.le_of_ble_eq_true rfl) (fun v2 m3 => ?_)
  refine rf_if_ne (tg := 20) (n := 13) dX9_cell_10 rfl rfl (fun c22 => ?_) (fun c22 => ?_)
  · refine rf_iload_n (n := 21) 2 dX9_cell_20 rfl rfl rfl ?_
    refine rf_split (fun c4 => ?_) (fun c4 => ?_)
    · refine rf_tabIn (tg := 64) (0 : Int32) c4 dX9_cell_21 (by decide) rfl rfl ?_
      refine rf_aload_n (n := 65) 0 dX9_cell_64 rfl rfl rfl ?_
      refine rf_getR (n := 68) rr_57_9 kk_65 hG dX9_cell_65 flX9_32 ki_9_9 sS_57 kk_57 rfl ?_
      refine rf_iload_n (n := 69) 1 dX9_cell_68 rfl rfl rfl ?_
      refine rf_iald (n := 70) hG dX9_cell_69 sS_65 kk_65 rfl (fun v5 => ?_)
      exact rf_retI rfl dX9_cell_70
    · refine rf_split (fun c6 => ?_) (fun c6 => ?_)
      · refine rf_tabIn (tg := 71) (1 : Int32) c6 dX9_cell_21 (by decide) rfl rfl ?_
        refine rf_aload_n (n := 72) 0 dX9_cell_71 rfl rfl rfl ?_
        refine rf_getR (n := 75) rr_57_10 kk_66 hG dX9_cell_72 flX9_35 ki_9_10 sS_57 kk_57 rfl ?_
        refine rf_iload_n (n := 76) 1 dX9_cell_75 rfl rfl rfl ?_
        refine rf_iald (n := 77) hG dX9_cell_76 sS_66 kk_66 rfl (fun v7 => ?_)
        exact rf_retI rfl dX9_cell_77
      · refine rf_split (fun c8 => ?_) (fun c8 => ?_)
        · refine rf_tabIn (tg := 78) (2 : Int32) c8 dX9_cell_21 (by decide) rfl rfl ?_
          refine rf_aload_n (n := 79) 0 dX9_cell_78 rfl rfl rfl ?_
          refine rf_getR (n := 82) rr_57_11 kk_67 hG dX9_cell_79 flX9_38 ki_9_11 sS_57 kk_57 rfl ?_
          refine rf_iload_n (n := 83) 1 dX9_cell_82 rfl rfl rfl ?_
          refine rf_iald (n := 84) hG dX9_cell_83 sS_67 kk_67 rfl (fun v9 => ?_)
          exact rf_retI rfl dX9_cell_84
        · refine rf_split (fun c10 => ?_) (fun c10 => ?_)
          · refine rf_tabIn (tg := 85) (3 : Int32) c10 dX9_cell_21 (by decide) rfl rfl ?_
            refine rf_aload_n (n := 86) 0 dX9_cell_85 rfl rfl rfl ?_
            refine rf_getR (n := 89) rr_57_12 kk_68 hG dX9_cell_86 flX9_41 ki_9_12 sS_57 kk_57 rfl ?_
            refine rf_iload_n (n := 90) 1 dX9_cell_89 rfl rfl rfl ?_
            refine rf_iald (n := 91) hG dX9_cell_90 sS_68 kk_68 rfl (fun v11 => ?_)
            exact rf_retI rfl dX9_cell_91
          · refine rf_split (fun c12 => ?_) (fun c12 => ?_)
            · refine rf_tabIn (tg := 92) (4 : Int32) c12 dX9_cell_21 (by decide) rfl rfl ?_
              refine rf_aload_n (n := 93) 0 dX9_cell_92 rfl rfl rfl ?_
              refine rf_getR (n := 96) rr_57_28 kk_74 hG dX9_cell_93 flX9_63 ki_9_28 sS_57 kk_57 rfl ?_
              refine rf_bipush (n := 98) (9 : Int32) dX9_cell_96 ccbipush_9 rfl ?_
              refine rf_iload_n (n := 99) 1 dX9_cell_98 rfl rfl rfl ?_
              refine rf_iadd (n := 100) dX9_cell_99 rfl ?_
              refine rf_iald (n := 101) hG dX9_cell_100 sS_74 kk_74 rfl (fun v13 => ?_)
              exact rf_retI rfl dX9_cell_101
            · refine rf_split (fun c14 => ?_) (fun c14 => ?_)
              · refine rf_tabIn (tg := 102) (5 : Int32) c14 dX9_cell_21 (by decide) rfl rfl ?_
                refine rf_aload_n (n := 103) 0 dX9_cell_102 rfl rfl rfl ?_
                refine rf_aload_n (n := 104) 0 dX9_cell_103 rfl rfl rfl ?_
                refine rf_getR (n := 107) rr_57_15 kk_71 hG dX9_cell_104 flX9_50 ki_9_15 sS_57 kk_57 rfl ?_
                refine rf_iload_n (n := 108) 1 dX9_cell_107 rfl rfl rfl ?_
                refine rf_cV2I (n := 111) hG (okX9_pathsAt _ _) lVX9_268 hhX9_pathsAt kk_57 sS_57 ⟨_, rfl, rfl⟩ dX9_cell_108 rfl (Nat.le_of_ble_eq_true rfl) (Nat.le_of_ble_eq_true rfl) (fun v15 m16 => ?_)
                exact rf_retI rfl dX9_cell_111
              · refine rf_split (fun c17 => ?_) (fun c17 => ?_)
                · refine rf_tabIn (tg := 112) (6 : Int32) c17 dX9_cell_21 (by decide) rfl rfl ?_
                  refine rf_aload_n (n := 113) 0 dX9_cell_112 rfl rfl rfl ?_
                  refine rf_aload_n (n := 114) 0 dX9_cell_113 rfl rfl rfl ?_
                  refine rf_getR (n := 117) rr_57_14 kk_70 hG dX9_cell_114 flX9_47 ki_9_14 sS_57 kk_57 rfl ?_
                  refine rf_iload_n (n := 118) 1 dX9_cell_117 rfl rfl rfl ?_
                  refine rf_cV2I (n := 121) hG (okX9_pathsAt_1 _ _) lVX9_268 hhX9_pathsAt kk_57 sS_57 ⟨_, rfl, rfl⟩ dX9_cell_118 rfl (Nat.le_of_ble_eq_true rfl) (Nat.le_of_ble_eq_true rfl) (fun v18 m19 => ?_)
                  exact rf_retI rfl dX9_cell_121
                · refine rf_tabOut (tg := 122) [(0 : Int32), (1 : Int32), (2 : Int32), (3 : Int32), (4 : Int32), (5 : Int32), (6 : Int32)] (List.forall_mem_cons.mpr ⟨c4, List.forall_mem_cons.mpr ⟨c6, List.forall_mem_cons.mpr ⟨c8, List.forall_mem_cons.mpr ⟨c10, List.forall_mem_cons.mpr ⟨c12, List.forall_mem_cons.mpr ⟨c14, List.forall_mem_cons.mpr ⟨c17, List.forall_mem_nil _⟩⟩⟩⟩⟩⟩⟩) dX9_cell_21 (by decide) rfl ?_
                  refine rf_aload_n (n := 123) 0 dX9_cell_122 rfl rfl rfl ?_
                  refine rf_iconst (n := 124) (2 : Int32) dX9_cell_123 cciconst_2 rfl ?_
                  refine rf_pfI (n := 127) hG rfl dX9_cell_124 flX9_103 ki_9_0 nf_9_0 sS_57 kk_57 rfl (fun m20 => ?_)
                  refine rf_iconst (n := 128) (0 : Int32) dX9_cell_127 cciconst_0 rfl ?_
                  exact rf_retI rfl dX9_cell_128
  · refine rf_aload_n (n := 14) 0 dX9_cell_13 rfl rfl rfl ?_
    refine rf_iconst (n := 15) (1 : Int32) dX9_cell_14 cciconst_1 rfl ?_
    refine rf_pfI (n := 18) hG rfl dX9_cell_15 flX9_103 ki_9_0 nf_9_0 sS_57 kk_57 rfl (fun m21 => ?_)
    refine rf_iconst (n := 19) (0 : Int32) dX9_cell_18 cciconst_0 rfl ?_
    exact rf_retI rfl dX9_cell_19
def fX9_thrown (μ : ax_M) : Option (Int32 × ax_M) :=
  (some ((μ.1 57 0), μ))
theorem okX9_thrown (μ : ax_M) : ax_Ok mX9_thrown 0 ax_jI [.ref 57] μ (fX9_thrown μ) := by
  refine ax_start (lc := [some (.ref 57)]) 0 (by decide +kernel) rfl (Nat.le_of_ble_eq_true rfl) (fun x G hG => ?_)
  unfold fX9_thrown
  refine rf_aload_n (n := 1) 0 dX9_thrown_0 rfl rfl rfl ?_
  refine rf_getI (n := 4) hG dX9_thrown_1 flX9_103 ki_9_0 sS_57 kk_57 rfl ?_
  exact rf_retI rfl dX9_thrown_4
def fX1_shiftOf (p1 : Int32) (μ : ax_M) : Option (Int32 × ax_M) :=
  (Option.bind (ax_rd μ 12 24 p1) (fun v1 => (Option.bind (ax_rd μ 7 10 v1) (fun v2 => (Option.bind (ax_rd μ 4 4 v2) (fun v3 => (Option.bind (ax_rd μ 11 24 p1) (fun v4 => (Option.bind (ax_rd μ 7 10 v4) (fun v5 => (Option.bind (ax_rd μ 4 4 v5) (fun v6 => (ax_let (v3 - v6) (fun v7 => (some ((((v7 - (1 : Int32)) &&& (63 : Int32)) + (1 : Int32)), μ))))))))))))))))
theorem okX1_shiftOf (p1 : Int32) (μ : ax_M) : ax_Ok mX1_shiftOf 0 ax_jI [.ref 2, .int p1] μ (fX1_shiftOf p1 μ) := by
  refine ax_start (lc := [some (.ref 2), some (.int p1), none]) 1 (by decide +kernel) rfl (Nat.le_of_ble_eq_true rfl) (fun x G hG => ?_)
  unfold fX1_shiftOf
  refine rf_aload_n (n := 1) 0 dX1_shiftOf_0 rfl rfl rfl ?_
  refine rf_getR (n := 4) rr_2_1 kk_4 hG dX1_shiftOf_1 flX1_15 ki_1_1 sS_2 kk_2 rfl ?_
  refine rf_aload_n (n := 5) 0 dX1_shiftOf_4 rfl rfl rfl ?_
  refine rf_getR (n := 8) rr_2_4 kk_7 hG dX1_shiftOf_5 flX1_24 ki_1_4 sS_2 kk_2 rfl ?_
  refine rf_aload_n (n := 9) 0 dX1_shiftOf_8 rfl rfl rfl ?_
  refine rf_getR (n := 12) rr_2_9 kk_12 hG dX1_shiftOf_9 flX1_39 ki_1_9 sS_2 kk_2 rfl ?_
  refine rf_iload_n (n := 13) 1 dX1_shiftOf_12 rfl rfl rfl ?_
  refine rf_iald (n := 14) hG dX1_shiftOf_13 sS_12 kk_12 rfl (fun v1 => ?_)
  refine rf_iald (n := 15) hG dX1_shiftOf_14 sS_7 kk_7 rfl (fun v2 => ?_)
  refine rf_iald (n := 16) hG dX1_shiftOf_15 sS_4 kk_4 rfl (fun v3 => ?_)
  refine rf_aload_n (n := 17) 0 dX1_shiftOf_16 rfl rfl rfl ?_
  refine rf_getR (n := 20) rr_2_1 kk_4 hG dX1_shiftOf_17 flX1_15 ki_1_1 sS_2 kk_2 rfl ?_
  refine rf_aload_n (n := 21) 0 dX1_shiftOf_20 rfl rfl rfl ?_
  refine rf_getR (n := 24) rr_2_4 kk_7 hG dX1_shiftOf_21 flX1_24 ki_1_4 sS_2 kk_2 rfl ?_
  refine rf_aload_n (n := 25) 0 dX1_shiftOf_24 rfl rfl rfl ?_
  refine rf_getR (n := 28) rr_2_8 kk_11 hG dX1_shiftOf_25 flX1_36 ki_1_8 sS_2 kk_2 rfl ?_
  refine rf_iload_n (n := 29) 1 dX1_shiftOf_28 rfl rfl rfl ?_
  refine rf_iald (n := 30) hG dX1_shiftOf_29 sS_11 kk_11 rfl (fun v4 => ?_)
  refine rf_iald (n := 31) hG dX1_shiftOf_30 sS_7 kk_7 rfl (fun v5 => ?_)
  refine rf_iald (n := 32) hG dX1_shiftOf_31 sS_4 kk_4 rfl (fun v6 => ?_)
  refine rf_isub (n := 33) dX1_shiftOf_32 rfl ?_
  refine rf_letI (fun v7 => ?_)
  refine rf_istore_n (lc2 := [some (.ref 2), some (.int p1), some (.int v7)]) (n := 34) 2 dX1_shiftOf_33 rfl rfl (Nat.le_of_ble_eq_true rfl) rfl rfl ?_
  refine rf_iload_n (n := 35) 2 dX1_shiftOf_34 rfl rfl rfl ?_
  refine rf_iconst (n := 36) (1 : Int32) dX1_shiftOf_35 cciconst_1 rfl ?_
  refine rf_isub (n := 37) dX1_shiftOf_36 rfl ?_
  refine rf_bipush (n := 39) (63 : Int32) dX1_shiftOf_37 ccbipush_63 rfl ?_
  refine rf_iand (n := 40) dX1_shiftOf_39 rfl ?_
  refine rf_iconst (n := 41) (1 : Int32) dX1_shiftOf_40 cciconst_1 rfl ?_
  refine rf_iadd (n := 42) dX1_shiftOf_41 rfl ?_
  exact rf_retI rfl dX1_shiftOf_42
def fX8_path (p1 : Int32) (p2 : Int32) (μ : ax_M) : Option (Int32 × ax_M) :=
  (ax_bd (fX1_hasPath p1 μ) (fun v1 m2 => (if v1 = 0 then (some ((-1 : Int32), m2)) else (if p2 = (0 : Int32) then (Option.bind (ax_rd m2 11 24 p1) (fun v4 => (some (v4, m2)))) else (if p2 = (1 : Int32) then (Option.bind (ax_rd m2 12 24 p1) (fun v6 => (some (v6, m2)))) else (if p2 = (2 : Int32) then (Option.bind (ax_rd m2 13 24 p1) (fun v8 => (some (v8, m2)))) else (if p2 = (3 : Int32) then (Option.bind (ax_rd m2 14 24 p1) (fun v10 => (some (v10, m2)))) else (if p2 = (4 : Int32) then (ax_bd (fX1_shiftOf p1 m2) (fun v12 m13 => (some (v12, m13)))) else (some ((-1 : Int32), m2))))))))))
theorem okX8_path (p1 : Int32) (p2 : Int32) (μ : ax_M) : ax_Ok mX8_path 1 ax_jI [.ref 0, .int p1, .int p2] μ (fX8_path p1 p2 μ) := by
  refine ax_start (lc := [some (.ref 0), some (.int p1), some (.int p2)]) 0 (by decide +kernel) rfl (Nat.le_of_ble_eq_true rfl) (fun x G hG => ?_)
  unfold fX8_path
  refine rf_aload_n (n := 1) 0 dX8_path_0 rfl rfl rfl ?_
  refine rf_getR (n := 4) rr_0_2 kk_2 hG dX8_path_1 flX8_16 ki_8_2 sS_0 kk_0 rfl ?_
  refine rf_iload_n (n := 5) 1 dX8_path_4 rfl rfl rfl ?_
  refine rf_cV1I (n := 8) hG (okX1_hasPath _ _) lVX8_143 hhX1_hasPath kk_2 sS_2 ⟨_, rfl, rfl⟩ dX8_path_5 rfl (Nat.le_of_ble_eq_true rfl) (Nat.le_of_ble_eq_true rfl) (fun v1 m2 => ?_)
  refine rf_if_ne (tg := 13) (n := 11) dX8_path_8 rfl rfl (fun c14 => ?_) (fun c14 => ?_)
  · refine rf_iload_n (n := 14) 2 dX8_path_13 rfl rfl rfl ?_
    refine rf_split (fun c3 => ?_) (fun c3 => ?_)
    · refine rf_tabIn (tg := 48) (0 : Int32) c3 dX8_path_14 (by decide) rfl rfl ?_
      refine rf_aload_n (n := 49) 0 dX8_path_48 rfl rfl rfl ?_
      refine rf_getR (n := 52) rr_0_2 kk_2 hG dX8_path_49 flX8_16 ki_8_2 sS_0 kk_0 rfl ?_
      refine rf_getR (n := 55) rr_2_8 kk_11 hG dX8_path_52 flX8_203 ki_1_8 sS_2 kk_2 rfl ?_
      refine rf_iload_n (n := 56) 1 dX8_path_55 rfl rfl rfl ?_
      refine rf_iald (n := 57) hG dX8_path_56 sS_11 kk_11 rfl (fun v4 => ?_)
      exact rf_retI rfl dX8_path_57
    · refine rf_split (fun c5 => ?_) (fun c5 => ?_)
      · refine rf_tabIn (tg := 58) (1 : Int32) c5 dX8_path_14 (by decide) rfl rfl ?_
        refine rf_aload_n (n := 59) 0 dX8_path_58 rfl rfl rfl ?_
        refine rf_getR (n := 62) rr_0_2 kk_2 hG dX8_path_59 flX8_16 ki_8_2 sS_0 kk_0 rfl ?_
        refine rf_getR (n := 65) rr_2_9 kk_12 hG dX8_path_62 flX8_194 ki_1_9 sS_2 kk_2 rfl ?_
        refine rf_iload_n (n := 66) 1 dX8_path_65 rfl rfl rfl ?_
        refine rf_iald (n := 67) hG dX8_path_66 sS_12 kk_12 rfl (fun v6 => ?_)
        exact rf_retI rfl dX8_path_67
      · refine rf_split (fun c7 => ?_) (fun c7 => ?_)
        · refine rf_tabIn (tg := 68) (2 : Int32) c7 dX8_path_14 (by decide) rfl rfl ?_
          refine rf_aload_n (n := 69) 0 dX8_path_68 rfl rfl rfl ?_
          refine rf_getR (n := 72) rr_0_2 kk_2 hG dX8_path_69 flX8_16 ki_8_2 sS_0 kk_0 rfl ?_
          refine rf_getR (n := 75) rr_2_10 kk_13 hG dX8_path_72 flX8_146 ki_1_10 sS_2 kk_2 rfl ?_
          refine rf_iload_n (n := 76) 1 dX8_path_75 rfl rfl rfl ?_
          refine rf_iald (n := 77) hG dX8_path_76 sS_13 kk_13 rfl (fun v8 => ?_)
          exact rf_retI rfl dX8_path_77
        · refine rf_split (fun c9 => ?_) (fun c9 => ?_)
          · refine rf_tabIn (tg := 78) (3 : Int32) c9 dX8_path_14 (by decide) rfl rfl ?_
            refine rf_aload_n (n := 79) 0 dX8_path_78 rfl rfl rfl ?_
            refine rf_getR (n := 82) rr_0_2 kk_2 hG dX8_path_79 flX8_16 ki_8_2 sS_0 kk_0 rfl ?_
            refine rf_getR (n := 85) rr_2_11 kk_14 hG dX8_path_82 flX8_149 ki_1_11 sS_2 kk_2 rfl ?_
            refine rf_iload_n (n := 86) 1 dX8_path_85 rfl rfl rfl ?_
            refine rf_iald (n := 87) hG dX8_path_86 sS_14 kk_14 rfl (fun v10 => ?_)
            exact rf_retI rfl dX8_path_87
          · refine rf_split (fun c11 => ?_) (fun c11 => ?_)
            · refine rf_tabIn (tg := 88) (4 : Int32) c11 dX8_path_14 (by decide) rfl rfl ?_
              refine rf_aload_n (n := 89) 0 dX8_path_88 rfl rfl rfl ?_
              refine rf_getR (n := 92) rr_0_2 kk_2 hG dX8_path_89 flX8_16 ki_8_2 sS_0 kk_0 rfl ?_
              refine rf_iload_n (n := 93) 1 dX8_path_92 rfl rfl rfl ?_
              refine rf_cV1I (n := 96) hG (okX1_shiftOf _ _) lVX8_211 hhX1_shiftOf kk_2 sS_2 ⟨_, rfl, rfl⟩ dX8_path_93 rfl (Nat.le_of_ble_eq_true rfl) (Nat.le_of_ble_eq_true rfl) (fun v12 m13 => ?_)
              exact rf_retI rfl dX8_path_96
            · refine rf_tabOut (tg := 97) [(0 : Int32), (1 : Int32), (2 : Int32), (3 : Int32), (4 : Int32)] (List.forall_mem_cons.mpr ⟨c3, List.forall_mem_cons.mpr ⟨c5, List.forall_mem_cons.mpr ⟨c7, List.forall_mem_cons.mpr ⟨c9, List.forall_mem_cons.mpr ⟨c11, List.forall_mem_nil _⟩⟩⟩⟩⟩) dX8_path_14 (by decide) rfl ?_
              refine rf_iconst (n := 98) (-1 : Int32) dX8_path_97 cciconst_m1 rfl ?_
              exact rf_retI rfl dX8_path_98
  · refine rf_iconst (n := 12) (-1 : Int32) dX8_path_11 cciconst_m1 rfl ?_
    exact rf_retI rfl dX8_path_12
def fX9_shiftOf_K50 (s0 : Int32) (μ : ax_M) : Option (Int32 × ax_M) :=
  (some (s0, μ))
theorem pX9_shiftOf_K50 {x : ax_X} {G : ax_G} (hG : ax_ok G) (s0 : Int32) (μ : ax_M) : ax_Rf mX9_shiftOf 0 x (ax_Z ax_jI x G) G 0 0 50 [none, none, none] [.int s0] μ (fX9_shiftOf_K50 s0 μ) := by
  unfold fX9_shiftOf_K50
  exact rf_retI rfl dX9_shiftOf_50
def fX9_shiftOf (p1 : Int32) (μ : ax_M) : Option (Int32 × ax_M) :=
  (Option.bind (ax_rd μ 71 48 p1) (fun v1 => (Option.bind (ax_rd μ 65 20 v1) (fun v2 => (Option.bind (ax_rd μ 74 68 ((1 : Int32) + v2)) (fun v3 => (Option.bind (ax_rd μ 70 48 p1) (fun v4 => (Option.bind (ax_rd μ 65 20 v4) (fun v5 => (Option.bind (ax_rd μ 74 68 ((1 : Int32) + v5)) (fun v6 => (ax_let (v3 - v6) (fun v7 => (if v7 ≤ 0 then (fX9_shiftOf_K50 (v7 + (64 : Int32)) μ) else (fX9_shiftOf_K50 v7 μ))))))))))))))))
theorem okX9_shiftOf (p1 : Int32) (μ : ax_M) : ax_Ok mX9_shiftOf 0 ax_jI [.ref 57, .int p1] μ (fX9_shiftOf p1 μ) := by
  refine ax_start (lc := [some (.ref 57), some (.int p1), none]) 1 (by decide +kernel) rfl (Nat.le_of_ble_eq_true rfl) (fun x G hG => ?_)
  unfold fX9_shiftOf
  refine rf_aload_n (n := 1) 0 dX9_shiftOf_0 rfl rfl rfl ?_
  refine rf_getR (n := 4) rr_57_28 kk_74 hG dX9_shiftOf_1 flX9_63 ki_9_28 sS_57 kk_57 rfl ?_
  refine rf_iconst (n := 5) (1 : Int32) dX9_shiftOf_4 cciconst_1 rfl ?_
  refine rf_aload_n (n := 6) 0 dX9_shiftOf_5 rfl rfl rfl ?_
  refine rf_getR (n := 9) rr_57_9 kk_65 hG dX9_shiftOf_6 flX9_32 ki_9_9 sS_57 kk_57 rfl ?_
  refine rf_aload_n (n := 10) 0 dX9_shiftOf_9 rfl rfl rfl ?_
  refine rf_getR (n := 13) rr_57_15 kk_71 hG dX9_shiftOf_10 flX9_50 ki_9_15 sS_57 kk_57 rfl ?_
  refine rf_iload_n (n := 14) 1 dX9_shiftOf_13 rfl rfl rfl ?_
  refine rf_iald (n := 15) hG dX9_shiftOf_14 sS_71 kk_71 rfl (fun v1 => ?_)
  refine rf_iald (n := 16) hG dX9_shiftOf_15 sS_65 kk_65 rfl (fun v2 => ?_)
  refine rf_iadd (n := 17) dX9_shiftOf_16 rfl ?_
  refine rf_iald (n := 18) hG dX9_shiftOf_17 sS_74 kk_74 rfl (fun v3 => ?_)
  refine rf_aload_n (n := 19) 0 dX9_shiftOf_18 rfl rfl rfl ?_
  refine rf_getR (n := 22) rr_57_28 kk_74 hG dX9_shiftOf_19 flX9_63 ki_9_28 sS_57 kk_57 rfl ?_
  refine rf_iconst (n := 23) (1 : Int32) dX9_shiftOf_22 cciconst_1 rfl ?_
  refine rf_aload_n (n := 24) 0 dX9_shiftOf_23 rfl rfl rfl ?_
  refine rf_getR (n := 27) rr_57_9 kk_65 hG dX9_shiftOf_24 flX9_32 ki_9_9 sS_57 kk_57 rfl ?_
  refine rf_aload_n (n := 28) 0 dX9_shiftOf_27 rfl rfl rfl ?_
  refine rf_getR (n := 31) rr_57_14 kk_70 hG dX9_shiftOf_28 flX9_47 ki_9_14 sS_57 kk_57 rfl ?_
  refine rf_iload_n (n := 32) 1 dX9_shiftOf_31 rfl rfl rfl ?_
  refine rf_iald (n := 33) hG dX9_shiftOf_32 sS_70 kk_70 rfl (fun v4 => ?_)
  refine rf_iald (n := 34) hG dX9_shiftOf_33 sS_65 kk_65 rfl (fun v5 => ?_)
  refine rf_iadd (n := 35) dX9_shiftOf_34 rfl ?_
  refine rf_iald (n := 36) hG dX9_shiftOf_35 sS_74 kk_74 rfl (fun v6 => ?_)
  refine rf_isub (n := 37) dX9_shiftOf_36 rfl ?_
  refine rf_letI (fun v7 => ?_)
  refine rf_istore_n (lc2 := [some (.ref 57), some (.int p1), some (.int v7)]) (n := 38) 2 dX9_shiftOf_37 rfl rfl (Nat.le_of_ble_eq_true rfl) rfl rfl ?_
  refine rf_iload_n (n := 39) 2 dX9_shiftOf_38 rfl rfl rfl ?_
  refine rf_if_le (tg := 46) (n := 42) dX9_shiftOf_39 rfl rfl (fun c8 => ?_) (fun c8 => ?_)
  · refine rf_iload_n (n := 47) 2 dX9_shiftOf_46 rfl rfl rfl ?_
    refine rf_bipush (n := 49) (64 : Int32) dX9_shiftOf_47 ccbipush_64 rfl ?_
    refine rf_iadd (n := 50) dX9_shiftOf_49 rfl ?_
    refine rf_mask (lc2 := [none, none, none]) [false, false, false] rfl ?_
    exact pX9_shiftOf_K50 hG _ _
  · refine rf_iload_n (n := 43) 2 dX9_shiftOf_42 rfl rfl rfl ?_
    refine rf_goto (tg := 50) dX9_shiftOf_43 rfl ?_
    refine rf_mask (lc2 := [none, none, none]) [false, false, false] rfl ?_
    exact pX9_shiftOf_K50 hG _ _
def fX9_path (p1 : Int32) (p2 : Int32) (μ : ax_M) : Option (Int32 × ax_M) :=
  (ax_let (ax_wi μ 57 0 (0 : Int32)) (fun m1 => (ax_bd (fX9_isPath p1 m1) (fun v2 m3 => (if v2 = 0 then (some ((-1 : Int32), m3)) else (if p2 = (0 : Int32) then (Option.bind (ax_rd m3 70 48 p1) (fun v5 => (some (v5, m3)))) else (if p2 = (1 : Int32) then (Option.bind (ax_rd m3 71 48 p1) (fun v7 => (some (v7, m3)))) else (if p2 = (2 : Int32) then (Option.bind (ax_rd m3 74 68 ((19 : Int32) + p1)) (fun v9 => (some (v9, m3)))) else (if p2 = (3 : Int32) then (Option.bind (ax_rd m3 74 68 ((43 : Int32) + p1)) (fun v11 => (some (v11, m3)))) else (if p2 = (4 : Int32) then (ax_bd (fX9_shiftOf p1 m3) (fun v13 m14 => (some (v13, m14)))) else (some ((-1 : Int32), m3))))))))))))
theorem okX9_path (p1 : Int32) (p2 : Int32) (μ : ax_M) : ax_Ok mX9_path 2 ax_jI [.ref 57, .int p1, .int p2] μ (fX9_path p1 p2 μ) := by
  refine ax_start (lc := [some (.ref 57), some (.int p1), some (.int p2)]) 0 (by decide +kernel) rfl (Nat.le_of_ble_eq_true rfl) (fun x G hG => ?_)
  unfold fX9_path
  refine rf_aload_n (n := 1) 0 dX9_path_0 rfl rfl rfl ?_
  refine rf_iconst (n := 2) (0 : Int32) dX9_path_1 cciconst_0 rfl ?_
  refine rf_pfI (n := 5) hG rfl dX9_path_2 flX9_103 ki_9_0 nf_9_0 sS_57 kk_57 rfl (fun m1 => ?_)
  refine rf_aload_n (n := 6) 0 dX9_path_5 rfl rfl rfl ?_
  refine rf_iload_n (n := 7) 1 dX9_path_6 rfl rfl rfl ?_
  refine rf_cV1I (n := 10) hG (okX9_isPath _ _) lVX9_265 hhX9_isPath kk_57 sS_57 ⟨_, rfl, rfl⟩ dX9_path_7 rfl (Nat.le_of_ble_eq_true rfl) (Nat.le_of_ble_eq_true rfl) (fun v2 m3 => ?_)
  refine rf_if_ne (tg := 15) (n := 13) dX9_path_10 rfl rfl (fun c15 => ?_) (fun c15 => ?_)
  · refine rf_iload_n (n := 16) 2 dX9_path_15 rfl rfl rfl ?_
    refine rf_split (fun c4 => ?_) (fun c4 => ?_)
    · refine rf_tabIn (tg := 52) (0 : Int32) c4 dX9_path_16 (by decide) rfl rfl ?_
      refine rf_aload_n (n := 53) 0 dX9_path_52 rfl rfl rfl ?_
      refine rf_getR (n := 56) rr_57_14 kk_70 hG dX9_path_53 flX9_47 ki_9_14 sS_57 kk_57 rfl ?_
      refine rf_iload_n (n := 57) 1 dX9_path_56 rfl rfl rfl ?_
      refine rf_iald (n := 58) hG dX9_path_57 sS_70 kk_70 rfl (fun v5 => ?_)
      exact rf_retI rfl dX9_path_58
    · refine rf_split (fun c6 => ?_) (fun c6 => ?_)
      · refine rf_tabIn (tg := 59) (1 : Int32) c6 dX9_path_16 (by decide) rfl rfl ?_
        refine rf_aload_n (n := 60) 0 dX9_path_59 rfl rfl rfl ?_
        refine rf_getR (n := 63) rr_57_15 kk_71 hG dX9_path_60 flX9_50 ki_9_15 sS_57 kk_57 rfl ?_
        refine rf_iload_n (n := 64) 1 dX9_path_63 rfl rfl rfl ?_
        refine rf_iald (n := 65) hG dX9_path_64 sS_71 kk_71 rfl (fun v7 => ?_)
        exact rf_retI rfl dX9_path_65
      · refine rf_split (fun c8 => ?_) (fun c8 => ?_)
        · refine rf_tabIn (tg := 66) (2 : Int32) c8 dX9_path_16 (by decide) rfl rfl ?_
          refine rf_aload_n (n := 67) 0 dX9_path_66 rfl rfl rfl ?_
          refine rf_getR (n := 70) rr_57_28 kk_74 hG dX9_path_67 flX9_63 ki_9_28 sS_57 kk_57 rfl ?_
          refine rf_bipush (n := 72) (19 : Int32) dX9_path_70 ccbipush_19 rfl ?_
          refine rf_iload_n (n := 73) 1 dX9_path_72 rfl rfl rfl ?_
          refine rf_iadd (n := 74) dX9_path_73 rfl ?_
          refine rf_iald (n := 75) hG dX9_path_74 sS_74 kk_74 rfl (fun v9 => ?_)
          exact rf_retI rfl dX9_path_75
        · refine rf_split (fun c10 => ?_) (fun c10 => ?_)
          · refine rf_tabIn (tg := 76) (3 : Int32) c10 dX9_path_16 (by decide) rfl rfl ?_
            refine rf_aload_n (n := 77) 0 dX9_path_76 rfl rfl rfl ?_
            refine rf_getR (n := 80) rr_57_28 kk_74 hG dX9_path_77 flX9_63 ki_9_28 sS_57 kk_57 rfl ?_
            refine rf_bipush (n := 82) (43 : Int32) dX9_path_80 ccbipush_43 rfl ?_
            refine rf_iload_n (n := 83) 1 dX9_path_82 rfl rfl rfl ?_
            refine rf_iadd (n := 84) dX9_path_83 rfl ?_
            refine rf_iald (n := 85) hG dX9_path_84 sS_74 kk_74 rfl (fun v11 => ?_)
            exact rf_retI rfl dX9_path_85
          · refine rf_split (fun c12 => ?_) (fun c12 => ?_)
            · refine rf_tabIn (tg := 86) (4 : Int32) c12 dX9_path_16 (by decide) rfl rfl ?_
              refine rf_aload_n (n := 87) 0 dX9_path_86 rfl rfl rfl ?_
              refine rf_iload_n (n := 88) 1 dX9_path_87 rfl rfl rfl ?_
              refine rf_cV1I (n := 91) hG (okX9_shiftOf _ _) lVX9_272 hhX9_shiftOf kk_57 sS_57 ⟨_, rfl, rfl⟩ dX9_path_88 rfl (Nat.le_of_ble_eq_true rfl) (Nat.le_of_ble_eq_true rfl) (fun v13 m14 => ?_)
              exact rf_retI rfl dX9_path_91
            · refine rf_tabOut (tg := 92) [(0 : Int32), (1 : Int32), (2 : Int32), (3 : Int32), (4 : Int32)] (List.forall_mem_cons.mpr ⟨c4, List.forall_mem_cons.mpr ⟨c6, List.forall_mem_cons.mpr ⟨c8, List.forall_mem_cons.mpr ⟨c10, List.forall_mem_cons.mpr ⟨c12, List.forall_mem_nil _⟩⟩⟩⟩⟩) dX9_path_16 (by decide) rfl ?_
              refine rf_iconst (n := 93) (-1 : Int32) dX9_path_92 cciconst_m1 rfl ?_
              exact rf_retI rfl dX9_path_93
  · refine rf_iconst (n := 14) (-1 : Int32) dX9_path_13 cciconst_m1 rfl ?_
    exact rf_retI rfl dX9_path_14
def fX8_opens_K45 (s0 : Int32) (μ : ax_M) : Option (Int32 × ax_M) :=
  (some (s0, μ))
theorem pX8_opens_K45 {x : ax_X} {G : ax_G} (hG : ax_ok G) (s0 : Int32) (μ : ax_M) : ax_Rf mX8_opens 1 x (ax_Z ax_jI x G) G 0 0 45 [none, none, none] [.int s0] μ (fX8_opens_K45 s0 μ) := by
  unfold fX8_opens_K45
  exact rf_retI rfl dX8_opens_45
def fX8_opens (p1 : Int32) (p2 : Int32) (μ : ax_M) : Option (Int32 × ax_M) :=
  (ax_bd (fX1_hasPhase p1 μ) (fun v1 m2 => (if v1 = 0 then (some ((-1 : Int32), m2)) else (if p2 = 0 then (Option.bind (ax_rd m2 4 4 p1) (fun v5 => (some (v5, m2)))) else (if p2 = (1 : Int32) then (Option.bind (ax_rd m2 5 4 p1) (fun v3 => (fX8_opens_K45 v3 m2))) else (fX8_opens_K45 (-1 : Int32) m2))))))
theorem okX8_opens (p1 : Int32) (p2 : Int32) (μ : ax_M) : ax_Ok mX8_opens 1 ax_jI [.ref 0, .int p1, .int p2] μ (fX8_opens p1 p2 μ) := by
  refine ax_start (lc := [some (.ref 0), some (.int p1), some (.int p2)]) 0 (by decide +kernel) rfl (Nat.le_of_ble_eq_true rfl) (fun x G hG => ?_)
  unfold fX8_opens
  refine rf_aload_n (n := 1) 0 dX8_opens_0 rfl rfl rfl ?_
  refine rf_getR (n := 4) rr_0_2 kk_2 hG dX8_opens_1 flX8_16 ki_8_2 sS_0 kk_0 rfl ?_
  refine rf_iload_n (n := 5) 1 dX8_opens_4 rfl rfl rfl ?_
  refine rf_cV1I (n := 8) hG (okX1_hasPhase _ _) lVX8_134 hhX1_hasPhase kk_2 sS_2 ⟨_, rfl, rfl⟩ dX8_opens_5 rfl (Nat.le_of_ble_eq_true rfl) (Nat.le_of_ble_eq_true rfl) (fun v1 m2 => ?_)
  refine rf_if_ne (tg := 13) (n := 11) dX8_opens_8 rfl rfl (fun c7 => ?_) (fun c7 => ?_)
  · refine rf_iload_n (n := 14) 2 dX8_opens_13 rfl rfl rfl ?_
    refine rf_if_ne (tg := 27) (n := 17) dX8_opens_14 rfl rfl (fun c6 => ?_) (fun c6 => ?_)
    · refine rf_iload_n (n := 28) 2 dX8_opens_27 rfl rfl rfl ?_
      refine rf_iconst (n := 29) (1 : Int32) dX8_opens_28 cciconst_1 rfl ?_
      refine rf_icmp_ne (tg := 44) (n := 32) dX8_opens_29 rfl rfl (fun c4 => ?_) (fun c4 => ?_)
      · refine rf_iconst (n := 45) (-1 : Int32) dX8_opens_44 cciconst_m1 rfl ?_
        refine rf_mask (lc2 := [none, none, none]) [false, false, false] rfl ?_
        exact pX8_opens_K45 hG _ _
      · refine rf_aload_n (n := 33) 0 dX8_opens_32 rfl rfl rfl ?_
        refine rf_getR (n := 36) rr_0_2 kk_2 hG dX8_opens_33 flX8_16 ki_8_2 sS_0 kk_0 rfl ?_
        refine rf_getR (n := 39) rr_2_2 kk_5 hG dX8_opens_36 flX8_140 ki_1_2 sS_2 kk_2 rfl ?_
        refine rf_iload_n (n := 40) 1 dX8_opens_39 rfl rfl rfl ?_
        refine rf_iald (n := 41) hG dX8_opens_40 sS_5 kk_5 rfl (fun v3 => ?_)
        refine rf_goto (tg := 45) dX8_opens_41 rfl ?_
        refine rf_mask (lc2 := [none, none, none]) [false, false, false] rfl ?_
        exact pX8_opens_K45 hG _ _
    · refine rf_aload_n (n := 18) 0 dX8_opens_17 rfl rfl rfl ?_
      refine rf_getR (n := 21) rr_0_2 kk_2 hG dX8_opens_18 flX8_16 ki_8_2 sS_0 kk_0 rfl ?_
      refine rf_getR (n := 24) rr_2_1 kk_4 hG dX8_opens_21 flX8_137 ki_1_1 sS_2 kk_2 rfl ?_
      refine rf_iload_n (n := 25) 1 dX8_opens_24 rfl rfl rfl ?_
      refine rf_iald (n := 26) hG dX8_opens_25 sS_4 kk_4 rfl (fun v5 => ?_)
      exact rf_retI rfl dX8_opens_26
  · refine rf_iconst (n := 12) (-1 : Int32) dX8_opens_11 cciconst_m1 rfl ?_
    exact rf_retI rfl dX8_opens_12
def fX9_opens_K42 (s0 : Int32) (μ : ax_M) : Option (Int32 × ax_M) :=
  (some (s0, μ))
theorem pX9_opens_K42 {x : ax_X} {G : ax_G} (hG : ax_ok G) (s0 : Int32) (μ : ax_M) : ax_Rf mX9_opens 2 x (ax_Z ax_jI x G) G 0 0 42 [none, none, none] [.int s0] μ (fX9_opens_K42 s0 μ) := by
  unfold fX9_opens_K42
  exact rf_retI rfl dX9_opens_42
def fX9_opens_K41 (μ : ax_M) : Option (Int32 × ax_M) :=
  (fX9_opens_K42 (-1 : Int32) μ)
theorem pX9_opens_K41 {x : ax_X} {G : ax_G} (hG : ax_ok G) (μ : ax_M) : ax_Rf mX9_opens 2 x (ax_Z ax_jI x G) G 0 0 41 [none, none, none] [] μ (fX9_opens_K41 μ) := by
  unfold fX9_opens_K41
  refine rf_iconst (n := 42) (-1 : Int32) dX9_opens_41 cciconst_m1 rfl ?_
  exact pX9_opens_K42 hG _ _
def fX9_opens_K35 (l1 : Int32) (s1 : Int32) (μ : ax_M) : Option (Int32 × ax_M) :=
  (Option.bind (ax_rd μ 74 68 (s1 + l1)) (fun v4 => (fX9_opens_K42 v4 μ)))
theorem pX9_opens_K35 {x : ax_X} {G : ax_G} (hG : ax_ok G) (l1 : Int32) (s1 : Int32) (μ : ax_M) : ax_Rf mX9_opens 2 x (ax_Z ax_jI x G) G 0 0 35 [none, some (.int l1), none] [.int s1, .ref 74] μ (fX9_opens_K35 l1 s1 μ) := by
  unfold fX9_opens_K35
  refine rf_iload_n (n := 36) 1 dX9_opens_35 rfl rfl rfl ?_
  refine rf_iadd (n := 37) dX9_opens_36 rfl ?_
  refine rf_iald (n := 38) hG dX9_opens_37 sS_74 kk_74 rfl (fun v4 => ?_)
  refine rf_goto (tg := 42) dX9_opens_38 rfl ?_
  refine rf_mask (lc2 := [none, none, none]) [true, false, true] rfl ?_
  exact pX9_opens_K42 hG _ _
def fX9_opens_K22 (l1 : Int32) (l2 : Int32) (μ : ax_M) : Option (Int32 × ax_M) :=
  (if l2 = 0 then (fX9_opens_K35 l1 (1 : Int32) μ) else (fX9_opens_K35 l1 (5 : Int32) μ))
theorem pX9_opens_K22 {x : ax_X} {G : ax_G} (hG : ax_ok G) (l1 : Int32) (l2 : Int32) (μ : ax_M) : ax_Rf mX9_opens 2 x (ax_Z ax_jI x G) G 0 0 22 [some (.ref 57), some (.int l1), some (.int l2)] [] μ (fX9_opens_K22 l1 l2 μ) := by
  unfold fX9_opens_K22
  refine rf_aload_n (n := 23) 0 dX9_opens_22 rfl rfl rfl ?_
  refine rf_getR (n := 26) rr_57_28 kk_74 hG dX9_opens_23 flX9_63 ki_9_28 sS_57 kk_57 rfl ?_
  refine rf_iload_n (n := 27) 2 dX9_opens_26 rfl rfl rfl ?_
  refine rf_if_ne (tg := 34) (n := 30) dX9_opens_27 rfl rfl (fun c5 => ?_) (fun c5 => ?_)
  · refine rf_iconst (n := 35) (5 : Int32) dX9_opens_34 cciconst_5 rfl ?_
    refine rf_mask (lc2 := [none, some (.int l1), none]) [false, true, false] rfl ?_
    exact pX9_opens_K35 hG _ _ _
  · refine rf_iconst (n := 31) (1 : Int32) dX9_opens_30 cciconst_1 rfl ?_
    refine rf_goto (tg := 35) dX9_opens_31 rfl ?_
    refine rf_mask (lc2 := [none, some (.int l1), none]) [false, true, false] rfl ?_
    exact pX9_opens_K35 hG _ _ _
def fX9_opens (p1 : Int32) (p2 : Int32) (μ : ax_M) : Option (Int32 × ax_M) :=
  (ax_let (ax_wi μ 57 0 (0 : Int32)) (fun m1 => (ax_bd (fX9_isPhase p1 m1) (fun v2 m3 => (if v2 = 0 then (fX9_opens_K41 m3) else (if p2 = 0 then (fX9_opens_K22 p1 p2 m3) else (if p2 = (1 : Int32) then (fX9_opens_K22 p1 p2 m3) else (fX9_opens_K41 m3))))))))
theorem okX9_opens (p1 : Int32) (p2 : Int32) (μ : ax_M) : ax_Ok mX9_opens 2 ax_jI [.ref 57, .int p1, .int p2] μ (fX9_opens p1 p2 μ) := by
  refine ax_start (lc := [some (.ref 57), some (.int p1), some (.int p2)]) 0 (by decide +kernel) rfl (Nat.le_of_ble_eq_true rfl) (fun x G hG => ?_)
  unfold fX9_opens
  refine rf_aload_n (n := 1) 0 dX9_opens_0 rfl rfl rfl ?_
  refine rf_iconst (n := 2) (0 : Int32) dX9_opens_1 cciconst_0 rfl ?_
  refine rf_pfI (n := 5) hG rfl dX9_opens_2 flX9_103 ki_9_0 nf_9_0 sS_57 kk_57 rfl (fun m1 => ?_)
  refine rf_aload_n (n := 6) 0 dX9_opens_5 rfl rfl rfl ?_
  refine rf_iload_n (n := 7) 1 dX9_opens_6 rfl rfl rfl ?_
  refine rf_cV1I (n := 10) hG (okX9_isPhase _ _) lVX9_262 hhX9_isPhase kk_57 sS_57 ⟨_, rfl, rfl⟩ dX9_opens_7 rfl (Nat.le_of_ble_eq_true rfl) (Nat.le_of_ble_eq_true rfl) (fun v2 m3 => ?_)
  refine rf_if_eq (tg := 41) (n := 13) dX9_opens_10 rfl rfl (fun c8 => ?_) (fun c8 => ?_)
  · refine rf_mask (lc2 := [none, none, none]) [false, false, false] rfl ?_
    exact pX9_opens_K41 hG _
  · refine rf_iload_n (n := 14) 2 dX9_opens_13 rfl rfl rfl ?_
    refine rf_if_eq (tg := 22) (n := 17) dX9_opens_14 rfl rfl (fun c7 => ?_) (fun c7 => ?_)
    · exact pX9_opens_K22 hG _ _ _
    · refine rf_iload_n (n := 18) 2 dX9_opens_17 rfl rfl rfl ?_
      refine rf_iconst (n := 19) (1 : Int32) dX9_opens_18 cciconst_1 rfl ?_
      refine rf_icmp_ne (tg := 41) (n := 22) dX9_opens_19 rfl rfl (fun c6 => ?_) (fun c6 => ?_)
      · refine rf_mask (lc2 := [none, none, none]) [false, false, false] rfl ?_
        exact pX9_opens_K41 hG _
      · exact pX9_opens_K22 hG _ _ _
def fX1_delayOf (p1 : Int32) (μ : ax_M) : Option (Int32 × ax_M) :=
  (Option.bind (ax_rd μ 11 24 p1) (fun v1 => (Option.bind (ax_rd μ 10 10 v1) (fun v2 => (Option.bind (ax_rd μ 13 24 p1) (fun v3 => (some (((64 : Int32) * ((v2 + v3) + (μ.1 2 17))), μ))))))))
theorem okX1_delayOf (p1 : Int32) (μ : ax_M) : ax_Ok mX1_delayOf 0 ax_jI [.ref 2, .int p1] μ (fX1_delayOf p1 μ) := by
  refine ax_start (lc := [some (.ref 2), some (.int p1)]) 0 (by decide +kernel) rfl (Nat.le_of_ble_eq_true rfl) (fun x G hG => ?_)
  unfold fX1_delayOf
  refine rf_bipush (n := 2) (64 : Int32) dX1_delayOf_0 ccbipush_64 rfl ?_
  refine rf_aload_n (n := 3) 0 dX1_delayOf_2 rfl rfl rfl ?_
  refine rf_getR (n := 6) rr_2_7 kk_10 hG dX1_delayOf_3 flX1_33 ki_1_7 sS_2 kk_2 rfl ?_
  refine rf_aload_n (n := 7) 0 dX1_delayOf_6 rfl rfl rfl ?_
  refine rf_getR (n := 10) rr_2_8 kk_11 hG dX1_delayOf_7 flX1_36 ki_1_8 sS_2 kk_2 rfl ?_
  refine rf_iload_n (n := 11) 1 dX1_delayOf_10 rfl rfl rfl ?_
  refine rf_iald (n := 12) hG dX1_delayOf_11 sS_11 kk_11 rfl (fun v1 => ?_)
  refine rf_iald (n := 13) hG dX1_delayOf_12 sS_10 kk_10 rfl (fun v2 => ?_)
  refine rf_aload_n (n := 14) 0 dX1_delayOf_13 rfl rfl rfl ?_
  refine rf_getR (n := 17) rr_2_10 kk_13 hG dX1_delayOf_14 flX1_42 ki_1_10 sS_2 kk_2 rfl ?_
  refine rf_iload_n (n := 18) 1 dX1_delayOf_17 rfl rfl rfl ?_
  refine rf_iald (n := 19) hG dX1_delayOf_18 sS_13 kk_13 rfl (fun v3 => ?_)
  refine rf_iadd (n := 20) dX1_delayOf_19 rfl ?_
  refine rf_aload_n (n := 21) 0 dX1_delayOf_20 rfl rfl rfl ?_
  refine rf_getI (n := 24) hG dX1_delayOf_21 flX1_64 ki_1_17 sS_2 kk_2 rfl ?_
  refine rf_iadd (n := 25) dX1_delayOf_24 rfl ?_
  refine rf_imul (n := 26) dX1_delayOf_25 rfl ?_
  exact rf_retI rfl dX1_delayOf_26
def fX1_weighPaths_B2 (r2 : Int32 → ax_M → Option (Unit × ax_M)) (l2 : Int32) (μ : ax_M) : Option (Unit × ax_M) :=
  (if (μ.1 2 14) ≤ l2 then (some ((), μ)) else (ax_bd (fX1_delayOf l2 μ) (fun v1 m2 => (ax_bd (fX1_shiftOf l2 m2) (fun v3 m4 => (Option.bind (ax_wr m4 33 24 l2 (v1 - (v3 * (m4.1 2 16)))) (fun m5 => (r2 (l2 + (1 : Int32)) m5))))))))
theorem pX1_weighPaths_B2 {x : ax_X} {G : ax_G} (hG : ax_ok G) (r2 : Int32 → ax_M → Option (Unit × ax_M)) (hr2 : ∀ (a2 : Int32) (μ : ax_M), ax_Rf mX1_weighPaths 1 x (ax_Z ax_jV x G) G 0 0 2 [some (.ref 2), some (.ref 33), some (.int a2)] [] μ (r2 a2 μ)) (l2 : Int32) (μ : ax_M) : ax_Rf mX1_weighPaths 1 x (ax_Z ax_jV x G) G 0 0 2 [some (.ref 2), some (.ref 33), some (.int l2)] [] μ (fX1_weighPaths_B2 r2 l2 μ) := by
  unfold fX1_weighPaths_B2
  refine rf_iload_n (n := 3) 2 dX1_weighPaths_2 rfl rfl rfl ?_
  refine rf_aload_n (n := 4) 0 dX1_weighPaths_3 rfl rfl rfl ?_
  refine rf_getI (n := 7) hG dX1_weighPaths_4 flX1_58 ki_1_14 sS_2 kk_2 rfl ?_
  refine rf_icmp_ge (tg := 35) (n := 10) dX1_weighPaths_7 rfl rfl (fun c6 => ?_) (fun c6 => ?_)
  · exact rf_retV rfl dX1_weighPaths_35
  · refine rf_aload_n (n := 11) 1 dX1_weighPaths_10 rfl rfl rfl ?_
    refine rf_iload_n (n := 12) 2 dX1_weighPaths_11 rfl rfl rfl ?_
    refine rf_aload_n (n := 13) 0 dX1_weighPaths_12 rfl rfl rfl ?_
    refine rf_iload_n (n := 14) 2 dX1_weighPaths_13 rfl rfl rfl ?_
    refine rf_cV1I (n := 17) hG (okX1_delayOf _ _) lVX1_76 hhX1_delayOf kk_2 sS_2 ⟨_, rfl, rfl⟩ dX1_weighPaths_14 rfl (Nat.le_of_ble_eq_true rfl) (Nat.le_of_ble_eq_true rfl) (fun v1 m2 => ?_)
    refine rf_aload_n (n := 18) 0 dX1_weighPaths_17 rfl rfl rfl ?_
    refine rf_iload_n (n := 19) 2 dX1_weighPaths_18 rfl rfl rfl ?_
    refine rf_cV1I (n := 22) hG (okX1_shiftOf _ _) lVX1_80 hhX1_shiftOf kk_2 sS_2 ⟨_, rfl, rfl⟩ dX1_weighPaths_19 rfl (Nat.le_of_ble_eq_true rfl) (Nat.le_of_ble_eq_true rfl) (fun v3 m4 => ?_)
    refine rf_aload_n (n := 23) 0 dX1_weighPaths_22 rfl rfl rfl ?_
    refine rf_getI (n := 26) hG dX1_weighPaths_23 flX1_48 ki_1_16 sS_2 kk_2 rfl ?_
    refine rf_imul (n := 27) dX1_weighPaths_26 rfl ?_
    refine rf_isub (n := 28) dX1_weighPaths_27 rfl ?_
    refine rf_iast (n := 29) hG dX1_weighPaths_28 sS_33 kk_33 rfl (fun m5 => ?_)
    refine rf_iinc (lc2 := [some (.ref 2), some (.ref 33), some (.int (l2 + (1 : Int32)))]) (n := 32) (w := (1 : Int32)) 2 dX1_weighPaths_29 rfl rfl rfl (Nat.le_of_ble_eq_true rfl) rfl rfl ?_
    refine rf_goto (tg := 2) dX1_weighPaths_32 rfl ?_
    exact hr2 _ _
theorem pX1_weighPaths_L2 {x : ax_X} {G : ax_G} (hG : ax_ok G) (n : Nat) (a2 : Int32) (μ : ax_M) : ax_Rf mX1_weighPaths 1 x (ax_Z ax_jV x G) G 0 0 2 [some (.ref 2), some (.ref 33), some (.int a2)] [] μ (ax_lp1 (fX1_weighPaths_B2) n a2 μ) :=
  rf_lp1 (P := fun a2 μ t => ax_Rf mX1_weighPaths 1 x (ax_Z ax_jV x G) G 0 0 2 [some (.ref 2), some (.ref 33), some (.int a2)] [] μ t) (fun _ _ => rf_none) (fun rc hrc a2 μ => pX1_weighPaths_B2 hG rc hrc a2 μ) n a2 μ
def fX1_weighPaths (μ : ax_M) : Option (Unit × ax_M) :=
  (ax_lp1 (fX1_weighPaths_B2) ax_FU (0 : Int32) μ)
theorem okX1_weighPaths (μ : ax_M) : ax_Ok mX1_weighPaths 1 ax_jV [.ref 2, .ref 33] μ (fX1_weighPaths μ) := by
  refine ax_start (lc := [some (.ref 2), some (.ref 33), none]) 1 (by decide +kernel) rfl (Nat.le_of_ble_eq_true rfl) (fun x G hG => ?_)
  unfold fX1_weighPaths
  refine rf_iconst (n := 1) (0 : Int32) dX1_weighPaths_0 cciconst_0 rfl ?_
  refine rf_istore_n (lc2 := [some (.ref 2), some (.ref 33), some (.int (0 : Int32))]) (n := 2) 2 dX1_weighPaths_1 rfl rfl (Nat.le_of_ble_eq_true rfl) rfl rfl ?_
  exact pX1_weighPaths_L2 hG _ _ _
def fJ7_fill_53178_B5 (l1 : Int32) (l3 : Int32) (r5 : Int32 → ax_M → Option (Unit × ax_M)) (l2 : Int32) (μ : ax_M) : Option (Unit × ax_M) :=
  (if l3 ≤ l2 then (some ((), μ)) else (Option.bind (ax_wr μ 35 10 l2 l1) (fun m1 => (r5 (l2 + (1 : Int32)) m1))))
theorem pJ7_fill_53178_B5 {x : ax_X} {G : ax_G} (hG : ax_ok G) (l1 : Int32) (l3 : Int32) (r5 : Int32 → ax_M → Option (Unit × ax_M)) (hr5 : ∀ (a2 : Int32) (μ : ax_M), ax_Rf mJ7_fill_53178 0 x (ax_Z ax_jV x G) G 0 0 5 [some (.ref 35), some (.int l1), some (.int a2), some (.int l3)] [] μ (r5 a2 μ)) (l2 : Int32) (μ : ax_M) : ax_Rf mJ7_fill_53178 0 x (ax_Z ax_jV x G) G 0 0 5 [some (.ref 35), some (.int l1), some (.int l2), some (.int l3)] [] μ (fJ7_fill_53178_B5 l1 l3 r5 l2 μ) := by
  unfold fJ7_fill_53178_B5
  refine rf_iload_n (n := 6) 2 dJ7_fill_53178_5 rfl rfl rfl ?_
  refine rf_iload_n (n := 7) 3 dJ7_fill_53178_6 rfl rfl rfl ?_
  refine rf_icmp_ge (tg := 20) (n := 10) dJ7_fill_53178_7 rfl rfl (fun c2 => ?_) (fun c2 => ?_)
  · exact rf_retV rfl dJ7_fill_53178_20
  · refine rf_aload_n (n := 11) 0 dJ7_fill_53178_10 rfl rfl rfl ?_
    refine rf_iload_n (n := 12) 2 dJ7_fill_53178_11 rfl rfl rfl ?_
    refine rf_iload_n (n := 13) 1 dJ7_fill_53178_12 rfl rfl rfl ?_
    refine rf_iast (n := 14) hG dJ7_fill_53178_13 sS_35 kk_35 rfl (fun m1 => ?_)
    refine rf_iinc (lc2 := [some (.ref 35), some (.int l1), some (.int (l2 + (1 : Int32))), some (.int l3)]) (n := 17) (w := (1 : Int32)) 2 dJ7_fill_53178_14 rfl rfl rfl (Nat.le_of_ble_eq_true rfl) rfl rfl ?_
    refine rf_goto (tg := 5) dJ7_fill_53178_17 rfl ?_
    exact hr5 _ _
theorem pJ7_fill_53178_L5 {x : ax_X} {G : ax_G} (hG : ax_ok G) (l1 : Int32) (l3 : Int32) (n : Nat) (a2 : Int32) (μ : ax_M) : ax_Rf mJ7_fill_53178 0 x (ax_Z ax_jV x G) G 0 0 5 [some (.ref 35), some (.int l1), some (.int a2), some (.int l3)] [] μ (ax_lp1 (fJ7_fill_53178_B5 l1 l3) n a2 μ) :=
  rf_lp1 (P := fun a2 μ t => ax_Rf mJ7_fill_53178 0 x (ax_Z ax_jV x G) G 0 0 5 [some (.ref 35), some (.int l1), some (.int a2), some (.int l3)] [] μ t) (fun _ _ => rf_none) (fun rc hrc a2 μ => pJ7_fill_53178_B5 hG l1 l3 rc hrc a2 μ) n a2 μ
def fJ7_fill_53178 (p1 : Int32) (μ : ax_M) : Option (Unit × ax_M) :=
  (ax_lp1 (fJ7_fill_53178_B5 p1 (10 : Int32)) ax_FU (0 : Int32) μ)
theorem okJ7_fill_53178 (p1 : Int32) (μ : ax_M) : ax_Ok mJ7_fill_53178 0 ax_jV [.ref 35, .int p1] μ (fJ7_fill_53178 p1 μ) := by
  refine ax_start (lc := [some (.ref 35), some (.int p1), none, none]) 2 (by decide +kernel) rfl (Nat.le_of_ble_eq_true rfl) (fun x G hG => ?_)
  unfold fJ7_fill_53178
  refine rf_iconst (n := 1) (0 : Int32) dJ7_fill_53178_0 cciconst_0 rfl ?_
  refine rf_istore_n (lc2 := [some (.ref 35), some (.int p1), some (.int (0 : Int32)), none]) (n := 2) 2 dJ7_fill_53178_1 rfl rfl (Nat.le_of_ble_eq_true rfl) rfl rfl ?_
  refine rf_aload_n (n := 3) 0 dJ7_fill_53178_2 rfl rfl rfl ?_
  refine rf_alen1 (n := 4) (v := (10 : Int32)) hG dJ7_fill_53178_3 sS_35 rfl kk_35 rfl ?_
  refine rf_istore_n (lc2 := [some (.ref 35), some (.int p1), some (.int (0 : Int32)), some (.int (10 : Int32))]) (n := 5) 3 dJ7_fill_53178_4 rfl rfl (Nat.le_of_ble_eq_true rfl) rfl rfl ?_
  exact pJ7_fill_53178_L5 hG _ _ _ _ _
def fX1_leavesBy_K17 (s0 : Int32) (μ : ax_M) : Option (Int32 × ax_M) :=
  (some (s0, μ))
theorem pX1_leavesBy_K17 {x : ax_X} {G : ax_G} (hG : ax_ok G) (s0 : Int32) (μ : ax_M) : ax_Rf mX1_leavesBy 1 x (ax_Z ax_jI x G) G 0 0 17 [none, none, none] [.int s0] μ (fX1_leavesBy_K17 s0 μ) := by
  unfold fX1_leavesBy_K17
  exact rf_retI rfl dX1_leavesBy_17
def fX1_leavesBy (p1 : Int32) (p2 : Int32) (μ : ax_M) : Option (Int32 × ax_M) :=
  (ax_bd (fX1_isFlop p1 μ) (fun v1 m2 => (if v1 = 0 then (fX1_leavesBy_K17 (ax_mx p2 (0 : Int32)) m2) else (fX1_leavesBy_K17 (0 : Int32) m2))))
theorem okX1_leavesBy (p1 : Int32) (p2 : Int32) (μ : ax_M) : ax_Ok mX1_leavesBy 1 ax_jI [.ref 2, .int p1, .int p2] μ (fX1_leavesBy p1 p2 μ) := by
  refine ax_start (lc := [some (.ref 2), some (.int p1), some (.int p2)]) 0 (by decide +kernel) rfl (Nat.le_of_ble_eq_true rfl) (fun x G hG => ?_)
  unfold fX1_leavesBy
  refine rf_aload_n (n := 1) 0 dX1_leavesBy_0 rfl rfl rfl ?_
  refine rf_iload_n (n := 2) 1 dX1_leavesBy_1 rfl rfl rfl ?_
  refine rf_cV1I (n := 5) hG (okX1_isFlop _ _) lVX1_96 hhX1_isFlop kk_2 sS_2 ⟨_, rfl, rfl⟩ dX1_leavesBy_2 rfl (Nat.le_of_ble_eq_true rfl) (Nat.le_of_ble_eq_true rfl) (fun v1 m2 => ?_)
  refine rf_if_eq (tg := 12) (n := 8) dX1_leavesBy_5 rfl rfl (fun c3 => ?_) (fun c3 => ?_)
  · refine rf_iload_n (n := 13) 2 dX1_leavesBy_12 rfl rfl rfl ?_
    refine rf_iconst (n := 14) (0 : Int32) dX1_leavesBy_13 cciconst_0 rfl ?_
    refine rf_max (n := 17) dX1_leavesBy_14 mxX1_90 ax_maxw (Nat.le_of_ble_eq_true rfl) (Nat.le_of_ble_eq_true rfl) rfl ?_
    refine rf_mask (lc2 := [none, none, none]) [false, false, false] rfl ?_
    exact pX1_leavesBy_K17 hG _ _
  · refine rf_iconst (n := 9) (0 : Int32) dX1_leavesBy_8 cciconst_0 rfl ?_
    refine rf_goto (tg := 17) dX1_leavesBy_9 rfl ?_
    refine rf_mask (lc2 := [none, none, none]) [false, false, false] rfl ?_
    exact pX1_leavesBy_K17 hG _ _
def fX5_settle_K102 (l1 : Int32) (l2 : Int32) (l3 : Int32) (r25 : Int32 → Int32 → ax_M → Option (Int32 × ax_M)) (μ : ax_M) : Option (Int32 × ax_M) :=
  (r25 l2 (l3 + (1 : Int32)) μ)
theorem pX5_settle_K102 {x : ax_X} {G : ax_G} (hG : ax_ok G) (l1 : Int32) (l2 : Int32) (l3 : Int32) (r25 : Int32 → Int32 → ax_M → Option (Int32 × ax_M)) (hr25 : ∀ (a2 : Int32) (a3 : Int32) (μ : ax_M), ax_Rf mX5_settle 2 x (ax_Z ax_jI x G) G 0 0 25 [some (.ref 32), some (.int l1), some (.int a2), some (.int a3), none, none] [] μ (r25 a2 a3 μ)) (μ : ax_M) : ax_Rf mX5_settle 2 x (ax_Z ax_jI x G) G 0 0 102 [some (.ref 32), some (.int l1), some (.int l2), some (.int l3), none, none] [] μ (fX5_settle_K102 l1 l2 l3 r25 μ) := by
  unfold fX5_settle_K102
  refine rf_iinc (lc2 := [some (.ref 32), some (.int l1), some (.int l2), some (.int (l3 + (1 : Int32))), none, none]) (n := 105) (w := (1 : Int32)) 3 dX5_settle_102 rfl rfl rfl (Nat.le_of_ble_eq_true rfl) rfl rfl ?_
  refine rf_goto (tg := 25) dX5_settle_105 rfl ?_
  exact hr25 _ _ _
def fX5_settle_B25 (l1 : Int32) (r10 : Int32 → ax_M → Option (Int32 × ax_M)) (r25 : Int32 → Int32 → ax_M → Option (Int32 × ax_M)) (l2 : Int32) (l3 : Int32) (μ : ax_M) : Option (Int32 × ax_M) :=
  (if (μ.1 2 14) ≤ l3 then (if l2 = 0 then (some ((1 : Int32), μ)) else (r10 (l1 + (1 : Int32)) μ)) else (Option.bind (ax_rd μ 12 24 l3) (fun v4 => (Option.bind (ax_rd μ 11 24 l3) (fun v5 => (Option.bind (ax_rd μ 35 10 v5) (fun v6 => (Option.bind (ax_rd μ 33 24 l3) (fun v7 => (ax_bd (fX1_leavesBy v4 (v6 + v7) μ) (fun v8 m9 => (Option.bind (ax_rd m9 35 10 v4) (fun v10 => (if v8 ≤ v10 then (fX5_settle_K102 l1 l2 l3 r25 m9) else (Option.bind (ax_wr m9 35 10 v4 v8) (fun m11 => (fX5_settle_K102 l1 (1 : Int32) l3 r25 m11)))))))))))))))))
theorem pX5_settle_B25 {x : ax_X} {G : ax_G} (hG : ax_ok G) (l1 : Int32) (r10 : Int32 → ax_M → Option (Int32 × ax_M)) (hr10 : ∀ (a1 : Int32) (μ : ax_M), ax_Rf mX5_settle 2 x (ax_Z ax_jI x G) G 0 0 10 [some (.ref 32), some (.int a1), none, none, none, none] [] μ (r10 a1 μ)) (r25 : Int32 → Int32 → ax_M → Option (Int32 × ax_M)) (hr25 : ∀ (a2 : Int32) (a3 : Int32) (μ : ax_M), ax_Rf mX5_settle 2 x (ax_Z ax_jI x G) G 0 0 25 [some (.ref 32), some (.int l1), some (.int a2), some (.int a3), none, none] [] μ (r25 a2 a3 μ)) (l2 : Int32) (l3 : Int32) (μ : ax_M) : ax_Rf mX5_settle 2 x (ax_Z ax_jI x G) G 0 0 25 [some (.ref 32), some (.int l1), some (.int l2), some (.int l3), none, none] [] μ (fX5_settle_B25 l1 r10 r25 l2 l3 μ) := by
  unfold fX5_settle_B25
  refine rf_iload_n (n := 26) 3 dX5_settle_25 rfl rfl rfl ?_
  refine rf_aload_n (n := 27) 0 dX5_settle_26 rfl rfl rfl ?_
  refine rf_getR (n := 30) rr_32_0 kk_2 hG dX5_settle_27 flX5_24 ki_5_0 sS_32 kk_32 rfl ?_
  refine rf_getI (n := 33) hG dX5_settle_30 flX5_59 ki_1_14 sS_2 kk_2 rfl ?_
  refine rf_icmp_ge (tg := 108) (n := 36) dX5_settle_33 rfl rfl (fun c13 => ?_) (fun c13 => ?_)
  · refine rf_iload_n (n := 109) 2 dX5_settle_108 rfl rfl rfl ?_
    refine rf_if_ne (tg := 114) (n := 112) dX5_settle_109 rfl rfl (fun c3 => ?_) (fun c3 => ?_)
    · refine rf_iinc (lc2 := [some (.ref 32), some (.int (l1 + (1 : Int32))), some (.int l2), some (.int l3), none, none]) (n := 117) (w := (1 : Int32)) 1 dX5_settle_114 rfl rfl rfl (Nat.le_of_ble_eq_true rfl) rfl rfl ?_
      refine rf_goto (tg := 10) dX5_settle_117 rfl ?_
      refine rf_mask (lc2 := [some (.ref 32), some (.int (l1 + (1 : Int32))), none, none, none, none]) [true, true, false, false, true, true] rfl ?_
      exact hr10 _ _
    · refine rf_iconst (n := 113) (1 : Int32) dX5_settle_112 cciconst_1 rfl ?_
      exact rf_retB rfl (Or.inr rfl) dX5_settle_113
  · refine rf_aload_n (n := 37) 0 dX5_settle_36 rfl rfl rfl ?_
    refine rf_getR (n := 40) rr_32_0 kk_2 hG dX5_settle_37 flX5_24 ki_5_0 sS_32 kk_32 rfl ?_
    refine rf_getR (n := 43) rr_2_9 kk_12 hG dX5_settle_40 flX5_62 ki_1_9 sS_2 kk_2 rfl ?_
    refine rf_iload_n (n := 44) 3 dX5_settle_43 rfl rfl rfl ?_
    refine rf_iald (n := 45) hG dX5_settle_44 sS_12 kk_12 rfl (fun v4 => ?_)
    refine rf_istore (lc2 := [some (.ref 32), some (.int l1), some (.int l2), some (.int l3), some (.int v4), none]) (n := 47) 4 dX5_settle_45 rfl (Nat.le_of_ble_eq_true rfl) rfl rfl ?_
    refine rf_aload_n (n := 48) 0 dX5_settle_47 rfl rfl rfl ?_
    refine rf_getR (n := 51) rr_32_0 kk_2 hG dX5_settle_48 flX5_24 ki_5_0 sS_32 kk_32 rfl ?_
    refine rf_iload (n := 53) 4 dX5_settle_51 rfl rfl ?_
    refine rf_aload_n (n := 54) 0 dX5_settle_53 rfl rfl rfl ?_
    refine rf_getR (n := 57) rr_32_3 kk_35 hG dX5_settle_54 flX5_18 ki_5_3 sS_32 kk_32 rfl ?_
    refine rf_aload_n (n := 58) 0 dX5_settle_57 rfl rfl rfl ?_
    refine rf_getR (n := 61) rr_32_0 kk_2 hG dX5_settle_58 flX5_24 ki_5_0 sS_32 kk_32 rfl ?_
    refine rf_getR (n := 64) rr_2_8 kk_11 hG dX5_settle_61 flX5_65 ki_1_8 sS_2 kk_2 rfl ?_
    refine rf_iload_n (n := 65) 3 dX5_settle_64 rfl rfl rfl ?_
    refine rf_iald (n := 66) hG dX5_settle_65 sS_11 kk_11 rfl (fun v5 => ?_)
    refine rf_iald (n := 67) hG dX5_settle_66 sS_35 kk_35 rfl (fun v6 => ?_)
    refine rf_aload_n (n := 68) 0 dX5_settle_67 rfl rfl rfl ?_
    refine rf_getR (n := 71) rr_32_1 kk_33 hG dX5_settle_68 flX5_9 ki_5_1 sS_32 kk_32 rfl ?_
    refine rf_iload_n (n := 72) 3 dX5_settle_71 rfl rfl rfl ?_
    refine rf_iald (n := 73) hG dX5_settle_72 sS_33 kk_33 rfl (fun v7 => ?_)
    refine rf_iadd (n := 74) dX5_settle_73 rfl ?_
    refine rf_cV2I (n := 77) hG (okX1_leavesBy _ _ _) lVX5_68 hhX1_leavesBy kk_2 sS_2 ⟨_, rfl, rfl⟩ dX5_settle_74 rfl (Nat.le_of_ble_eq_true rfl) (Nat.le_of_ble_eq_true rfl) (fun v8 m9 => ?_)
    refine rf_istore (lc2 := [some (.ref 32), some (.int l1), some (.int l2), some (.int l3), some (.int v4), some (.int v8)]) (n := 79) 5 dX5_settle_77 rfl (Nat.le_of_ble_eq_true rfl) rfl rfl ?_
    refine rf_iload (n := 81) 5 dX5_settle_79 rfl rfl ?_
    refine rf_aload_n (n := 82) 0 dX5_settle_81 rfl rfl rfl ?_
    refine rf_getR (n := 85) rr_32_3 kk_35 hG dX5_settle_82 flX5_18 ki_5_3 sS_32 kk_32 rfl ?_
    refine rf_iload (n := 87) 4 dX5_settle_85 rfl rfl ?_
    refine rf_iald (n := 88) hG dX5_settle_87 sS_35 kk_35 rfl (fun v10 => ?_)
    refine rf_icmp_le (tg := 102) (n := 91) dX5_settle_88 rfl rfl (fun c12 => ?_) (fun c12 => ?_)
    · refine rf_mask (lc2 := [some (.ref 32), some (.int l1), some (.int l2), some (.int l3), none, none]) [true, true, true, true, false, false] rfl ?_
      exact pX5_settle_K102 hG _ _ _ r25 hr25 _
    · refine rf_aload_n (n := 92) 0 dX5_settle_91 rfl rfl rfl ?_
      refine rf_getR (n := 95) rr_32_3 kk_35 hG dX5_settle_92 flX5_18 ki_5_3 sS_32 kk_32 rfl ?_
      refine rf_iload (n := 97) 4 dX5_settle_95 rfl rfl ?_
      refine rf_iload (n := 99) 5 dX5_settle_97 rfl rfl ?_
      refine rf_iast (n := 100) hG dX5_settle_99 sS_35 kk_35 rfl (fun m11 => ?_)
      refine rf_iconst (n := 101) (1 : Int32) dX5_settle_100 cciconst_1 rfl ?_
      refine rf_istore_n (lc2 := [some (.ref 32), some (.int l1), some (.int (1 : Int32)), some (.int l3), some (.int v4), some (.int v8)]) (n := 102) 2 dX5_settle_101 rfl rfl (Nat.le_of_ble_eq_true rfl) rfl rfl ?_
      refine rf_mask (lc2 := [some (.ref 32), some (.int l1), some (.int (1 : Int32)), some (.int l3), none, none]) [true, true, true, true, false, false] rfl ?_
      exact pX5_settle_K102 hG _ _ _ r25 hr25 _
theorem pX5_settle_L25 {x : ax_X} {G : ax_G} (hG : ax_ok G) (l1 : Int32) (r10 : Int32 → ax_M → Option (Int32 × ax_M)) (hr10 : ∀ (a1 : Int32) (μ : ax_M), ax_Rf mX5_settle 2 x (ax_Z ax_jI x G) G 0 0 10 [some (.ref 32), some (.int a1), none, none, none, none] [] μ (r10 a1 μ)) (n : Nat) (a2 : Int32) (a3 : Int32) (μ : ax_M) : ax_Rf mX5_settle 2 x (ax_Z ax_jI x G) G 0 0 25 [some (.ref 32), some (.int l1), some (.int a2), some (.int a3), none, none] [] μ (ax_lp2 (fX5_settle_B25 l1 r10) n a2 a3 μ) :=
  rf_lp2 (P := fun a2 a3 μ t => ax_Rf mX5_settle 2 x (ax_Z ax_jI x G) G 0 0 25 [some (.ref 32), some (.int l1), some (.int a2), some (.int a3), none, none] [] μ t) (fun _ _ _ => rf_none) (fun rc hrc a2 a3 μ => pX5_settle_B25 hG l1 r10 hr10 rc hrc a2 a3 μ) n a2 a3 μ
def fX5_settle_B10 (r10 : Int32 → ax_M → Option (Int32 × ax_M)) (l1 : Int32) (μ : ax_M) : Option (Int32 × ax_M) :=
  (if (μ.1 2 13) < l1 then (some ((0 : Int32), μ)) else (ax_lp2 (fX5_settle_B25 l1 r10) ax_FU (0 : Int32) (0 : Int32) μ))
theorem pX5_settle_B10 {x : ax_X} {G : ax_G} (hG : ax_ok G) (r10 : Int32 → ax_M → Option (Int32 × ax_M)) (hr10 : ∀ (a1 : Int32) (μ : ax_M), ax_Rf mX5_settle 2 x (ax_Z ax_jI x G) G 0 0 10 [some (.ref 32), some (.int a1), none, none, none, none] [] μ (r10 a1 μ)) (l1 : Int32) (μ : ax_M) : ax_Rf mX5_settle 2 x (ax_Z ax_jI x G) G 0 0 10 [some (.ref 32), some (.int l1), none, none, none, none] [] μ (fX5_settle_B10 r10 l1 μ) := by
  unfold fX5_settle_B10
  refine rf_iload_n (n := 11) 1 dX5_settle_10 rfl rfl rfl ?_
  refine rf_aload_n (n := 12) 0 dX5_settle_11 rfl rfl rfl ?_
  refine rf_getR (n := 15) rr_32_0 kk_2 hG dX5_settle_12 flX5_24 ki_5_0 sS_32 kk_32 rfl ?_
  refine rf_getI (n := 18) hG dX5_settle_15 flX5_55 ki_1_13 sS_2 kk_2 rfl ?_
  refine rf_icmp_gt (tg := 120) (n := 21) dX5_settle_18 rfl rfl (fun c14 => ?_) (fun c14 => ?_)
  · refine rf_iconst (n := 121) (0 : Int32) dX5_settle_120 cciconst_0 rfl ?_
    exact rf_retB rfl (Or.inl rfl) dX5_settle_121
  · refine rf_iconst (n := 22) (0 : Int32) dX5_settle_21 cciconst_0 rfl ?_
    refine rf_istore_n (lc2 := [some (.ref 32), some (.int l1), some (.int (0 : Int32)), none, none, none]) (n := 23) 2 dX5_settle_22 rfl rfl (Nat.le_of_ble_eq_true rfl) rfl rfl ?_
    refine rf_iconst (n := 24) (0 : Int32) dX5_settle_23 cciconst_0 rfl ?_
    refine rf_istore_n (lc2 := [some (.ref 32), some (.int l1), some (.int (0 : Int32)), some (.int (0 : Int32)), none, none]) (n := 25) 3 dX5_settle_24 rfl rfl (Nat.le_of_ble_eq_true rfl) rfl rfl ?_
    exact pX5_settle_L25 hG _ r10 hr10 _ _ _ _
theorem pX5_settle_L10 {x : ax_X} {G : ax_G} (hG : ax_ok G) (n : Nat) (a1 : Int32) (μ : ax_M) : ax_Rf mX5_settle 2 x (ax_Z ax_jI x G) G 0 0 10 [some (.ref 32), some (.int a1), none, none, none, none] [] μ (ax_lp1 (fX5_settle_B10) n a1 μ) :=
  rf_lp1 (P := fun a1 μ t => ax_Rf mX5_settle 2 x (ax_Z ax_jI x G) G 0 0 10 [some (.ref 32), some (.int a1), none, none, none, none] [] μ t) (fun _ _ => rf_none) (fun rc hrc a1 μ => pX5_settle_B10 hG rc hrc a1 μ) n a1 μ
def fX5_settle (μ : ax_M) : Option (Int32 × ax_M) :=
  (ax_bd (fJ7_fill_53178 (0 : Int32) μ) (fun _ m2 => (ax_lp1 (fX5_settle_B10) ax_FU (0 : Int32) m2)))
theorem okX5_settle (μ : ax_M) : ax_Ok mX5_settle 2 ax_jI [.ref 32] μ (fX5_settle μ) := by
  refine ax_start (lc := [some (.ref 32), none, none, none, none, none]) 5 (by decide +kernel) rfl (Nat.le_of_ble_eq_true rfl) (fun x G hG => ?_)
  unfold fX5_settle
  refine rf_aload_n (n := 1) 0 dX5_settle_0 rfl rfl rfl ?_
  refine rf_getR (n := 4) rr_32_3 kk_35 hG dX5_settle_1 flX5_18 ki_5_3 sS_32 kk_32 rfl ?_
  refine rf_iconst (n := 5) (0 : Int32) dX5_settle_4 cciconst_0 rfl ?_
  refine rf_cS2V (n := 8) hG (okJ7_fill_53178 _ _) lSX5_49 hhJ7_fill_53178 dX5_settle_5 rfl (Nat.le_of_ble_eq_true rfl) (Nat.le_of_ble_eq_true rfl) (fun _ m2 => ?_)
  refine rf_iconst (n := 9) (0 : Int32) dX5_settle_8 cciconst_0 rfl ?_
  refine rf_istore_n (lc2 := [some (.ref 32), some (.int (0 : Int32)), none, none, none, none]) (n := 10) 1 dX5_settle_9 rfl rfl (Nat.le_of_ble_eq_true rfl) rfl rfl ?_
  exact pX5_settle_L10 hG _ _ _
def fJ7_fill_53178_1_B5 (l1 : Int32) (l3 : Int32) (r5 : Int32 → ax_M → Option (Unit × ax_M)) (l2 : Int32) (μ : ax_M) : Option (Unit × ax_M) :=
  (if l3 ≤ l2 then (some ((), μ)) else (Option.bind (ax_wr μ 36 10 l2 l1) (fun m1 => (r5 (l2 + (1 : Int32)) m1))))
theorem pJ7_fill_53178_1_B5 {x : ax_X} {G : ax_G} (hG : ax_ok G) (l1 : Int32) (l3 : Int32) (r5 : Int32 → ax_M → Option (Unit × ax_M)) (hr5 : ∀ (a2 : Int32) (μ : ax_M), ax_Rf mJ7_fill_53178 0 x (ax_Z ax_jV x G) G 0 0 5 [some (.ref 36), some (.int l1), some (.int a2), some (.int l3)] [] μ (r5 a2 μ)) (l2 : Int32) (μ : ax_M) : ax_Rf mJ7_fill_53178 0 x (ax_Z ax_jV x G) G 0 0 5 [some (.ref 36), some (.int l1), some (.int l2), some (.int l3)] [] μ (fJ7_fill_53178_1_B5 l1 l3 r5 l2 μ) := by
  unfold fJ7_fill_53178_1_B5
  refine rf_iload_n (n := 6) 2 dJ7_fill_53178_5 rfl rfl rfl ?_
  refine rf_iload_n (n := 7) 3 dJ7_fill_53178_6 rfl rfl rfl ?_
  refine rf_icmp_ge (tg := 20) (n := 10) dJ7_fill_53178_7 rfl rfl (fun c2 => ?_) (fun c2 => ?_)
  · exact rf_retV rfl dJ7_fill_53178_20
  · refine rf_aload_n (n := 11) 0 dJ7_fill_53178_10 rfl rfl rfl ?_
    refine rf_iload_n (n := 12) 2 dJ7_fill_53178_11 rfl rfl rfl ?_
    refine rf_iload_n (n := 13) 1 dJ7_fill_53178_12 rfl rfl rfl ?_
    refine rf_iast (n := 14) hG dJ7_fill_53178_13 sS_36 kk_36 rfl (fun m1 => ?_)
    refine rf_iinc (lc2 := [some (.ref 36), some (.int l1), some (.int (l2 + (1 : Int32))), some (.int l3)]) (n := 17) (w := (1 : Int32)) 2 dJ7_fill_53178_14 rfl rfl rfl (Nat.le_of_ble_eq_true rfl) rfl rfl ?_
    refine rf_goto (tg := 5) dJ7_fill_53178_17 rfl ?_
    exact hr5 _ _
theorem pJ7_fill_53178_1_L5 {x : ax_X} {G : ax_G} (hG : ax_ok G) (l1 : Int32) (l3 : Int32) (n : Nat) (a2 : Int32) (μ : ax_M) : ax_Rf mJ7_fill_53178 0 x (ax_Z ax_jV x G) G 0 0 5 [some (.ref 36), some (.int l1), some (.int a2), some (.int l3)] [] μ (ax_lp1 (fJ7_fill_53178_1_B5 l1 l3) n a2 μ) :=
  rf_lp1 (P := fun a2 μ t => ax_Rf mJ7_fill_53178 0 x (ax_Z ax_jV x G) G 0 0 5 [some (.ref 36), some (.int l1), some (.int a2), some (.int l3)] [] μ t) (fun _ _ => rf_none) (fun rc hrc a2 μ => pJ7_fill_53178_1_B5 hG l1 l3 rc hrc a2 μ) n a2 μ
def fJ7_fill_53178_1 (p1 : Int32) (μ : ax_M) : Option (Unit × ax_M) :=
  (ax_lp1 (fJ7_fill_53178_1_B5 p1 (10 : Int32)) ax_FU (0 : Int32) μ)
theorem okJ7_fill_53178_1 (p1 : Int32) (μ : ax_M) : ax_Ok mJ7_fill_53178 0 ax_jV [.ref 36, .int p1] μ (fJ7_fill_53178_1 p1 μ) := by
  refine ax_start (lc := [some (.ref 36), some (.int p1), none, none]) 2 (by decide +kernel) rfl (Nat.le_of_ble_eq_true rfl) (fun x G hG => ?_)
  unfold fJ7_fill_53178_1
  refine rf_iconst (n := 1) (0 : Int32) dJ7_fill_53178_0 cciconst_0 rfl ?_
  refine rf_istore_n (lc2 := [some (.ref 36), some (.int p1), some (.int (0 : Int32)), none]) (n := 2) 2 dJ7_fill_53178_1 rfl rfl (Nat.le_of_ble_eq_true rfl) rfl rfl ?_
  refine rf_aload_n (n := 3) 0 dJ7_fill_53178_2 rfl rfl rfl ?_
  refine rf_alen1 (n := 4) (v := (10 : Int32)) hG dJ7_fill_53178_3 sS_36 rfl kk_36 rfl ?_
  refine rf_istore_n (lc2 := [some (.ref 36), some (.int p1), some (.int (0 : Int32)), some (.int (10 : Int32))]) (n := 5) 3 dJ7_fill_53178_4 rfl rfl (Nat.le_of_ble_eq_true rfl) rfl rfl ?_
  exact pJ7_fill_53178_1_L5 hG _ _ _ _ _
def fX1_gather_K107 (l4 : Int32) (r62 : Int32 → ax_M → Option (Unit × ax_M)) (μ : ax_M) : Option (Unit × ax_M) :=
  (r62 (l4 + (1 : Int32)) μ)
theorem pX1_gather_K107 {x : ax_X} {G : ax_G} (hG : ax_ok G) (l4 : Int32) (r62 : Int32 → ax_M → Option (Unit × ax_M)) (hr62 : ∀ (a4 : Int32) (μ : ax_M), ax_Rf mX1_gather 1 x (ax_Z ax_jV x G) G 0 0 62 [some (.ref 2), none, none, some (.ref 36), some (.int a4)] [] μ (r62 a4 μ)) (μ : ax_M) : ax_Rf mX1_gather 1 x (ax_Z ax_jV x G) G 0 0 107 [some (.ref 2), none, none, some (.ref 36), some (.int l4)] [] μ (fX1_gather_K107 l4 r62 μ) := by
  unfold fX1_gather_K107
  refine rf_iinc (lc2 := [some (.ref 2), none, none, some (.ref 36), some (.int (l4 + (1 : Int32)))]) (n := 110) (w := (1 : Int32)) 4 dX1_gather_107 rfl rfl rfl (Nat.le_of_ble_eq_true rfl) rfl rfl ?_
  refine rf_goto (tg := 62) dX1_gather_110 rfl ?_
  exact hr62 _ _
def fX1_gather_K106 (l4 : Int32) (s1 : Int32) (s2 : Int32) (r62 : Int32 → ax_M → Option (Unit × ax_M)) (μ : ax_M) : Option (Unit × ax_M) :=
  (Option.bind (ax_wr μ 36 10 s1 s2) (fun m6 => (fX1_gather_K107 l4 r62 m6)))
theorem pX1_gather_K106 {x : ax_X} {G : ax_G} (hG : ax_ok G) (l4 : Int32) (s1 : Int32) (s2 : Int32) (r62 : Int32 → ax_M → Option (Unit × ax_M)) (hr62 : ∀ (a4 : Int32) (μ : ax_M), ax_Rf mX1_gather 1 x (ax_Z ax_jV x G) G 0 0 62 [some (.ref 2), none, none, some (.ref 36), some (.int a4)] [] μ (r62 a4 μ)) (μ : ax_M) : ax_Rf mX1_gather 1 x (ax_Z ax_jV x G) G 0 0 106 [some (.ref 2), none, none, some (.ref 36), some (.int l4)] [.int s2, .int s1, .ref 36] μ (fX1_gather_K106 l4 s1 s2 r62 μ) := by
  unfold fX1_gather_K106
  refine rf_iast (n := 107) hG dX1_gather_106 sS_36 kk_36 rfl (fun m6 => ?_)
  exact pX1_gather_K107 hG _ r62 hr62 _
def fX1_gather_B62 (r62 : Int32 → ax_M → Option (Unit × ax_M)) (l4 : Int32) (μ : ax_M) : Option (Unit × ax_M) :=
  (if (μ.1 2 13) ≤ l4 then (some ((), μ)) else (Option.bind (ax_rd μ 36 10 l4) (fun v3 => (if v3 = (-2147483648 : Int32) then (ax_bd (fX1_isFlop l4 μ) (fun v4 m5 => (if v4 = 0 then (fX1_gather_K106 l4 l4 (0 : Int32) r62 m5) else (Option.bind (ax_rd m5 8 10 l4) (fun v7 => (fX1_gather_K106 l4 l4 ((-64 : Int32) * v7) r62 m5)))))) else (fX1_gather_K107 l4 r62 μ)))))
theorem pX1_gather_B62 {x : ax_X} {G : ax_G} (hG : ax_ok G) (r62 : Int32 → ax_M → Option (Unit × ax_M)) (hr62 : ∀ (a4 : Int32) (μ : ax_M), ax_Rf mX1_gather 1 x (ax_Z ax_jV x G) G 0 0 62 [some (.ref 2), none, none, some (.ref 36), some (.int a4)] [] μ (r62 a4 μ)) (l4 : Int32) (μ : ax_M) : ax_Rf mX1_gather 1 x (ax_Z ax_jV x G) G 0 0 62 [some (.ref 2), none, none, some (.ref 36), some (.int l4)] [] μ (fX1_gather_B62 r62 l4 μ) := by
  unfold fX1_gather_B62
  refine rf_iload (n := 64) 4 dX1_gather_62 rfl rfl ?_
  refine rf_aload_n (n := 65) 0 dX1_gather_64 rfl rfl rfl ?_
  refine rf_getI (n := 68) hG dX1_gather_65 flX1_55 ki_1_13 sS_2 kk_2 rfl ?_
  refine rf_icmp_ge (tg := 113) (n := 71) dX1_gather_68 rfl rfl (fun c10 => ?_) (fun c10 => ?_)
  · exact rf_retV rfl dX1_gather_113
  · refine rf_aload_n (n := 72) 3 dX1_gather_71 rfl rfl rfl ?_
    refine rf_iload (n := 74) 4 dX1_gather_72 rfl rfl ?_
    refine rf_iald (n := 75) hG dX1_gather_74 sS_36 kk_36 rfl (fun v3 => ?_)
    refine rf_ldc (n := 77) dX1_gather_75 ctX1_83 rfl ?_
    refine rf_icmp_ne (tg := 107) (n := 80) dX1_gather_77 rfl rfl (fun c9 => ?_) (fun c9 => ?_)
    · exact pX1_gather_K107 hG _ r62 hr62 _
    · refine rf_aload_n (n := 81) 3 dX1_gather_80 rfl rfl rfl ?_
      refine rf_iload (n := 83) 4 dX1_gather_81 rfl rfl ?_
      refine rf_aload_n (n := 84) 0 dX1_gather_83 rfl rfl rfl ?_
      refine rf_iload (n := 86) 4 dX1_gather_84 rfl rfl ?_
      refine rf_cV1I (n := 89) hG (okX1_isFlop _ _) lVX1_96 hhX1_isFlop kk_2 sS_2 ⟨_, rfl, rfl⟩ dX1_gather_86 rfl (Nat.le_of_ble_eq_true rfl) (Nat.le_of_ble_eq_true rfl) (fun v4 m5 => ?_)
      refine rf_if_eq (tg := 105) (n := 92) dX1_gather_89 rfl rfl (fun c8 => ?_) (fun c8 => ?_)
      · refine rf_iconst (n := 106) (0 : Int32) dX1_gather_105 cciconst_0 rfl ?_
        exact pX1_gather_K106 hG _ _ _ r62 hr62 _
      · refine rf_bipush (n := 94) (-64 : Int32) dX1_gather_92 ccbipush_m64 rfl ?_
        refine rf_aload_n (n := 95) 0 dX1_gather_94 rfl rfl rfl ?_
        refine rf_getR (n := 98) rr_2_5 kk_8 hG dX1_gather_95 flX1_27 ki_1_5 sS_2 kk_2 rfl ?_
        refine rf_iload (n := 100) 4 dX1_gather_98 rfl rfl ?_
        refine rf_iald (n := 101) hG dX1_gather_100 sS_8 kk_8 rfl (fun v7 => ?_)
        refine rf_imul (n := 102) dX1_gather_101 rfl ?_
        refine rf_goto (tg := 106) dX1_gather_102 rfl ?_
        exact pX1_gather_K106 hG _ _ _ r62 hr62 _
theorem pX1_gather_L62 {x : ax_X} {G : ax_G} (hG : ax_ok G) (n : Nat) (a4 : Int32) (μ : ax_M) : ax_Rf mX1_gather 1 x (ax_Z ax_jV x G) G 0 0 62 [some (.ref 2), none, none, some (.ref 36), some (.int a4)] [] μ (ax_lp1 (fX1_gather_B62) n a4 μ) :=
  rf_lp1 (P := fun a4 μ t => ax_Rf mX1_gather 1 x (ax_Z ax_jV x G) G 0 0 62 [some (.ref 2), none, none, some (.ref 36), some (.int a4)] [] μ t) (fun _ _ => rf_none) (fun rc hrc a4 μ => pX1_gather_B62 hG rc hrc a4 μ) n a4 μ
def fX1_gather_B9 (r9 : Int32 → ax_M → Option (Unit × ax_M)) (l4 : Int32) (μ : ax_M) : Option (Unit × ax_M) :=
  (if (μ.1 2 14) ≤ l4 then (ax_lp1 (fX1_gather_B62) ax_FU (0 : Int32) μ) else (Option.bind (ax_rd μ 12 24 l4) (fun v11 => (Option.bind (ax_rd μ 12 24 l4) (fun v12 => (Option.bind (ax_rd μ 36 10 v12) (fun v13 => (Option.bind (ax_rd μ 11 24 l4) (fun v14 => (Option.bind (ax_rd μ 35 10 v14) (fun v15 => (Option.bind (ax_rd μ 33 24 l4) (fun v16 => (Option.bind (ax_wr μ 36 10 v11 (ax_mx v13 (v15 + v16))) (fun m17 => (r9 (l4 + (1 : Int32)) m17))))))))))))))))
theorem pX1_gather_B9 {x : ax_X} {G : ax_G} (hG : ax_ok G) (r9 : Int32 → ax_M → Option (Unit × ax_M)) (hr9 : ∀ (a4 : Int32) (μ : ax_M), ax_Rf mX1_gather 1 x (ax_Z ax_jV x G) G 0 0 9 [some (.ref 2), some (.ref 35), some (.ref 33), some (.ref 36), some (.int a4)] [] μ (r9 a4 μ)) (l4 : Int32) (μ : ax_M) : ax_Rf mX1_gather 1 x (ax_Z ax_jV x G) G 0 0 9 [some (.ref 2), some (.ref 35), some (.ref 33), some (.ref 36), some (.int l4)] [] μ (fX1_gather_B9 r9 l4 μ) := by
  unfold fX1_gather_B9
  refine rf_iload (n := 11) 4 dX1_gather_9 rfl rfl ?_
  refine rf_aload_n (n := 12) 0 dX1_gather_11 rfl rfl rfl ?_
  refine rf_getI (n := 15) hG dX1_gather_12 flX1_58 ki_1_14 sS_2 kk_2 rfl ?_
  refine rf_icmp_ge (tg := 59) (n := 18) dX1_gather_15 rfl rfl (fun c18 => ?_) (fun c18 => ?_)
  · refine rf_iconst (n := 60) (0 : Int32) dX1_gather_59 cciconst_0 rfl ?_
    refine rf_istore (lc2 := [some (.ref 2), some (.ref 35), some (.ref 33), some (.ref 36), some (.int (0 : Int32))]) (n := 62) 4 dX1_gather_60 rfl (Nat.le_of_ble_eq_true rfl) rfl rfl ?_
    refine rf_mask (lc2 := [some (.ref 2), none, none, some (.ref 36), some (.int (0 : Int32))]) [true, false, false, true, true] rfl ?_
    exact pX1_gather_L62 hG _ _ _
  · refine rf_aload_n (n := 19) 3 dX1_gather_18 rfl rfl rfl ?_
    refine rf_aload_n (n := 20) 0 dX1_gather_19 rfl rfl rfl ?_
    refine rf_getR (n := 23) rr_2_9 kk_12 hG dX1_gather_20 flX1_39 ki_1_9 sS_2 kk_2 rfl ?_
    refine rf_iload (n := 25) 4 dX1_gather_23 rfl rfl ?_
    refine rf_iald (n := 26) hG dX1_gather_25 sS_12 kk_12 rfl (fun v11 => ?_)
    refine rf_aload_n (n := 27) 3 dX1_gather_26 rfl rfl rfl ?_
    refine rf_aload_n (n := 28) 0 dX1_gather_27 rfl rfl rfl ?_
    refine rf_getR (n := 31) rr_2_9 kk_12 hG dX1_gather_28 flX1_39 ki_1_9 sS_2 kk_2 rfl ?_
    refine rf_iload (n := 33) 4 dX1_gather_31 rfl rfl ?_
    refine rf_iald (n := 34) hG dX1_gather_33 sS_12 kk_12 rfl (fun v12 => ?_)
    refine rf_iald (n := 35) hG dX1_gather_34 sS_36 kk_36 rfl (fun v13 => ?_)
    refine rf_aload_n (n := 36) 1 dX1_gather_35 rfl rfl rfl ?_
    refine rf_aload_n (n := 37) 0 dX1_gather_36 rfl rfl rfl ?_
    refine rf_getR (n := 40) rr_2_8 kk_11 hG dX1_gather_37 flX1_36 ki_1_8 sS_2 kk_2 rfl ?_
    refine rf_iload (n := 42) 4 dX1_gather_40 rfl rfl ?_
    refine rf_iald (n := 43) hG dX1_gather_42 sS_11 kk_11 rfl (fun v14 => ?_)
    refine rf_iald (n := 44) hG dX1_gather_43 sS_35 kk_35 rfl (fun v15 => ?_)
    refine rf_aload_n (n := 45) 2 dX1_gather_44 rfl rfl rfl ?_
    refine rf_iload (n := 47) 4 dX1_gather_45 rfl rfl ?_
    refine rf_iald (n := 48) hG dX1_gather_47 sS_33 kk_33 rfl (fun v16 => ?_)
    refine rf_iadd (n := 49) dX1_gather_48 rfl ?_
    refine rf_max (n := 52) dX1_gather_49 mxX1_90 ax_maxw (Nat.le_of_ble_eq_true rfl) (Nat.le_of_ble_eq_true rfl) rfl ?_
    refine rf_iast (n := 53) hG dX1_gather_52 sS_36 kk_36 rfl (fun m17 => ?_)
    refine rf_iinc (lc2 := [some (.ref 2), some (.ref 35), some (.ref 33), some (.ref 36), some (.int (l4 + (1 : Int32)))]) (n := 56) (w := (1 : Int32)) 4 dX1_gather_53 rfl rfl rfl (Nat.le_of_ble_eq_true rfl) rfl rfl ?_
    refine rf_goto (tg := 9) dX1_gather_56 rfl ?_
    exact hr9 _ _
theorem pX1_gather_L9 {x : ax_X} {G : ax_G} (hG : ax_ok G) (n : Nat) (a4 : Int32) (μ : ax_M) : ax_Rf mX1_gather 1 x (ax_Z ax_jV x G) G 0 0 9 [some (.ref 2), some (.ref 35), some (.ref 33), some (.ref 36), some (.int a4)] [] μ (ax_lp1 (fX1_gather_B9) n a4 μ) :=
  rf_lp1 (P := fun a4 μ t => ax_Rf mX1_gather 1 x (ax_Z ax_jV x G) G 0 0 9 [some (.ref 2), some (.ref 35), some (.ref 33), some (.ref 36), some (.int a4)] [] μ t) (fun _ _ => rf_none) (fun rc hrc a4 μ => pX1_gather_B9 hG rc hrc a4 μ) n a4 μ
def fX1_gather (μ : ax_M) : Option (Unit × ax_M) :=
  (ax_bd (fJ7_fill_53178_1 (-2147483648 : Int32) μ) (fun _ m2 => (ax_lp1 (fX1_gather_B9) ax_FU (0 : Int32) m2)))
theorem okX1_gather (μ : ax_M) : ax_Ok mX1_gather 1 ax_jV [.ref 2, .ref 35, .ref 33, .ref 36] μ (fX1_gather μ) := by
  refine ax_start (lc := [some (.ref 2), some (.ref 35), some (.ref 33), some (.ref 36), none]) 1 (by decide +kernel) rfl (Nat.le_of_ble_eq_true rfl) (fun x G hG => ?_)
  unfold fX1_gather
  refine rf_aload_n (n := 1) 3 dX1_gather_0 rfl rfl rfl ?_
  refine rf_ldc (n := 3) dX1_gather_1 ctX1_83 rfl ?_
  refine rf_cS2V (n := 6) hG (okJ7_fill_53178_1 _ _) lSX1_84 hhJ7_fill_53178 dX1_gather_3 rfl (Nat.le_of_ble_eq_true rfl) (Nat.le_of_ble_eq_true rfl) (fun _ m2 => ?_)
  refine rf_iconst (n := 7) (0 : Int32) dX1_gather_6 cciconst_0 rfl ?_
  refine rf_istore (lc2 := [some (.ref 2), some (.ref 35), some (.ref 33), some (.ref 36), some (.int (0 : Int32))]) (n := 9) 4 dX1_gather_7 rfl (Nat.le_of_ble_eq_true rfl) rfl rfl ?_
  exact pX1_gather_L9 hG _ _ _
def fX5_isForever_K58 (μ : ax_M) : Option (Int32 × ax_M) :=
  (some (vp_nar .boolean (μ.1 32 6), μ))
theorem pX5_isForever_K58 {x : ax_X} {G : ax_G} (hG : ax_ok G) (μ : ax_M) : ax_Rf mX5_isForever 3 x (ax_Z ax_jI x G) G 0 0 58 [some (.ref 32)] [] μ (fX5_isForever_K58 μ) := by
  unfold fX5_isForever_K58
  refine rf_aload_n (n := 59) 0 dX5_isForever_58 rfl rfl rfl ?_
  refine rf_getI (n := 62) hG dX5_isForever_59 flX5_42 ki_5_6 sS_32 kk_32 rfl ?_
  exact rf_retZ rfl dX5_isForever_62
def fX5_isForever_K31 (s1 : Int32) (μ : ax_M) : Option (Int32 × ax_M) :=
  (if s1 = 0 ∨ s1 = 1 then (ax_let (ax_wi μ 32 6 s1) (fun m5 => (ax_bd (fX1_gather m5) (fun _ m7 => (ax_let (ax_wi m7 32 5 (1 : Int32)) (fun m8 => (fX5_isForever_K58 m8))))))) else none)
theorem pX5_isForever_K31 {x : ax_X} {G : ax_G} (hG : ax_ok G) (s1 : Int32) (μ : ax_M) : ax_Rf mX5_isForever 3 x (ax_Z ax_jI x G) G 0 0 31 [some (.ref 32)] [.int s1, .ref 32] μ (fX5_isForever_K31 s1 μ) := by
  unfold fX5_isForever_K31
  refine rf_pfZc (n := 34) hG rfl dX5_isForever_31 flX5_42 ki_5_6 nf_5_6 sS_32 kk_32 rfl (fun m5 => ?_)
  refine rf_aload_n (n := 35) 0 dX5_isForever_34 rfl rfl rfl ?_
  refine rf_getR (n := 38) rr_32_0 kk_2 hG dX5_isForever_35 flX5_24 ki_5_0 sS_32 kk_32 rfl ?_
  refine rf_aload_n (n := 39) 0 dX5_isForever_38 rfl rfl rfl ?_
  refine rf_getR (n := 42) rr_32_3 kk_35 hG dX5_isForever_39 flX5_18 ki_5_3 sS_32 kk_32 rfl ?_
  refine rf_aload_n (n := 43) 0 dX5_isForever_42 rfl rfl rfl ?_
  refine rf_getR (n := 46) rr_32_1 kk_33 hG dX5_isForever_43 flX5_9 ki_5_1 sS_32 kk_32 rfl ?_
  refine rf_aload_n (n := 47) 0 dX5_isForever_46 rfl rfl rfl ?_
  refine rf_getR (n := 50) rr_32_4 kk_36 hG dX5_isForever_47 flX5_21 ki_5_4 sS_32 kk_32 rfl ?_
  refine rf_cV3V (n := 53) hG (okX1_gather _) lVX5_45 hhX1_gather kk_2 sS_2 ⟨_, rfl, rfl⟩ dX5_isForever_50 rfl (Nat.le_of_ble_eq_true rfl) (Nat.le_of_ble_eq_true rfl) (fun _ m7 => ?_)
  refine rf_aload_n (n := 54) 0 dX5_isForever_53 rfl rfl rfl ?_
  refine rf_iconst (n := 55) (1 : Int32) dX5_isForever_54 cciconst_1 rfl ?_
  refine rf_pfZ (n := 58) hG rfl (Or.inr rfl) dX5_isForever_55 flX5_28 ki_5_5 nf_5_5 sS_32 kk_32 rfl (fun m8 => ?_)
  exact pX5_isForever_K58 hG _
def fX5_isForever (μ : ax_M) : Option (Int32 × ax_M) :=
  (if (μ.1 32 5) = 0 then (ax_bd (fX1_weighPaths μ) (fun _ m2 => (ax_bd (fX5_settle m2) (fun v3 m4 => (if v3 = 0 then (fX5_isForever_K31 (1 : Int32) m4) else (fX5_isForever_K31 (0 : Int32) m4)))))) else (fX5_isForever_K58 μ))
theorem okX5_isForever (μ : ax_M) : ax_Ok mX5_isForever 3 ax_jI [.ref 32] μ (fX5_isForever μ) := by
  refine ax_start (lc := [some (.ref 32)]) 0 (by decide +kernel) rfl (Nat.le_of_ble_eq_true rfl) (fun x G hG => ?_)
  unfold fX5_isForever
  refine rf_aload_n (n := 1) 0 dX5_isForever_0 rfl rfl rfl ?_
  refine rf_getI (n := 4) hG dX5_isForever_1 flX5_28 ki_5_5 sS_32 kk_32 rfl ?_
  refine rf_if_ne (tg := 58) (n := 7) dX5_isForever_4 rfl rfl (fun c10 => ?_) (fun c10 => ?_)
  · exact pX5_isForever_K58 hG _
  · refine rf_aload_n (n := 8) 0 dX5_isForever_7 rfl rfl rfl ?_
    refine rf_getR (n := 11) rr_32_0 kk_2 hG dX5_isForever_8 flX5_24 ki_5_0 sS_32 kk_32 rfl ?_
    refine rf_aload_n (n := 12) 0 dX5_isForever_11 rfl rfl rfl ?_
    refine rf_getR (n := 15) rr_32_1 kk_33 hG dX5_isForever_12 flX5_9 ki_5_1 sS_32 kk_32 rfl ?_
    refine rf_cV1V (n := 18) hG (okX1_weighPaths _) lVX5_32 hhX1_weighPaths kk_2 sS_2 ⟨_, rfl, rfl⟩ dX5_isForever_15 rfl (Nat.le_of_ble_eq_true rfl) (Nat.le_of_ble_eq_true rfl) (fun _ m2 => ?_)
    refine rf_aload_n (n := 19) 0 dX5_isForever_18 rfl rfl rfl ?_
    refine rf_aload_n (n := 20) 0 dX5_isForever_19 rfl rfl rfl ?_
    refine rf_cV0I (n := 23) hG (okX5_settle _) lVX5_38 hhX5_settle kk_32 sS_32 ⟨_, rfl, rfl⟩ dX5_isForever_20 rfl (Nat.le_of_ble_eq_true rfl) (Nat.le_of_ble_eq_true rfl) (fun v3 m4 => ?_)
    refine rf_if_ne (tg := 30) (n := 26) dX5_isForever_23 rfl rfl (fun c9 => ?_) (fun c9 => ?_)
    · refine rf_iconst (n := 31) (0 : Int32) dX5_isForever_30 cciconst_0 rfl ?_
      exact pX5_isForever_K31 hG _ _
    · refine rf_iconst (n := 27) (1 : Int32) dX5_isForever_26 cciconst_1 rfl ?_
      refine rf_goto (tg := 31) dX5_isForever_27 rfl ?_
      exact pX5_isForever_K31 hG _ _
def fX8_leaves_K41 (s0 : Int64) (μ : ax_M) : Option (Int64 × ax_M) :=
  (some (s0, μ))
theorem pX8_leaves_K41 {x : ax_X} {G : ax_G} (hG : ax_ok G) (s0 : Int64) (μ : ax_M) : ax_Rf mX8_leaves 4 x (ax_Z ax_jL x G) G 0 0 41 [none, none] [.long s0] μ (fX8_leaves_K41 s0 μ) := by
  unfold fX8_leaves_K41
  exact rf_retL rfl dX8_leaves_41
def fX8_leaves (p1 : Int32) (μ : ax_M) : Option (Int64 × ax_M) :=
  (ax_bd (fX1_hasCell p1 μ) (fun v1 m2 => (if v1 = 0 then (some ((-1 : Int64), m2)) else (ax_bd (fX5_isForever m2) (fun v3 m4 => (if v3 = 0 then (Option.bind (ax_rd m4 35 10 p1) (fun v5 => (fX8_leaves_K41 (Int32.toInt64 v5) m4))) else (fX8_leaves_K41 (-2 : Int64) m4)))))))
theorem okX8_leaves (p1 : Int32) (μ : ax_M) : ax_Ok mX8_leaves 4 ax_jL [.ref 0, .int p1] μ (fX8_leaves p1 μ) := by
  refine ax_start (lc := [some (.ref 0), some (.int p1)]) 0 (by decide +kernel) rfl (Nat.le_of_ble_eq_true rfl) (fun x G hG => ?_)
  unfold fX8_leaves
  refine rf_aload_n (n := 1) 0 dX8_leaves_0 rfl rfl rfl ?_
  refine rf_getR (n := 4) rr_0_2 kk_2 hG dX8_leaves_1 flX8_16 ki_8_2 sS_0 kk_0 rfl ?_
  refine rf_iload_n (n := 5) 1 dX8_leaves_4 rfl rfl rfl ?_
  refine rf_cV1I (n := 8) hG (okX1_hasCell _ _) lVX8_152 hhX1_hasCell kk_2 sS_2 ⟨_, rfl, rfl⟩ dX8_leaves_5 rfl (Nat.le_of_ble_eq_true rfl) (Nat.le_of_ble_eq_true rfl) (fun v1 m2 => ?_)
  refine rf_if_ne (tg := 15) (n := 11) dX8_leaves_8 rfl rfl (fun c7 => ?_) (fun c7 => ?_)
  · refine rf_aload_n (n := 16) 0 dX8_leaves_15 rfl rfl rfl ?_
    refine rf_getR (n := 19) rr_0_5 kk_32 hG dX8_leaves_16 flX8_41 ki_8_5 sS_0 kk_0 rfl ?_
    refine rf_cV0I (n := 22) hG (okX5_isForever _) lVX8_216 hhX5_isForever kk_32 sS_32 ⟨_, rfl, rfl⟩ dX8_leaves_19 rfl (Nat.le_of_ble_eq_true rfl) (Nat.le_of_ble_eq_true rfl) (fun v3 m4 => ?_)
    refine rf_if_eq (tg := 31) (n := 25) dX8_leaves_22 rfl rfl (fun c6 => ?_) (fun c6 => ?_)
    · refine rf_aload_n (n := 32) 0 dX8_leaves_31 rfl rfl rfl ?_
      refine rf_getR (n := 35) rr_0_5 kk_32 hG dX8_leaves_32 flX8_41 ki_8_5 sS_0 kk_0 rfl ?_
      refine rf_getR (n := 38) rr_32_3 kk_35 hG dX8_leaves_35 flX8_222 ki_5_3 sS_32 kk_32 rfl ?_
      refine rf_iload_n (n := 39) 1 dX8_leaves_38 rfl rfl rfl ?_
      refine rf_iald (n := 40) hG dX8_leaves_39 sS_35 kk_35 rfl (fun v5 => ?_)
      refine rf_i2l (n := 41) dX8_leaves_40 rfl ?_
      refine rf_mask (lc2 := [none, none]) [false, false] rfl ?_
      exact pX8_leaves_K41 hG _ _
    · refine rf_ldc2 (n := 28) dX8_leaves_25 clX8_220 rfl ?_
      refine rf_goto (tg := 41) dX8_leaves_28 rfl ?_
      refine rf_mask (lc2 := [none, none]) [false, false] rfl ?_
      exact pX8_leaves_K41 hG _ _
  · refine rf_ldc2 (n := 14) dX8_leaves_11 clX8_214 rfl ?_
    exact rf_retL rfl dX8_leaves_14
def fX9_rest_B2 (r2 : Int32 → ax_M → Option (Unit × ax_M)) (l1 : Int32) (μ : ax_M) : Option (Unit × ax_M) :=
  (ax_bd (fX9_cells μ) (fun v1 m2 => (if v1 ≤ l1 then (some ((), m2)) else (Option.bind (ax_wrl m2 76 10 l1 (0 : Int64)) (fun m3 => (Option.bind (ax_wrl m3 77 10 l1 (0 : Int64)) (fun m4 => (r2 (l1 + (1 : Int32)) m4))))))))
theorem pX9_rest_B2 {x : ax_X} {G : ax_G} (hG : ax_ok G) (r2 : Int32 → ax_M → Option (Unit × ax_M)) (hr2 : ∀ (a1 : Int32) (μ : ax_M), ax_Rf mX9_rest 1 x (ax_Z ax_jV x G) G 0 0 2 [some (.ref 57), some (.int a1)] [] μ (r2 a1 μ)) (l1 : Int32) (μ : ax_M) : ax_Rf mX9_rest 1 x (ax_Z ax_jV x G) G 0 0 2 [some (.ref 57), some (.int l1)] [] μ (fX9_rest_B2 r2 l1 μ) := by
  unfold fX9_rest_B2
  refine rf_iload_n (n := 3) 1 dX9_rest_2 rfl rfl rfl ?_
  refine rf_aload_n (n := 4) 0 dX9_rest_3 rfl rfl rfl ?_
  refine rf_cV0I (n := 7) hG (okX9_cells _) lVX9_233 hhX9_cells kk_57 sS_57 ⟨_, rfl, rfl⟩ dX9_rest_4 rfl (Nat.le_of_ble_eq_true rfl) (Nat.le_of_ble_eq_true rfl) (fun v1 m2 => ?_)
  refine rf_icmp_ge (tg := 30) (n := 10) dX9_rest_7 rfl rfl (fun c5 => ?_) (fun c5 => ?_)
  · exact rf_retV rfl dX9_rest_30
  · refine rf_aload_n (n := 11) 0 dX9_rest_10 rfl rfl rfl ?_
    refine rf_getR (n := 14) rr_57_32 kk_76 hG dX9_rest_11 flX9_69 ki_9_32 sS_57 kk_57 rfl ?_
    refine rf_iload_n (n := 15) 1 dX9_rest_14 rfl rfl rfl ?_
    refine rf_lconst (n := 16) (0 : Int64) dX9_rest_15 rfl rfl ?_
    refine rf_last (n := 17) hG dX9_rest_16 sS_76 kk_76 rfl (fun m3 => ?_)
    refine rf_aload_n (n := 18) 0 dX9_rest_17 rfl rfl rfl ?_
    refine rf_getR (n := 21) rr_57_33 kk_77 hG dX9_rest_18 flX9_73 ki_9_33 sS_57 kk_57 rfl ?_
    refine rf_iload_n (n := 22) 1 dX9_rest_21 rfl rfl rfl ?_
    refine rf_lconst (n := 23) (0 : Int64) dX9_rest_22 rfl rfl ?_
    refine rf_last (n := 24) hG dX9_rest_23 sS_77 kk_77 rfl (fun m4 => ?_)
    refine rf_iinc (lc2 := [some (.ref 57), some (.int (l1 + (1 : Int32)))]) (n := 27) (w := (1 : Int32)) 1 dX9_rest_24 rfl rfl rfl (Nat.le_of_ble_eq_true rfl) rfl rfl ?_
    refine rf_goto (tg := 2) dX9_rest_27 rfl ?_
    exact hr2 _ _
theorem pX9_rest_L2 {x : ax_X} {G : ax_G} (hG : ax_ok G) (n : Nat) (a1 : Int32) (μ : ax_M) : ax_Rf mX9_rest 1 x (ax_Z ax_jV x G) G 0 0 2 [some (.ref 57), some (.int a1)] [] μ (ax_lp1 (fX9_rest_B2) n a1 μ) :=
  rf_lp1 (P := fun a1 μ t => ax_Rf mX9_rest 1 x (ax_Z ax_jV x G) G 0 0 2 [some (.ref 57), some (.int a1)] [] μ t) (fun _ _ => rf_none) (fun rc hrc a1 μ => pX9_rest_B2 hG rc hrc a1 μ) n a1 μ
def fX9_rest (μ : ax_M) : Option (Unit × ax_M) :=
  (ax_lp1 (fX9_rest_B2) ax_FU (0 : Int32) μ)
theorem okX9_rest (μ : ax_M) : ax_Ok mX9_rest 1 ax_jV [.ref 57] μ (fX9_rest μ) := by
  refine ax_start (lc := [some (.ref 57), none]) 1 (by decide +kernel) rfl (Nat.le_of_ble_eq_true rfl) (fun x G hG => ?_)
  unfold fX9_rest
  refine rf_iconst (n := 1) (0 : Int32) dX9_rest_0 cciconst_0 rfl ?_
  refine rf_istore_n (lc2 := [some (.ref 57), some (.int (0 : Int32))]) (n := 2) 1 dX9_rest_1 rfl rfl (Nat.le_of_ble_eq_true rfl) rfl rfl ?_
  exact pX9_rest_L2 hG _ _ _
def fX9_isFlop_K18 (s0 : Int32) (μ : ax_M) : Option (Int32 × ax_M) :=
  (some (vp_nar .boolean s0, μ))
theorem pX9_isFlop_K18 {x : ax_X} {G : ax_G} (hG : ax_ok G) (s0 : Int32) (μ : ax_M) : ax_Rf mX9_isFlop 0 x (ax_Z ax_jI x G) G 0 0 18 [none, none] [.int s0] μ (fX9_isFlop_K18 s0 μ) := by
  unfold fX9_isFlop_K18
  exact rf_retZ rfl dX9_isFlop_18
def fX9_isFlop (p1 : Int32) (μ : ax_M) : Option (Int32 × ax_M) :=
  (Option.bind (ax_rd μ 74 68 ((9 : Int32) + p1)) (fun v1 => (if v1 = (1 : Int32) then (fX9_isFlop_K18 (1 : Int32) μ) else (fX9_isFlop_K18 (0 : Int32) μ))))
theorem okX9_isFlop (p1 : Int32) (μ : ax_M) : ax_Ok mX9_isFlop 0 ax_jI [.ref 57, .int p1] μ (fX9_isFlop p1 μ) := by
  refine ax_start (lc := [some (.ref 57), some (.int p1)]) 0 (by decide +kernel) rfl (Nat.le_of_ble_eq_true rfl) (fun x G hG => ?_)
  unfold fX9_isFlop
  refine rf_aload_n (n := 1) 0 dX9_isFlop_0 rfl rfl rfl ?_
  refine rf_getR (n := 4) rr_57_28 kk_74 hG dX9_isFlop_1 flX9_63 ki_9_28 sS_57 kk_57 rfl ?_
  refine rf_bipush (n := 6) (9 : Int32) dX9_isFlop_4 ccbipush_9 rfl ?_
  refine rf_iload_n (n := 7) 1 dX9_isFlop_6 rfl rfl rfl ?_
  refine rf_iadd (n := 8) dX9_isFlop_7 rfl ?_
  refine rf_iald (n := 9) hG dX9_isFlop_8 sS_74 kk_74 rfl (fun v1 => ?_)
  refine rf_iconst (n := 10) (1 : Int32) dX9_isFlop_9 cciconst_1 rfl ?_
  refine rf_icmp_ne (tg := 17) (n := 13) dX9_isFlop_10 rfl rfl (fun c2 => ?_) (fun c2 => ?_)
  · refine rf_iconst (n := 18) (0 : Int32) dX9_isFlop_17 cciconst_0 rfl ?_
    refine rf_mask (lc2 := [none, none]) [false, false] rfl ?_
    exact pX9_isFlop_K18 hG _ _
  · refine rf_iconst (n := 14) (1 : Int32) dX9_isFlop_13 cciconst_1 rfl ?_
    refine rf_goto (tg := 18) dX9_isFlop_14 rfl ?_
    refine rf_mask (lc2 := [none, none]) [false, false] rfl ?_
    exact pX9_isFlop_K18 hG _ _
def fX9_periodLong (μ : ax_M) : Option (Int64 × ax_M) :=
  (Option.bind (ax_rd μ 74 68 (0 : Int32)) (fun v1 => (some ((Int32.toInt64 v1), μ))))
theorem okX9_periodLong (μ : ax_M) : ax_Ok mX9_periodLong 0 ax_jL [.ref 57] μ (fX9_periodLong μ) := by
  refine ax_start (lc := [some (.ref 57)]) 0 (by decide +kernel) rfl (Nat.le_of_ble_eq_true rfl) (fun x G hG => ?_)
  unfold fX9_periodLong
  refine rf_aload_n (n := 1) 0 dX9_periodLong_0 rfl rfl rfl ?_
  refine rf_getR (n := 4) rr_57_28 kk_74 hG dX9_periodLong_1 flX9_63 ki_9_28 sS_57 kk_57 rfl ?_
  refine rf_iconst (n := 5) (0 : Int32) dX9_periodLong_4 cciconst_0 rfl ?_
  refine rf_iald (n := 6) hG dX9_periodLong_5 sS_74 kk_74 rfl (fun v1 => ?_)
  refine rf_i2l (n := 7) dX9_periodLong_6 rfl ?_
  exact rf_retL rfl dX9_periodLong_7
def fX9_comesBy (p1 : Int32) (μ : ax_M) : Option (Int64 × ax_M) :=
  (Option.bind (ax_rd μ 70 48 p1) (fun v1 => (Option.bind (ax_rl μ 78 10 v1) (fun v2 => (Option.bind (ax_rd μ 70 48 p1) (fun v3 => (Option.bind (ax_rd μ 68 20 v3) (fun v4 => (Option.bind (ax_rd μ 74 68 ((19 : Int32) + p1)) (fun v5 => (Option.bind (ax_rd μ 74 68 (67 : Int32)) (fun v6 => (ax_bd (fX9_shiftOf p1 μ) (fun v7 m8 => (ax_bd (fX9_periodLong m8) (fun v9 m10 => (some (((v2 + ((64 : Int64) * (Int32.toInt64 ((v4 + v5) + v6)))) - ((Int32.toInt64 v7) * v9)), m10))))))))))))))))))
theorem okX9_comesBy (p1 : Int32) (μ : ax_M) : ax_Ok mX9_comesBy 1 ax_jL [.ref 57, .int p1, .ref 78] μ (fX9_comesBy p1 μ) := by
  refine ax_start (lc := [some (.ref 57), some (.int p1), some (.ref 78)]) 0 (by decide +kernel) rfl (Nat.le_of_ble_eq_true rfl) (fun x G hG => ?_)
  unfold fX9_comesBy
  refine rf_aload_n (n := 1) 2 dX9_comesBy_0 rfl rfl rfl ?_
  refine rf_aload_n (n := 2) 0 dX9_comesBy_1 rfl rfl rfl ?_
  refine rf_getR (n := 5) rr_57_14 kk_70 hG dX9_comesBy_2 flX9_47 ki_9_14 sS_57 kk_57 rfl ?_
  refine rf_iload_n (n := 6) 1 dX9_comesBy_5 rfl rfl rfl ?_
  refine rf_iald (n := 7) hG dX9_comesBy_6 sS_70 kk_70 rfl (fun v1 => ?_)
  refine rf_lald (n := 8) hG dX9_comesBy_7 sS_78 kk_78 rfl (fun v2 => ?_)
  refine rf_ldc2 (n := 11) dX9_comesBy_8 clX9_275 rfl ?_
  refine rf_aload_n (n := 12) 0 dX9_comesBy_11 rfl rfl rfl ?_
  refine rf_getR (n := 15) rr_57_12 kk_68 hG dX9_comesBy_12 flX9_41 ki_9_12 sS_57 kk_57 rfl ?_
  refine rf_aload_n (n := 16) 0 dX9_comesBy_15 rfl rfl rfl ?_
  refine rf_getR (n := 19) rr_57_14 kk_70 hG dX9_comesBy_16 flX9_47 ki_9_14 sS_57 kk_57 rfl ?_
  refine rf_iload_n (n := 20) 1 dX9_comesBy_19 rfl rfl rfl ?_
  refine rf_iald (n := 21) hG dX9_comesBy_20 sS_70 kk_70 rfl (fun v3 => ?_)
  refine rf_iald (n := 22) hG dX9_comesBy_21 sS_68 kk_68 rfl (fun v4 => ?_)
  refine rf_aload_n (n := 23) 0 dX9_comesBy_22 rfl rfl rfl ?_
  refine rf_getR (n := 26) rr_57_28 kk_74 hG dX9_comesBy_23 flX9_63 ki_9_28 sS_57 kk_57 rfl ?_
  refine rf_bipush (n := 28) (19 : Int32) dX9_comesBy_26 ccbipush_19 rfl ?_
  refine rf_iload_n (n := 29) 1 dX9_comesBy_28 rfl rfl rfl ?_
  refine rf_iadd (n := 30) dX9_comesBy_29 rfl ?_
  refine rf_iald (n := 31) hG dX9_comesBy_30 sS_74 kk_74 rfl (fun v5 => ?_)
  refine rf_iadd (n := 32) dX9_comesBy_31 rfl ?_
  refine rf_aload_n (n := 33) 0 dX9_comesBy_32 rfl rfl rfl ?_
  refine rf_getR (n := 36) rr_57_28 kk_74 hG dX9_comesBy_33 flX9_63 ki_9_28 sS_57 kk_57 rfl ?_
  refine rf_bipush (n := 38) (67 : Int32) dX9_comesBy_36 ccbipush_67 rfl ?_
  refine rf_iald (n := 39) hG dX9_comesBy_38 sS_74 kk_74 rfl (fun v6 => ?_)
  refine rf_iadd (n := 40) dX9_comesBy_39 rfl ?_
  refine rf_i2l (n := 41) dX9_comesBy_40 rfl ?_
  refine rf_lmul (n := 42) dX9_comesBy_41 rfl ?_
  refine rf_ladd (n := 43) dX9_comesBy_42 rfl ?_
  refine rf_aload_n (n := 44) 0 dX9_comesBy_43 rfl rfl rfl ?_
  refine rf_iload_n (n := 45) 1 dX9_comesBy_44 rfl rfl rfl ?_
  refine rf_cV1I (n := 48) hG (okX9_shiftOf _ _) lVX9_272 hhX9_shiftOf kk_57 sS_57 ⟨_, rfl, rfl⟩ dX9_comesBy_45 rfl (Nat.le_of_ble_eq_true rfl) (Nat.le_of_ble_eq_true rfl) (fun v7 m8 => ?_)
  refine rf_i2l (n := 49) dX9_comesBy_48 rfl ?_
  refine rf_aload_n (n := 50) 0 dX9_comesBy_49 rfl rfl rfl ?_
  refine rf_cV0L (n := 53) hG (okX9_periodLong _) lVX9_277 hhX9_periodLong kk_57 sS_57 ⟨_, rfl, rfl⟩ dX9_comesBy_50 rfl (Nat.le_of_ble_eq_true rfl) (Nat.le_of_ble_eq_true rfl) (fun v9 m10 => ?_)
  refine rf_lmul (n := 54) dX9_comesBy_53 rfl ?_
  refine rf_lsub (n := 55) dX9_comesBy_54 rfl ?_
  exact rf_retL rfl dX9_comesBy_55
