def fX9_comesTo_K84 (l1 : Int32) (l3 : Int64) (l5 : Int32) (l6 : Int32) (r30 : Int64 → Int32 → Int32 → ax_M → Option (Int64 × ax_M)) (μ : ax_M) : Option (Int64 × ax_M) :=
  (r30 l3 l5 (l6 + (1 : Int32)) μ)
theorem pX9_comesTo_K84 {x : ax_X} {G : ax_G} (hG : ax_ok G) (l1 : Int32) (l3 : Int64) (l5 : Int32) (l6 : Int32) (r30 : Int64 → Int32 → Int32 → ax_M → Option (Int64 × ax_M)) (hr30 : ∀ (a3 : Int64) (a5 : Int32) (a6 : Int32) (μ : ax_M), ax_Rf mX9_comesTo 2 x (ax_Z ax_jL x G) G 0 0 30 [some (.ref 57), some (.int l1), some (.ref 78), some (.long a3), none, some (.int a5), some (.int a6), none, none] [] μ (r30 a3 a5 a6 μ)) (μ : ax_M) : ax_Rf mX9_comesTo 2 x (ax_Z ax_jL x G) G 0 0 84 [some (.ref 57), some (.int l1), some (.ref 78), some (.long l3), none, some (.int l5), some (.int l6), none, none] [] μ (fX9_comesTo_K84 l1 l3 l5 l6 r30 μ) := by
  unfold fX9_comesTo_K84
  refine rf_iinc (lc2 := [some (.ref 57), some (.int l1), some (.ref 78), some (.long l3), none, some (.int l5), some (.int (l6 + (1 : Int32))), none, none]) (n := 87) (w := (1 : Int32)) 6 dX9_comesTo_84 rfl rfl rfl (Nat.le_of_ble_eq_true rfl) rfl rfl ?_
  refine rf_goto (tg := 30) dX9_comesTo_87 rfl ?_
  exact hr30 _ _ _ _
def fX9_comesTo_K80 (l1 : Int32) (l6 : Int32) (s0 : Int64) (r30 : Int64 → Int32 → Int32 → ax_M → Option (Int64 × ax_M)) (μ : ax_M) : Option (Int64 × ax_M) :=
  (fX9_comesTo_K84 l1 s0 (1 : Int32) l6 r30 μ)
theorem pX9_comesTo_K80 {x : ax_X} {G : ax_G} (hG : ax_ok G) (l1 : Int32) (l6 : Int32) (s0 : Int64) (r30 : Int64 → Int32 → Int32 → ax_M → Option (Int64 × ax_M)) (hr30 : ∀ (a3 : Int64) (a5 : Int32) (a6 : Int32) (μ : ax_M), ax_Rf mX9_comesTo 2 x (ax_Z ax_jL x G) G 0 0 30 [some (.ref 57), some (.int l1), some (.ref 78), some (.long a3), none, some (.int a5), some (.int a6), none, none] [] μ (r30 a3 a5 a6 μ)) (μ : ax_M) : ax_Rf mX9_comesTo 2 x (ax_Z ax_jL x G) G 0 0 80 [some (.ref 57), some (.int l1), some (.ref 78), none, none, none, some (.int l6), none, none] [.long s0] μ (fX9_comesTo_K80 l1 l6 s0 r30 μ) := by
  unfold fX9_comesTo_K80
  refine rf_lstore_n (lc2 := [some (.ref 57), some (.int l1), some (.ref 78), some (.long s0), none, none, some (.int l6), none, none]) (n := 81) 3 dX9_comesTo_80 rfl rfl (Nat.le_of_ble_eq_true rfl) rfl rfl ?_
  refine rf_iconst (n := 82) (1 : Int32) dX9_comesTo_81 cciconst_1 rfl ?_
  refine rf_istore (lc2 := [some (.ref 57), some (.int l1), some (.ref 78), some (.long s0), none, some (.int (1 : Int32)), some (.int l6), none, none]) (n := 84) 5 dX9_comesTo_82 rfl (Nat.le_of_ble_eq_true rfl) rfl rfl ?_
  exact pX9_comesTo_K84 hG _ _ _ _ r30 hr30 _
def fX9_comesTo_K74 (l1 : Int32) (l6 : Int32) (l7 : Int64) (r30 : Int64 → Int32 → Int32 → ax_M → Option (Int64 × ax_M)) (μ : ax_M) : Option (Int64 × ax_M) :=
  (fX9_comesTo_K80 l1 l6 l7 r30 μ)
theorem pX9_comesTo_K74 {x : ax_X} {G : ax_G} (hG : ax_ok G) (l1 : Int32) (l6 : Int32) (l7 : Int64) (r30 : Int64 → Int32 → Int32 → ax_M → Option (Int64 × ax_M)) (hr30 : ∀ (a3 : Int64) (a5 : Int32) (a6 : Int32) (μ : ax_M), ax_Rf mX9_comesTo 2 x (ax_Z ax_jL x G) G 0 0 30 [some (.ref 57), some (.int l1), some (.ref 78), some (.long a3), none, some (.int a5), some (.int a6), none, none] [] μ (r30 a3 a5 a6 μ)) (μ : ax_M) : ax_Rf mX9_comesTo 2 x (ax_Z ax_jL x G) G 0 0 74 [some (.ref 57), some (.int l1), some (.ref 78), none, none, none, some (.int l6), some (.long l7), none] [] μ (fX9_comesTo_K74 l1 l6 l7 r30 μ) := by
  unfold fX9_comesTo_K74
  refine rf_lload (n := 76) 7 dX9_comesTo_74 rfl rfl ?_
  refine rf_goto (tg := 80) dX9_comesTo_76 rfl ?_
  refine rf_mask (lc2 := [some (.ref 57), some (.int l1), some (.ref 78), none, none, none, some (.int l6), none, none]) [true, true, true, true, true, true, true, false, true] rfl ?_
  exact pX9_comesTo_K80 hG _ _ _ r30 hr30 _
def fX9_comesTo_B30 (l1 : Int32) (r30 : Int64 → Int32 → Int32 → ax_M → Option (Int64 × ax_M)) (l3 : Int64) (l5 : Int32) (l6 : Int32) (μ : ax_M) : Option (Int64 × ax_M) :=
  (ax_bd (fX9_paths μ) (fun v3 m4 => (if v3 ≤ l6 then (some (l3, m4)) else (Option.bind (ax_rd m4 71 48 l6) (fun v5 => (if v5 = l1 then (ax_bd (fX9_comesBy l6 m4) (fun v6 m7 => (if l5 = 0 then (fX9_comesTo_K74 l1 l6 v6 r30 m7) else (if (lg_cmp v6 l3) ≤ 0 then (fX9_comesTo_K80 l1 l6 l3 r30 m7) else (fX9_comesTo_K74 l1 l6 v6 r30 m7))))) else (fX9_comesTo_K84 l1 l3 l5 l6 r30 m4)))))))
theorem pX9_comesTo_B30 {x : ax_X} {G : ax_G} (hG : ax_ok G) (l1 : Int32) (r30 : Int64 → Int32 → Int32 → ax_M → Option (Int64 × ax_M)) (hr30 : ∀ (a3 : Int64) (a5 : Int32) (a6 : Int32) (μ : ax_M), ax_Rf mX9_comesTo 2 x (ax_Z ax_jL x G) G 0 0 30 [some (.ref 57), some (.int l1), some (.ref 78), some (.long a3), none, some (.int a5), some (.int a6), none, none] [] μ (r30 a3 a5 a6 μ)) (l3 : Int64) (l5 : Int32) (l6 : Int32) (μ : ax_M) : ax_Rf mX9_comesTo 2 x (ax_Z ax_jL x G) G 0 0 30 [some (.ref 57), some (.int l1), some (.ref 78), some (.long l3), none, some (.int l5), some (.int l6), none, none] [] μ (fX9_comesTo_B30 l1 r30 l3 l5 l6 μ) := by
  unfold fX9_comesTo_B30
  refine rf_iload (n := 32) 6 dX9_comesTo_30 rfl rfl ?_
  refine rf_aload_n (n := 33) 0 dX9_comesTo_32 rfl rfl rfl ?_
  refine rf_cV0I (n := 36) hG (okX9_paths _) lVX9_236 hhX9_paths kk_57 sS_57 ⟨_, rfl, rfl⟩ dX9_comesTo_33 rfl (Nat.le_of_ble_eq_true rfl) (Nat.le_of_ble_eq_true rfl) (fun v3 m4 => ?_)
  refine rf_icmp_ge (tg := 90) (n := 39) dX9_comesTo_36 rfl rfl (fun c11 => ?_) (fun c11 => ?_)
  · refine rf_lload_n (n := 91) 3 dX9_comesTo_90 rfl rfl rfl ?_
    exact rf_retL rfl dX9_comesTo_91
  · refine rf_aload_n (n := 40) 0 dX9_comesTo_39 rfl rfl rfl ?_
    refine rf_getR (n := 43) rr_57_15 kk_71 hG dX9_comesTo_40 flX9_50 ki_9_15 sS_57 kk_57 rfl ?_
    refine rf_iload (n := 45) 6 dX9_comesTo_43 rfl rfl ?_
    refine rf_iald (n := 46) hG dX9_comesTo_45 sS_71 kk_71 rfl (fun v5 => ?_)
    refine rf_iload_n (n := 47) 1 dX9_comesTo_46 rfl rfl rfl ?_
    refine rf_icmp_eq (tg := 53) (n := 50) dX9_comesTo_47 rfl rfl (fun c10 => ?_) (fun c10 => ?_)
    · refine rf_aload_n (n := 54) 0 dX9_comesTo_53 rfl rfl rfl ?_
      refine rf_iload (n := 56) 6 dX9_comesTo_54 rfl rfl ?_
      refine rf_aload_n (n := 57) 2 dX9_comesTo_56 rfl rfl rfl ?_
      refine rf_cV2L (n := 60) hG (okX9_comesBy _ _) lVX9_286 hhX9_comesBy kk_57 sS_57 ⟨_, rfl, rfl⟩ dX9_comesTo_57 rfl (Nat.le_of_ble_eq_true rfl) (Nat.le_of_ble_eq_true rfl) (fun v6 m7 => ?_)
      refine rf_lstore (lc2 := [some (.ref 57), some (.int l1), some (.ref 78), some (.long l3), none, some (.int l5), some (.int l6), some (.long v6), none]) (n := 62) 7 dX9_comesTo_60 rfl (Nat.le_of_ble_eq_true rfl) rfl rfl ?_
      refine rf_iload (n := 64) 5 dX9_comesTo_62 rfl rfl ?_
      refine rf_if_eq (tg := 74) (n := 67) dX9_comesTo_64 rfl rfl (fun c9 => ?_) (fun c9 => ?_)
      · refine rf_mask (lc2 := [some (.ref 57), some (.int l1), some (.ref 78), none, none, none, some (.int l6), some (.long v6), none]) [true, true, true, false, true, false, true, true, true] rfl ?_
        exact pX9_comesTo_K74 hG _ _ _ r30 hr30 _
      · refine rf_lload (n := 69) 7 dX9_comesTo_67 rfl rfl ?_
        refine rf_lload_n (n := 70) 3 dX9_comesTo_69 rfl rfl rfl ?_
        refine rf_lcmp (n := 71) dX9_comesTo_70 rfl ?_
        refine rf_if_le (tg := 79) (n := 74) dX9_comesTo_71 rfl rfl (fun c8 => ?_) (fun c8 => ?_)
        · refine rf_lload_n (n := 80) 3 dX9_comesTo_79 rfl rfl rfl ?_
          refine rf_mask (lc2 := [some (.ref 57), some (.int l1), some (.ref 78), none, none, none, some (.int l6), none, none]) [true, true, true, false, true, false, true, false, true] rfl ?_
          exact pX9_comesTo_K80 hG _ _ _ r30 hr30 _
        · refine rf_mask (lc2 := [some (.ref 57), some (.int l1), some (.ref 78), none, none, none, some (.int l6), some (.long v6), none]) [true, true, true, false, true, false, true, true, true] rfl ?_
          exact pX9_comesTo_K74 hG _ _ _ r30 hr30 _
    · refine rf_goto (tg := 84) dX9_comesTo_50 rfl ?_
      exact pX9_comesTo_K84 hG _ _ _ _ r30 hr30 _
theorem pX9_comesTo_L30 {x : ax_X} {G : ax_G} (hG : ax_ok G) (l1 : Int32) (n : Nat) (a3 : Int64) (a5 : Int32) (a6 : Int32) (μ : ax_M) : ax_Rf mX9_comesTo 2 x (ax_Z ax_jL x G) G 0 0 30 [some (.ref 57), some (.int l1), some (.ref 78), some (.long a3), none, some (.int a5), some (.int a6), none, none] [] μ (ax_lp3 (fX9_comesTo_B30 l1) n a3 a5 a6 μ) :=
  rf_lp3 (P := fun a3 a5 a6 μ t => ax_Rf mX9_comesTo 2 x (ax_Z ax_jL x G) G 0 0 30 [some (.ref 57), some (.int l1), some (.ref 78), some (.long a3), none, some (.int a5), some (.int a6), none, none] [] μ t) (fun _ _ _ _ => rf_none) (fun rc hrc a3 a5 a6 μ => pX9_comesTo_B30 hG l1 rc hrc a3 a5 a6 μ) n a3 a5 a6 μ
def fX9_comesTo_K23 (l1 : Int32) (s0 : Int64) (μ : ax_M) : Option (Int64 × ax_M) :=
  (ax_lp3 (fX9_comesTo_B30 l1) ax_FU s0 (0 : Int32) (0 : Int32) μ)
theorem pX9_comesTo_K23 {x : ax_X} {G : ax_G} (hG : ax_ok G) (l1 : Int32) (s0 : Int64) (μ : ax_M) : ax_Rf mX9_comesTo 2 x (ax_Z ax_jL x G) G 0 0 23 [some (.ref 57), some (.int l1), some (.ref 78), none, none, none, none, none, none] [.long s0] μ (fX9_comesTo_K23 l1 s0 μ) := by
  unfold fX9_comesTo_K23
  refine rf_lstore_n (lc2 := [some (.ref 57), some (.int l1), some (.ref 78), some (.long s0), none, none, none, none, none]) (n := 24) 3 dX9_comesTo_23 rfl rfl (Nat.le_of_ble_eq_true rfl) rfl rfl ?_
  refine rf_iconst (n := 25) (0 : Int32) dX9_comesTo_24 cciconst_0 rfl ?_
  refine rf_istore (lc2 := [some (.ref 57), some (.int l1), some (.ref 78), some (.long s0), none, some (.int (0 : Int32)), none, none, none]) (n := 27) 5 dX9_comesTo_25 rfl (Nat.le_of_ble_eq_true rfl) rfl rfl ?_
  refine rf_iconst (n := 28) (0 : Int32) dX9_comesTo_27 cciconst_0 rfl ?_
  refine rf_istore (lc2 := [some (.ref 57), some (.int l1), some (.ref 78), some (.long s0), none, some (.int (0 : Int32)), some (.int (0 : Int32)), none, none]) (n := 30) 6 dX9_comesTo_28 rfl (Nat.le_of_ble_eq_true rfl) rfl rfl ?_
  exact pX9_comesTo_L30 hG _ _ _ _ _ _
def fX9_comesTo (p1 : Int32) (μ : ax_M) : Option (Int64 × ax_M) :=
  (ax_bd (fX9_isFlop p1 μ) (fun v1 m2 => (if v1 = 0 then (fX9_comesTo_K23 p1 (0 : Int64) m2) else (Option.bind (ax_rd m2 66 20 p1) (fun v12 => (fX9_comesTo_K23 p1 ((-64 : Int64) * (Int32.toInt64 v12)) m2))))))
theorem okX9_comesTo (p1 : Int32) (μ : ax_M) : ax_Ok mX9_comesTo 2 ax_jL [.ref 57, .int p1, .ref 78] μ (fX9_comesTo p1 μ) := by
  refine ax_start (lc := [some (.ref 57), some (.int p1), some (.ref 78), none, none, none, none, none, none]) 6 (by decide +kernel) rfl (Nat.le_of_ble_eq_true rfl) (fun x G hG => ?_)
  unfold fX9_comesTo
  refine rf_aload_n (n := 1) 0 dX9_comesTo_0 rfl rfl rfl ?_
  refine rf_iload_n (n := 2) 1 dX9_comesTo_1 rfl rfl rfl ?_
  refine rf_cV1I (n := 5) hG (okX9_isFlop _ _) lVX9_281 hhX9_isFlop kk_57 sS_57 ⟨_, rfl, rfl⟩ dX9_comesTo_2 rfl (Nat.le_of_ble_eq_true rfl) (Nat.le_of_ble_eq_true rfl) (fun v1 m2 => ?_)
  refine rf_if_eq (tg := 22) (n := 8) dX9_comesTo_5 rfl rfl (fun c13 => ?_) (fun c13 => ?_)
  · refine rf_lconst (n := 23) (0 : Int64) dX9_comesTo_22 rfl rfl ?_
    exact pX9_comesTo_K23 hG _ _ _
  · refine rf_ldc2 (n := 11) dX9_comesTo_8 clX9_284 rfl ?_
    refine rf_aload_n (n := 12) 0 dX9_comesTo_11 rfl rfl rfl ?_
    refine rf_getR (n := 15) rr_57_10 kk_66 hG dX9_comesTo_12 flX9_35 ki_9_10 sS_57 kk_57 rfl ?_
    refine rf_iload_n (n := 16) 1 dX9_comesTo_15 rfl rfl rfl ?_
    refine rf_iald (n := 17) hG dX9_comesTo_16 sS_66 kk_66 rfl (fun v12 => ?_)
    refine rf_i2l (n := 18) dX9_comesTo_17 rfl ?_
    refine rf_lmul (n := 19) dX9_comesTo_18 rfl ?_
    refine rf_goto (tg := 23) dX9_comesTo_19 rfl ?_
    exact pX9_comesTo_K23 hG _ _ _
def fX9_round_K87 (l1 : Int32) (s1 : Int32) (s2 : Int64) (r30 : Int32 → ax_M → Option (Unit × ax_M)) (μ : ax_M) : Option (Unit × ax_M) :=
  (Option.bind (ax_wrl μ 76 10 s1 s2) (fun m10 => (r30 (l1 + (1 : Int32)) m10)))
theorem pX9_round_K87 {x : ax_X} {G : ax_G} (hG : ax_ok G) (l1 : Int32) (s1 : Int32) (s2 : Int64) (r30 : Int32 → ax_M → Option (Unit × ax_M)) (hr30 : ∀ (a1 : Int32) (μ : ax_M), ax_Rf mX9_round 3 x (ax_Z ax_jV x G) G 0 0 30 [some (.ref 57), some (.int a1)] [] μ (r30 a1 μ)) (μ : ax_M) : ax_Rf mX9_round 3 x (ax_Z ax_jV x G) G 0 0 87 [some (.ref 57), some (.int l1)] [.long s2, .int s1, .ref 76] μ (fX9_round_K87 l1 s1 s2 r30 μ) := by
  unfold fX9_round_K87
  refine rf_last (n := 88) hG dX9_round_87 sS_76 kk_76 rfl (fun m10 => ?_)
  refine rf_iinc (lc2 := [some (.ref 57), some (.int (l1 + (1 : Int32)))]) (n := 91) (w := (1 : Int32)) 1 dX9_round_88 rfl rfl rfl (Nat.le_of_ble_eq_true rfl) rfl rfl ?_
  refine rf_goto (tg := 30) dX9_round_91 rfl ?_
  exact hr30 _ _
def fX9_round_K77 (l1 : Int32) (s1 : Int32) (r30 : Int32 → ax_M → Option (Unit × ax_M)) (μ : ax_M) : Option (Unit × ax_M) :=
  (fX9_round_K87 l1 s1 (0 : Int64) r30 μ)
theorem pX9_round_K77 {x : ax_X} {G : ax_G} (hG : ax_ok G) (l1 : Int32) (s1 : Int32) (r30 : Int32 → ax_M → Option (Unit × ax_M)) (hr30 : ∀ (a1 : Int32) (μ : ax_M), ax_Rf mX9_round 3 x (ax_Z ax_jV x G) G 0 0 30 [some (.ref 57), some (.int a1)] [] μ (r30 a1 μ)) (μ : ax_M) : ax_Rf mX9_round 3 x (ax_Z ax_jV x G) G 0 0 77 [some (.ref 57), some (.int l1)] [.int s1, .ref 76] μ (fX9_round_K77 l1 s1 r30 μ) := by
  unfold fX9_round_K77
  refine rf_lconst (n := 78) (0 : Int64) dX9_round_77 rfl rfl ?_
  refine rf_goto (tg := 87) dX9_round_78 rfl ?_
  exact pX9_round_K87 hG _ _ _ r30 hr30 _
def fX9_round_B30 (r30 : Int32 → ax_M → Option (Unit × ax_M)) (l1 : Int32) (μ : ax_M) : Option (Unit × ax_M) :=
  (ax_bd (fX9_cells μ) (fun v3 m4 => (if v3 ≤ l1 then (some ((), m4)) else (ax_bd (fX9_comesTo l1 m4) (fun v5 m6 => (Option.bind (ax_wrl m6 77 10 l1 v5) (fun m7 => (ax_bd (fX9_isFlop l1 m7) (fun v8 m9 => (if v8 = 0 then (Option.bind (ax_rl m9 77 10 l1) (fun v11 => (if 0 ≤ (lg_cmp v11 (0 : Int64)) then (Option.bind (ax_rl m9 77 10 l1) (fun v12 => (fX9_round_K87 l1 l1 v12 r30 m9))) else (fX9_round_K77 l1 l1 r30 m9)))) else (fX9_round_K77 l1 l1 r30 m9)))))))))))
theorem pX9_round_B30 {x : ax_X} {G : ax_G} (hG : ax_ok G) (r30 : Int32 → ax_M → Option (Unit × ax_M)) (hr30 : ∀ (a1 : Int32) (μ : ax_M), ax_Rf mX9_round 3 x (ax_Z ax_jV x G) G 0 0 30 [some (.ref 57), some (.int a1)] [] μ (r30 a1 μ)) (l1 : Int32) (μ : ax_M) : ax_Rf mX9_round 3 x (ax_Z ax_jV x G) G 0 0 30 [some (.ref 57), some (.int l1)] [] μ (fX9_round_B30 r30 l1 μ) := by
  unfold fX9_round_B30
  refine rf_iload_n (n := 31) 1 dX9_round_30 rfl rfl rfl ?_
  refine rf_aload_n (n := 32) 0 dX9_round_31 rfl rfl rfl ?_
  refine rf_cV0I (n := 35) hG (okX9_cells _) lVX9_233 hhX9_cells kk_57 sS_57 ⟨_, rfl, rfl⟩ dX9_round_32 rfl (Nat.le_of_ble_eq_true rfl) (Nat.le_of_ble_eq_true rfl) (fun v3 m4 => ?_)
  refine rf_icmp_ge (tg := 94) (n := 38) dX9_round_35 rfl rfl (fun c15 => ?_) (fun c15 => ?_)
  · exact rf_retV rfl dX9_round_94
  · refine rf_aload_n (n := 39) 0 dX9_round_38 rfl rfl rfl ?_
    refine rf_getR (n := 42) rr_57_33 kk_77 hG dX9_round_39 flX9_73 ki_9_33 sS_57 kk_57 rfl ?_
    refine rf_iload_n (n := 43) 1 dX9_round_42 rfl rfl rfl ?_
    refine rf_aload_n (n := 44) 0 dX9_round_43 rfl rfl rfl ?_
    refine rf_iload_n (n := 45) 1 dX9_round_44 rfl rfl rfl ?_
    refine rf_aload_n (n := 46) 0 dX9_round_45 rfl rfl rfl ?_
    refine rf_getR (n := 49) rr_57_34 kk_78 hG dX9_round_46 flX9_76 ki_9_34 sS_57 kk_57 rfl ?_
    refine rf_cV2L (n := 52) hG (okX9_comesTo _ _) lVX9_290 hhX9_comesTo kk_57 sS_57 ⟨_, rfl, rfl⟩ dX9_round_49 rfl (Nat.le_of_ble_eq_true rfl) (Nat.le_of_ble_eq_true rfl) (fun v5 m6 => ?_)
    refine rf_last (n := 53) hG dX9_round_52 sS_77 kk_77 rfl (fun m7 => ?_)
    refine rf_aload_n (n := 54) 0 dX9_round_53 rfl rfl rfl ?_
    refine rf_getR (n := 57) rr_57_32 kk_76 hG dX9_round_54 flX9_69 ki_9_32 sS_57 kk_57 rfl ?_
    refine rf_iload_n (n := 58) 1 dX9_round_57 rfl rfl rfl ?_
    refine rf_aload_n (n := 59) 0 dX9_round_58 rfl rfl rfl ?_
    refine rf_iload_n (n := 60) 1 dX9_round_59 rfl rfl rfl ?_
    refine rf_cV1I (n := 63) hG (okX9_isFlop _ _) lVX9_281 hhX9_isFlop kk_57 sS_57 ⟨_, rfl, rfl⟩ dX9_round_60 rfl (Nat.le_of_ble_eq_true rfl) (Nat.le_of_ble_eq_true rfl) (fun v8 m9 => ?_)
    refine rf_if_ne (tg := 77) (n := 66) dX9_round_63 rfl rfl (fun c14 => ?_) (fun c14 => ?_)
    · exact pX9_round_K77 hG _ _ r30 hr30 _
    · refine rf_aload_n (n := 67) 0 dX9_round_66 rfl rfl rfl ?_
      refine rf_getR (n := 70) rr_57_33 kk_77 hG dX9_round_67 flX9_73 ki_9_33 sS_57 kk_57 rfl ?_
      refine rf_iload_n (n := 71) 1 dX9_round_70 rfl rfl rfl ?_
      refine rf_lald (n := 72) hG dX9_round_71 sS_77 kk_77 rfl (fun v11 => ?_)
      refine rf_lconst (n := 73) (0 : Int64) dX9_round_72 rfl rfl ?_
      refine rf_lcmp (n := 74) dX9_round_73 rfl ?_
      refine rf_if_ge (tg := 81) (n := 77) dX9_round_74 rfl rfl (fun c13 => ?_) (fun c13 => ?_)
      · refine rf_aload_n (n := 82) 0 dX9_round_81 rfl rfl rfl ?_
        refine rf_getR (n := 85) rr_57_33 kk_77 hG dX9_round_82 flX9_73 ki_9_33 sS_57 kk_57 rfl ?_
        refine rf_iload_n (n := 86) 1 dX9_round_85 rfl rfl rfl ?_
        refine rf_lald (n := 87) hG dX9_round_86 sS_77 kk_77 rfl (fun v12 => ?_)
        exact pX9_round_K87 hG _ _ _ r30 hr30 _
      · exact pX9_round_K77 hG _ _ r30 hr30 _
theorem pX9_round_L30 {x : ax_X} {G : ax_G} (hG : ax_ok G) (n : Nat) (a1 : Int32) (μ : ax_M) : ax_Rf mX9_round 3 x (ax_Z ax_jV x G) G 0 0 30 [some (.ref 57), some (.int a1)] [] μ (ax_lp1 (fX9_round_B30) n a1 μ) :=
  rf_lp1 (P := fun a1 μ t => ax_Rf mX9_round 3 x (ax_Z ax_jV x G) G 0 0 30 [some (.ref 57), some (.int a1)] [] μ t) (fun _ _ => rf_none) (fun rc hrc a1 μ => pX9_round_B30 hG rc hrc a1 μ) n a1 μ
def fX9_round_B2 (r2 : Int32 → ax_M → Option (Unit × ax_M)) (l1 : Int32) (μ : ax_M) : Option (Unit × ax_M) :=
  (ax_bd (fX9_cells μ) (fun v1 m2 => (if v1 ≤ l1 then (ax_lp1 (fX9_round_B30) ax_FU (0 : Int32) m2) else (Option.bind (ax_rl m2 76 10 l1) (fun v16 => (Option.bind (ax_wrl m2 78 10 l1 v16) (fun m17 => (r2 (l1 + (1 : Int32)) m17))))))))
theorem pX9_round_B2 {x : ax_X} {G : ax_G} (hG : ax_ok G) (r2 : Int32 → ax_M → Option (Unit × ax_M)) (hr2 : ∀ (a1 : Int32) (μ : ax_M), ax_Rf mX9_round 3 x (ax_Z ax_jV x G) G 0 0 2 [some (.ref 57), some (.int a1)] [] μ (r2 a1 μ)) (l1 : Int32) (μ : ax_M) : ax_Rf mX9_round 3 x (ax_Z ax_jV x G) G 0 0 2 [some (.ref 57), some (.int l1)] [] μ (fX9_round_B2 r2 l1 μ) := by
  unfold fX9_round_B2
  refine rf_iload_n (n := 3) 1 dX9_round_2 rfl rfl rfl ?_
  refine rf_aload_n (n := 4) 0 dX9_round_3 rfl rfl rfl ?_
  refine rf_cV0I (n := 7) hG (okX9_cells _) lVX9_233 hhX9_cells kk_57 sS_57 ⟨_, rfl, rfl⟩ dX9_round_4 rfl (Nat.le_of_ble_eq_true rfl) (Nat.le_of_ble_eq_true rfl) (fun v1 m2 => ?_)
  refine rf_icmp_ge (tg := 28) (n := 10) dX9_round_7 rfl rfl (fun c18 => ?_) (fun c18 => ?_)
  · refine rf_iconst (n := 29) (0 : Int32) dX9_round_28 cciconst_0 rfl ?_
    refine rf_istore_n (lc2 := [some (.ref 57), some (.int (0 : Int32))]) (n := 30) 1 dX9_round_29 rfl rfl (Nat.le_of_ble_eq_true rfl) rfl rfl ?_
    exact pX9_round_L30 hG _ _ _
  · refine rf_aload_n (n := 11) 0 dX9_round_10 rfl rfl rfl ?_
    refine rf_getR (n := 14) rr_57_34 kk_78 hG dX9_round_11 flX9_76 ki_9_34 sS_57 kk_57 rfl ?_
    refine rf_iload_n (n := 15) 1 dX9_round_14 rfl rfl rfl ?_
    refine rf_aload_n (n := 16) 0 dX9_round_15 rfl rfl rfl ?_
    refine rf_getR (n := 19) rr_57_32 kk_76 hG dX9_round_16 flX9_69 ki_9_32 sS_57 kk_57 rfl ?_
    refine rf_iload_n (n := 20) 1 dX9_round_19 rfl rfl rfl ?_
    refine rf_lald (n := 21) hG dX9_round_20 sS_76 kk_76 rfl (fun v16 => ?_)
    refine rf_last (n := 22) hG dX9_round_21 sS_78 kk_78 rfl (fun m17 => ?_)
    refine rf_iinc (lc2 := [some (.ref 57), some (.int (l1 + (1 : Int32)))]) (n := 25) (w := (1 : Int32)) 1 dX9_round_22 rfl rfl rfl (Nat.le_of_ble_eq_true rfl) rfl rfl ?_
    refine rf_goto (tg := 2) dX9_round_25 rfl ?_
    exact hr2 _ _
theorem pX9_round_L2 {x : ax_X} {G : ax_G} (hG : ax_ok G) (n : Nat) (a1 : Int32) (μ : ax_M) : ax_Rf mX9_round 3 x (ax_Z ax_jV x G) G 0 0 2 [some (.ref 57), some (.int a1)] [] μ (ax_lp1 (fX9_round_B2) n a1 μ) :=
  rf_lp1 (P := fun a1 μ t => ax_Rf mX9_round 3 x (ax_Z ax_jV x G) G 0 0 2 [some (.ref 57), some (.int a1)] [] μ t) (fun _ _ => rf_none) (fun rc hrc a1 μ => pX9_round_B2 hG rc hrc a1 μ) n a1 μ
def fX9_round (μ : ax_M) : Option (Unit × ax_M) :=
  (ax_lp1 (fX9_round_B2) ax_FU (0 : Int32) μ)
theorem okX9_round (μ : ax_M) : ax_Ok mX9_round 3 ax_jV [.ref 57] μ (fX9_round μ) := by
  refine ax_start (lc := [some (.ref 57), none]) 1 (by decide +kernel) rfl (Nat.le_of_ble_eq_true rfl) (fun x G hG => ?_)
  unfold fX9_round
  refine rf_iconst (n := 1) (0 : Int32) dX9_round_0 cciconst_0 rfl ?_
  refine rf_istore_n (lc2 := [some (.ref 57), some (.int (0 : Int32))]) (n := 2) 1 dX9_round_1 rfl rfl (Nat.le_of_ble_eq_true rfl) rfl rfl ?_
  exact pX9_round_L2 hG _ _ _
def fX9_isStill_B2 (r2 : Int32 → ax_M → Option (Int32 × ax_M)) (l1 : Int32) (μ : ax_M) : Option (Int32 × ax_M) :=
  (ax_bd (fX9_cells μ) (fun v1 m2 => (if v1 ≤ l1 then (some ((1 : Int32), m2)) else (Option.bind (ax_rl m2 78 10 l1) (fun v3 => (Option.bind (ax_rl m2 76 10 l1) (fun v4 => (if (lg_cmp v3 v4) = 0 then (r2 (l1 + (1 : Int32)) m2) else (some ((0 : Int32), m2))))))))))
theorem pX9_isStill_B2 {x : ax_X} {G : ax_G} (hG : ax_ok G) (r2 : Int32 → ax_M → Option (Int32 × ax_M)) (hr2 : ∀ (a1 : Int32) (μ : ax_M), ax_Rf mX9_isStill 1 x (ax_Z ax_jI x G) G 0 0 2 [some (.ref 57), some (.int a1)] [] μ (r2 a1 μ)) (l1 : Int32) (μ : ax_M) : ax_Rf mX9_isStill 1 x (ax_Z ax_jI x G) G 0 0 2 [some (.ref 57), some (.int l1)] [] μ (fX9_isStill_B2 r2 l1 μ) := by
  unfold fX9_isStill_B2
  refine rf_iload_n (n := 3) 1 dX9_isStill_2 rfl rfl rfl ?_
  refine rf_aload_n (n := 4) 0 dX9_isStill_3 rfl rfl rfl ?_
  refine rf_cV0I (n := 7) hG (okX9_cells _) lVX9_233 hhX9_cells kk_57 sS_57 ⟨_, rfl, rfl⟩ dX9_isStill_4 rfl (Nat.le_of_ble_eq_true rfl) (Nat.le_of_ble_eq_true rfl) (fun v1 m2 => ?_)
  refine rf_icmp_ge (tg := 34) (n := 10) dX9_isStill_7 rfl rfl (fun c6 => ?_) (fun c6 => ?_)
  · refine rf_iconst (n := 35) (1 : Int32) dX9_isStill_34 cciconst_1 rfl ?_
    exact rf_retB rfl (Or.inr rfl) dX9_isStill_35
  · refine rf_aload_n (n := 11) 0 dX9_isStill_10 rfl rfl rfl ?_
    refine rf_getR (n := 14) rr_57_34 kk_78 hG dX9_isStill_11 flX9_76 ki_9_34 sS_57 kk_57 rfl ?_
    refine rf_iload_n (n := 15) 1 dX9_isStill_14 rfl rfl rfl ?_
    refine rf_lald (n := 16) hG dX9_isStill_15 sS_78 kk_78 rfl (fun v3 => ?_)
    refine rf_aload_n (n := 17) 0 dX9_isStill_16 rfl rfl rfl ?_
    refine rf_getR (n := 20) rr_57_32 kk_76 hG dX9_isStill_17 flX9_69 ki_9_32 sS_57 kk_57 rfl ?_
    refine rf_iload_n (n := 21) 1 dX9_isStill_20 rfl rfl rfl ?_
    refine rf_lald (n := 22) hG dX9_isStill_21 sS_76 kk_76 rfl (fun v4 => ?_)
    refine rf_lcmp (n := 23) dX9_isStill_22 rfl ?_
    refine rf_if_eq (tg := 28) (n := 26) dX9_isStill_23 rfl rfl (fun c5 => ?_) (fun c5 => ?_)
    · refine rf_iinc (lc2 := [some (.ref 57), some (.int (l1 + (1 : Int32)))]) (n := 31) (w := (1 : Int32)) 1 dX9_isStill_28 rfl rfl rfl (Nat.le_of_ble_eq_true rfl) rfl rfl ?_
      refine rf_goto (tg := 2) dX9_isStill_31 rfl ?_
      exact hr2 _ _
    · refine rf_iconst (n := 27) (0 : Int32) dX9_isStill_26 cciconst_0 rfl ?_
      exact rf_retB rfl (Or.inl rfl) dX9_isStill_27
theorem pX9_isStill_L2 {x : ax_X} {G : ax_G} (hG : ax_ok G) (n : Nat) (a1 : Int32) (μ : ax_M) : ax_Rf mX9_isStill 1 x (ax_Z ax_jI x G) G 0 0 2 [some (.ref 57), some (.int a1)] [] μ (ax_lp1 (fX9_isStill_B2) n a1 μ) :=
  rf_lp1 (P := fun a1 μ t => ax_Rf mX9_isStill 1 x (ax_Z ax_jI x G) G 0 0 2 [some (.ref 57), some (.int a1)] [] μ t) (fun _ _ => rf_none) (fun rc hrc a1 μ => pX9_isStill_B2 hG rc hrc a1 μ) n a1 μ
def fX9_isStill (μ : ax_M) : Option (Int32 × ax_M) :=
  (ax_lp1 (fX9_isStill_B2) ax_FU (0 : Int32) μ)
theorem okX9_isStill (μ : ax_M) : ax_Ok mX9_isStill 1 ax_jI [.ref 57] μ (fX9_isStill μ) := by
  refine ax_start (lc := [some (.ref 57), none]) 1 (by decide +kernel) rfl (Nat.le_of_ble_eq_true rfl) (fun x G hG => ?_)
  unfold fX9_isStill
  refine rf_iconst (n := 1) (0 : Int32) dX9_isStill_0 cciconst_0 rfl ?_
  refine rf_istore_n (lc2 := [some (.ref 57), some (.int (0 : Int32))]) (n := 2) 1 dX9_isStill_1 rfl rfl (Nat.le_of_ble_eq_true rfl) rfl rfl ?_
  exact pX9_isStill_L2 hG _ _ _
def fX9_settles_K48 (s1 : Int32) (μ : ax_M) : Option (Unit × ax_M) :=
  (if s1 = 0 ∨ s1 = 1 then (ax_let (ax_wi μ 57 35 s1) (fun m9 => (some ((), m9)))) else none)
theorem pX9_settles_K48 {x : ax_X} {G : ax_G} (hG : ax_ok G) (s1 : Int32) (μ : ax_M) : ax_Rf mX9_settles 4 x (ax_Z ax_jV x G) G 0 0 48 [none, none] [.int s1, .ref 57] μ (fX9_settles_K48 s1 μ) := by
  unfold fX9_settles_K48
  refine rf_pfZc (n := 51) hG rfl dX9_settles_48 flX9_303 ki_9_35 nf_9_35 sS_57 kk_57 rfl (fun m9 => ?_)
  exact rf_retV rfl dX9_settles_51
def fX9_settles_K35 (μ : ax_M) : Option (Unit × ax_M) :=
  (ax_bd (fX9_isStill μ) (fun v7 m8 => (if v7 = 0 then (fX9_settles_K48 (1 : Int32) m8) else (fX9_settles_K48 (0 : Int32) m8))))
theorem pX9_settles_K35 {x : ax_X} {G : ax_G} (hG : ax_ok G) (μ : ax_M) : ax_Rf mX9_settles 4 x (ax_Z ax_jV x G) G 0 0 35 [some (.ref 57), none] [] μ (fX9_settles_K35 μ) := by
  unfold fX9_settles_K35
  refine rf_aload_n (n := 36) 0 dX9_settles_35 rfl rfl rfl ?_
  refine rf_aload_n (n := 37) 0 dX9_settles_36 rfl rfl rfl ?_
  refine rf_cV0I (n := 40) hG (okX9_isStill _) lVX9_299 hhX9_isStill kk_57 sS_57 ⟨_, rfl, rfl⟩ dX9_settles_37 rfl (Nat.le_of_ble_eq_true rfl) (Nat.le_of_ble_eq_true rfl) (fun v7 m8 => ?_)
  refine rf_if_ne (tg := 47) (n := 43) dX9_settles_40 rfl rfl (fun c10 => ?_) (fun c10 => ?_)
  · refine rf_iconst (n := 48) (0 : Int32) dX9_settles_47 cciconst_0 rfl ?_
    refine rf_mask (lc2 := [none, none]) [false, true] rfl ?_
    exact pX9_settles_K48 hG _ _
  · refine rf_iconst (n := 44) (1 : Int32) dX9_settles_43 cciconst_1 rfl ?_
    refine rf_goto (tg := 48) dX9_settles_44 rfl ?_
    refine rf_mask (lc2 := [none, none]) [false, true] rfl ?_
    exact pX9_settles_K48 hG _ _
def fX9_settles_B10 (r10 : Int32 → ax_M → Option (Unit × ax_M)) (l1 : Int32) (μ : ax_M) : Option (Unit × ax_M) :=
  (ax_bd (fX9_cells μ) (fun v5 m6 => (if v5 < l1 then (fX9_settles_K35 m6) else (ax_bd (fX9_isStill m6) (fun v11 m12 => (if v11 = 0 then (ax_bd (fX9_round m12) (fun _ m14 => (r10 (l1 + (1 : Int32)) m14))) else (fX9_settles_K35 m12)))))))
theorem pX9_settles_B10 {x : ax_X} {G : ax_G} (hG : ax_ok G) (r10 : Int32 → ax_M → Option (Unit × ax_M)) (hr10 : ∀ (a1 : Int32) (μ : ax_M), ax_Rf mX9_settles 4 x (ax_Z ax_jV x G) G 0 0 10 [some (.ref 57), some (.int a1)] [] μ (r10 a1 μ)) (l1 : Int32) (μ : ax_M) : ax_Rf mX9_settles 4 x (ax_Z ax_jV x G) G 0 0 10 [some (.ref 57), some (.int l1)] [] μ (fX9_settles_B10 r10 l1 μ) := by
  unfold fX9_settles_B10
  refine rf_iload_n (n := 11) 1 dX9_settles_10 rfl rfl rfl ?_
  refine rf_aload_n (n := 12) 0 dX9_settles_11 rfl rfl rfl ?_
  refine rf_cV0I (n := 15) hG (okX9_cells _) lVX9_233 hhX9_cells kk_57 sS_57 ⟨_, rfl, rfl⟩ dX9_settles_12 rfl (Nat.le_of_ble_eq_true rfl) (Nat.le_of_ble_eq_true rfl) (fun v5 m6 => ?_)
  refine rf_icmp_gt (tg := 35) (n := 18) dX9_settles_15 rfl rfl (fun c16 => ?_) (fun c16 => ?_)
  · refine rf_mask (lc2 := [some (.ref 57), none]) [true, false] rfl ?_
    exact pX9_settles_K35 hG _
  · refine rf_aload_n (n := 19) 0 dX9_settles_18 rfl rfl rfl ?_
    refine rf_cV0I (n := 22) hG (okX9_isStill _) lVX9_299 hhX9_isStill kk_57 sS_57 ⟨_, rfl, rfl⟩ dX9_settles_19 rfl (Nat.le_of_ble_eq_true rfl) (Nat.le_of_ble_eq_true rfl) (fun v11 m12 => ?_)
    refine rf_if_ne (tg := 35) (n := 25) dX9_settles_22 rfl rfl (fun c15 => ?_) (fun c15 => ?_)
    · refine rf_mask (lc2 := [some (.ref 57), none]) [true, false] rfl ?_
      exact pX9_settles_K35 hG _
    · refine rf_aload_n (n := 26) 0 dX9_settles_25 rfl rfl rfl ?_
      refine rf_cV0V (n := 29) hG (okX9_round _) lVX9_296 hhX9_round kk_57 sS_57 ⟨_, rfl, rfl⟩ dX9_settles_26 rfl (Nat.le_of_ble_eq_true rfl) (Nat.le_of_ble_eq_true rfl) (fun _ m14 => ?_)
      refine rf_iinc (lc2 := [some (.ref 57), some (.int (l1 + (1 : Int32)))]) (n := 32) (w := (1 : Int32)) 1 dX9_settles_29 rfl rfl rfl (Nat.le_of_ble_eq_true rfl) rfl rfl ?_
      refine rf_goto (tg := 10) dX9_settles_32 rfl ?_
      exact hr10 _ _
theorem pX9_settles_L10 {x : ax_X} {G : ax_G} (hG : ax_ok G) (n : Nat) (a1 : Int32) (μ : ax_M) : ax_Rf mX9_settles 4 x (ax_Z ax_jV x G) G 0 0 10 [some (.ref 57), some (.int a1)] [] μ (ax_lp1 (fX9_settles_B10) n a1 μ) :=
  rf_lp1 (P := fun a1 μ t => ax_Rf mX9_settles 4 x (ax_Z ax_jV x G) G 0 0 10 [some (.ref 57), some (.int a1)] [] μ t) (fun _ _ => rf_none) (fun rc hrc a1 μ => pX9_settles_B10 hG rc hrc a1 μ) n a1 μ
def fX9_settles (μ : ax_M) : Option (Unit × ax_M) :=
  (ax_bd (fX9_rest μ) (fun _ m2 => (ax_bd (fX9_round m2) (fun _ m4 => (ax_lp1 (fX9_settles_B10) ax_FU (0 : Int32) m4)))))
theorem okX9_settles (μ : ax_M) : ax_Ok mX9_settles 4 ax_jV [.ref 57] μ (fX9_settles μ) := by
  refine ax_start (lc := [some (.ref 57), none]) 1 (by decide +kernel) rfl (Nat.le_of_ble_eq_true rfl) (fun x G hG => ?_)
  unfold fX9_settles
  refine rf_aload_n (n := 1) 0 dX9_settles_0 rfl rfl rfl ?_
  refine rf_cV0V (n := 4) hG (okX9_rest _) lVX9_293 hhX9_rest kk_57 sS_57 ⟨_, rfl, rfl⟩ dX9_settles_1 rfl (Nat.le_of_ble_eq_true rfl) (Nat.le_of_ble_eq_true rfl) (fun _ m2 => ?_)
  refine rf_aload_n (n := 5) 0 dX9_settles_4 rfl rfl rfl ?_
  refine rf_cV0V (n := 8) hG (okX9_round _) lVX9_296 hhX9_round kk_57 sS_57 ⟨_, rfl, rfl⟩ dX9_settles_5 rfl (Nat.le_of_ble_eq_true rfl) (Nat.le_of_ble_eq_true rfl) (fun _ m4 => ?_)
  refine rf_iconst (n := 9) (0 : Int32) dX9_settles_8 cciconst_0 rfl ?_
  refine rf_istore_n (lc2 := [some (.ref 57), some (.int (0 : Int32))]) (n := 10) 1 dX9_settles_9 rfl rfl (Nat.le_of_ble_eq_true rfl) rfl rfl ?_
  exact pX9_settles_L10 hG _ _ _
def fX9_leaves_K40 (s0 : Int64) (μ : ax_M) : Option (Int64 × ax_M) :=
  (some (s0, μ))
theorem pX9_leaves_K40 {x : ax_X} {G : ax_G} (hG : ax_ok G) (s0 : Int64) (μ : ax_M) : ax_Rf mX9_leaves 5 x (ax_Z ax_jL x G) G 0 0 40 [none, none] [.long s0] μ (fX9_leaves_K40 s0 μ) := by
  unfold fX9_leaves_K40
  exact rf_retL rfl dX9_leaves_40
def fX9_leaves (p1 : Int32) (μ : ax_M) : Option (Int64 × ax_M) :=
  (ax_let (ax_wi μ 57 0 (0 : Int32)) (fun m1 => (ax_bd (fX9_isCell p1 m1) (fun v2 m3 => (if v2 = 0 then (some ((-1 : Int64), m3)) else (ax_bd (fX9_settles m3) (fun _ m5 => (if (m5.1 57 35) = 0 then (Option.bind (ax_rl m5 76 10 p1) (fun v6 => (fX9_leaves_K40 v6 m5))) else (fX9_leaves_K40 (-2 : Int64) m5)))))))))
theorem okX9_leaves (p1 : Int32) (μ : ax_M) : ax_Ok mX9_leaves 5 ax_jL [.ref 57, .int p1] μ (fX9_leaves p1 μ) := by
  refine ax_start (lc := [some (.ref 57), some (.int p1)]) 0 (by decide +kernel) rfl (Nat.le_of_ble_eq_true rfl) (fun x G hG => ?_)
  unfold fX9_leaves
  refine rf_aload_n (n := 1) 0 dX9_leaves_0 rfl rfl rfl ?_
  refine rf_iconst (n := 2) (0 : Int32) dX9_leaves_1 cciconst_0 rfl ?_
  refine rf_pfI (n := 5) hG rfl dX9_leaves_2 flX9_103 ki_9_0 nf_9_0 sS_57 kk_57 rfl (fun m1 => ?_)
  refine rf_aload_n (n := 6) 0 dX9_leaves_5 rfl rfl rfl ?_
  refine rf_iload_n (n := 7) 1 dX9_leaves_6 rfl rfl rfl ?_
  refine rf_cV1I (n := 10) hG (okX9_isCell _ _) lVX9_252 hhX9_isCell kk_57 sS_57 ⟨_, rfl, rfl⟩ dX9_leaves_7 rfl (Nat.le_of_ble_eq_true rfl) (Nat.le_of_ble_eq_true rfl) (fun v2 m3 => ?_)
  refine rf_if_ne (tg := 17) (n := 13) dX9_leaves_10 rfl rfl (fun c8 => ?_) (fun c8 => ?_)
  · refine rf_aload_n (n := 18) 0 dX9_leaves_17 rfl rfl rfl ?_
    refine rf_cV0V (n := 21) hG (okX9_settles _) lVX9_306 hhX9_settles kk_57 sS_57 ⟨_, rfl, rfl⟩ dX9_leaves_18 rfl (Nat.le_of_ble_eq_true rfl) (Nat.le_of_ble_eq_true rfl) (fun _ m5 => ?_)
    refine rf_aload_n (n := 22) 0 dX9_leaves_21 rfl rfl rfl ?_
    refine rf_getI (n := 25) hG dX9_leaves_22 flX9_303 ki_9_35 sS_57 kk_57 rfl ?_
    refine rf_if_eq (tg := 34) (n := 28) dX9_leaves_25 rfl rfl (fun c7 => ?_) (fun c7 => ?_)
    · refine rf_aload_n (n := 35) 0 dX9_leaves_34 rfl rfl rfl ?_
      refine rf_getR (n := 38) rr_57_32 kk_76 hG dX9_leaves_35 flX9_69 ki_9_32 sS_57 kk_57 rfl ?_
      refine rf_iload_n (n := 39) 1 dX9_leaves_38 rfl rfl rfl ?_
      refine rf_lald (n := 40) hG dX9_leaves_39 sS_76 kk_76 rfl (fun v6 => ?_)
      refine rf_mask (lc2 := [none, none]) [false, false] rfl ?_
      exact pX9_leaves_K40 hG _ _
    · refine rf_ldc2 (n := 31) dX9_leaves_28 clX9_315 rfl ?_
      refine rf_goto (tg := 40) dX9_leaves_31 rfl ?_
      refine rf_mask (lc2 := [none, none]) [false, false] rfl ?_
      exact pX9_leaves_K40 hG _ _
  · refine rf_ldc2 (n := 16) dX9_leaves_13 clX9_313 rfl ?_
    exact rf_retL rfl dX9_leaves_16
def fX8_comes_K21 (μ : ax_M) : Option (Int64 × ax_M) :=
  (some ((-9223372036854775808 : Int64), μ))
theorem pX8_comes_K21 {x : ax_X} {G : ax_G} (hG : ax_ok G) (μ : ax_M) : ax_Rf mX8_comes 4 x (ax_Z ax_jL x G) G 0 0 21 [none, none] [] μ (fX8_comes_K21 μ) := by
  unfold fX8_comes_K21
  refine rf_ldc2 (n := 24) dX8_comes_21 clX8_225 rfl ?_
  exact rf_retL rfl dX8_comes_24
def fX8_comes (p1 : Int32) (μ : ax_M) : Option (Int64 × ax_M) :=
  (ax_bd (fX1_hasCell p1 μ) (fun v1 m2 => (if v1 = 0 then (fX8_comes_K21 m2) else (ax_bd (fX5_isForever m2) (fun v3 m4 => (if v3 = 0 then (Option.bind (ax_rd m4 36 10 p1) (fun v5 => (some ((Int32.toInt64 v5), m4)))) else (fX8_comes_K21 m4)))))))
theorem okX8_comes (p1 : Int32) (μ : ax_M) : ax_Ok mX8_comes 4 ax_jL [.ref 0, .int p1] μ (fX8_comes p1 μ) := by
  refine ax_start (lc := [some (.ref 0), some (.int p1)]) 0 (by decide +kernel) rfl (Nat.le_of_ble_eq_true rfl) (fun x G hG => ?_)
  unfold fX8_comes
  refine rf_aload_n (n := 1) 0 dX8_comes_0 rfl rfl rfl ?_
  refine rf_getR (n := 4) rr_0_2 kk_2 hG dX8_comes_1 flX8_16 ki_8_2 sS_0 kk_0 rfl ?_
  refine rf_iload_n (n := 5) 1 dX8_comes_4 rfl rfl rfl ?_
  refine rf_cV1I (n := 8) hG (okX1_hasCell _ _) lVX8_152 hhX1_hasCell kk_2 sS_2 ⟨_, rfl, rfl⟩ dX8_comes_5 rfl (Nat.le_of_ble_eq_true rfl) (Nat.le_of_ble_eq_true rfl) (fun v1 m2 => ?_)
  refine rf_if_eq (tg := 21) (n := 11) dX8_comes_8 rfl rfl (fun c7 => ?_) (fun c7 => ?_)
  · refine rf_mask (lc2 := [none, none]) [false, false] rfl ?_
    exact pX8_comes_K21 hG _
  · refine rf_aload_n (n := 12) 0 dX8_comes_11 rfl rfl rfl ?_
    refine rf_getR (n := 15) rr_0_5 kk_32 hG dX8_comes_12 flX8_41 ki_8_5 sS_0 kk_0 rfl ?_
    refine rf_cV0I (n := 18) hG (okX5_isForever _) lVX8_216 hhX5_isForever kk_32 sS_32 ⟨_, rfl, rfl⟩ dX8_comes_15 rfl (Nat.le_of_ble_eq_true rfl) (Nat.le_of_ble_eq_true rfl) (fun v3 m4 => ?_)
    refine rf_if_eq (tg := 25) (n := 21) dX8_comes_18 rfl rfl (fun c6 => ?_) (fun c6 => ?_)
    · refine rf_aload_n (n := 26) 0 dX8_comes_25 rfl rfl rfl ?_
      refine rf_getR (n := 29) rr_0_5 kk_32 hG dX8_comes_26 flX8_41 ki_8_5 sS_0 kk_0 rfl ?_
      refine rf_getR (n := 32) rr_32_4 kk_36 hG dX8_comes_29 flX8_227 ki_5_4 sS_32 kk_32 rfl ?_
      refine rf_iload_n (n := 33) 1 dX8_comes_32 rfl rfl rfl ?_
      refine rf_iald (n := 34) hG dX8_comes_33 sS_36 kk_36 rfl (fun v5 => ?_)
      refine rf_i2l (n := 35) dX8_comes_34 rfl ?_
      exact rf_retL rfl dX8_comes_35
    · refine rf_mask (lc2 := [none, none]) [false, false] rfl ?_
      exact pX8_comes_K21 hG _
def fX9_comes_K40 (s0 : Int64) (μ : ax_M) : Option (Int64 × ax_M) :=
  (some (s0, μ))
theorem pX9_comes_K40 {x : ax_X} {G : ax_G} (hG : ax_ok G) (s0 : Int64) (μ : ax_M) : ax_Rf mX9_comes 5 x (ax_Z ax_jL x G) G 0 0 40 [none, none] [.long s0] μ (fX9_comes_K40 s0 μ) := by
  unfold fX9_comes_K40
  exact rf_retL rfl dX9_comes_40
def fX9_comes (p1 : Int32) (μ : ax_M) : Option (Int64 × ax_M) :=
  (ax_let (ax_wi μ 57 0 (0 : Int32)) (fun m1 => (ax_bd (fX9_isCell p1 m1) (fun v2 m3 => (if v2 = 0 then (some ((-9223372036854775808 : Int64), m3)) else (ax_bd (fX9_settles m3) (fun _ m5 => (if (m5.1 57 35) = 0 then (Option.bind (ax_rl m5 77 10 p1) (fun v6 => (fX9_comes_K40 v6 m5))) else (fX9_comes_K40 (-9223372036854775808 : Int64) m5)))))))))
theorem okX9_comes (p1 : Int32) (μ : ax_M) : ax_Ok mX9_comes 5 ax_jL [.ref 57, .int p1] μ (fX9_comes p1 μ) := by
  refine ax_start (lc := [some (.ref 57), some (.int p1)]) 0 (by decide +kernel) rfl (Nat.le_of_ble_eq_true rfl) (fun x G hG => ?_)
  unfold fX9_comes
  refine rf_aload_n (n := 1) 0 dX9_comes_0 rfl rfl rfl ?_
  refine rf_iconst (n := 2) (0 : Int32) dX9_comes_1 cciconst_0 rfl ?_
  refine rf_pfI (n := 5) hG rfl dX9_comes_2 flX9_103 ki_9_0 nf_9_0 sS_57 kk_57 rfl (fun m1 => ?_)
  refine rf_aload_n (n := 6) 0 dX9_comes_5 rfl rfl rfl ?_
  refine rf_iload_n (n := 7) 1 dX9_comes_6 rfl rfl rfl ?_
  refine rf_cV1I (n := 10) hG (okX9_isCell _ _) lVX9_252 hhX9_isCell kk_57 sS_57 ⟨_, rfl, rfl⟩ dX9_comes_7 rfl (Nat.le_of_ble_eq_true rfl) (Nat.le_of_ble_eq_true rfl) (fun v2 m3 => ?_)
  refine rf_if_ne (tg := 17) (n := 13) dX9_comes_10 rfl rfl (fun c8 => ?_) (fun c8 => ?_)
  · refine rf_aload_n (n := 18) 0 dX9_comes_17 rfl rfl rfl ?_
    refine rf_cV0V (n := 21) hG (okX9_settles _) lVX9_306 hhX9_settles kk_57 sS_57 ⟨_, rfl, rfl⟩ dX9_comes_18 rfl (Nat.le_of_ble_eq_true rfl) (Nat.le_of_ble_eq_true rfl) (fun _ m5 => ?_)
    refine rf_aload_n (n := 22) 0 dX9_comes_21 rfl rfl rfl ?_
    refine rf_getI (n := 25) hG dX9_comes_22 flX9_303 ki_9_35 sS_57 kk_57 rfl ?_
    refine rf_if_eq (tg := 34) (n := 28) dX9_comes_25 rfl rfl (fun c7 => ?_) (fun c7 => ?_)
    · refine rf_aload_n (n := 35) 0 dX9_comes_34 rfl rfl rfl ?_
      refine rf_getR (n := 38) rr_57_33 kk_77 hG dX9_comes_35 flX9_73 ki_9_33 sS_57 kk_57 rfl ?_
      refine rf_iload_n (n := 39) 1 dX9_comes_38 rfl rfl rfl ?_
      refine rf_lald (n := 40) hG dX9_comes_39 sS_77 kk_77 rfl (fun v6 => ?_)
      refine rf_mask (lc2 := [none, none]) [false, false] rfl ?_
      exact pX9_comes_K40 hG _ _
    · refine rf_ldc2 (n := 31) dX9_comes_28 clX9_317 rfl ?_
      refine rf_goto (tg := 40) dX9_comes_31 rfl ?_
      refine rf_mask (lc2 := [none, none]) [false, false] rfl ?_
      exact pX9_comes_K40 hG _ _
  · refine rf_ldc2 (n := 16) dX9_comes_13 clX9_317 rfl ?_
    exact rf_retL rfl dX9_comes_16
def fX1_limitOf_K25 (l1 : Int32) (s0 : Int32) (μ : ax_M) : Option (Int32 × ax_M) :=
  (Option.bind (ax_rd μ 8 10 l1) (fun v5 => (some ((s0 - ((64 : Int32) * v5)), μ))))
theorem pX1_limitOf_K25 {x : ax_X} {G : ax_G} (hG : ax_ok G) (l1 : Int32) (s0 : Int32) (μ : ax_M) : ax_Rf mX1_limitOf 1 x (ax_Z ax_jI x G) G 0 0 25 [some (.ref 2), some (.int l1), none, none] [.int s0] μ (fX1_limitOf_K25 l1 s0 μ) := by
  unfold fX1_limitOf_K25
  refine rf_istore_n (lc2 := [some (.ref 2), some (.int l1), none, some (.int s0)]) (n := 26) 3 dX1_limitOf_25 rfl rfl (Nat.le_of_ble_eq_true rfl) rfl rfl ?_
  refine rf_iload_n (n := 27) 3 dX1_limitOf_26 rfl rfl rfl ?_
  refine rf_bipush (n := 29) (64 : Int32) dX1_limitOf_27 ccbipush_64 rfl ?_
  refine rf_aload_n (n := 30) 0 dX1_limitOf_29 rfl rfl rfl ?_
  refine rf_getR (n := 33) rr_2_5 kk_8 hG dX1_limitOf_30 flX1_27 ki_1_5 sS_2 kk_2 rfl ?_
  refine rf_iload_n (n := 34) 1 dX1_limitOf_33 rfl rfl rfl ?_
  refine rf_iald (n := 35) hG dX1_limitOf_34 sS_8 kk_8 rfl (fun v5 => ?_)
  refine rf_imul (n := 36) dX1_limitOf_35 rfl ?_
  refine rf_isub (n := 37) dX1_limitOf_36 rfl ?_
  exact rf_retI rfl dX1_limitOf_37
def fX1_limitOf (p1 : Int32) (p2 : Int32) (μ : ax_M) : Option (Int32 × ax_M) :=
  (ax_bd (fX1_isFlop p1 μ) (fun v1 m2 => (if v1 = 0 then (Option.bind (ax_rd m2 7 10 p1) (fun v3 => (Option.bind (ax_rd m2 5 4 v3) (fun v4 => (fX1_limitOf_K25 p1 (v4 * p2) m2))))) else (fX1_limitOf_K25 p1 (0 : Int32) m2))))
theorem okX1_limitOf (p1 : Int32) (p2 : Int32) (μ : ax_M) : ax_Ok mX1_limitOf 1 ax_jI [.ref 2, .int p1, .int p2] μ (fX1_limitOf p1 p2 μ) := by
  refine ax_start (lc := [some (.ref 2), some (.int p1), some (.int p2), none]) 1 (by decide +kernel) rfl (Nat.le_of_ble_eq_true rfl) (fun x G hG => ?_)
  unfold fX1_limitOf
  refine rf_aload_n (n := 1) 0 dX1_limitOf_0 rfl rfl rfl ?_
  refine rf_iload_n (n := 2) 1 dX1_limitOf_1 rfl rfl rfl ?_
  refine rf_cV1I (n := 5) hG (okX1_isFlop _ _) lVX1_96 hhX1_isFlop kk_2 sS_2 ⟨_, rfl, rfl⟩ dX1_limitOf_2 rfl (Nat.le_of_ble_eq_true rfl) (Nat.le_of_ble_eq_true rfl) (fun v1 m2 => ?_)
  refine rf_if_eq (tg := 12) (n := 8) dX1_limitOf_5 rfl rfl (fun c6 => ?_) (fun c6 => ?_)
  · refine rf_aload_n (n := 13) 0 dX1_limitOf_12 rfl rfl rfl ?_
    refine rf_getR (n := 16) rr_2_2 kk_5 hG dX1_limitOf_13 flX1_18 ki_1_2 sS_2 kk_2 rfl ?_
    refine rf_aload_n (n := 17) 0 dX1_limitOf_16 rfl rfl rfl ?_
    refine rf_getR (n := 20) rr_2_4 kk_7 hG dX1_limitOf_17 flX1_24 ki_1_4 sS_2 kk_2 rfl ?_
    refine rf_iload_n (n := 21) 1 dX1_limitOf_20 rfl rfl rfl ?_
    refine rf_iald (n := 22) hG dX1_limitOf_21 sS_7 kk_7 rfl (fun v3 => ?_)
    refine rf_iald (n := 23) hG dX1_limitOf_22 sS_5 kk_5 rfl (fun v4 => ?_)
    refine rf_iload_n (n := 24) 2 dX1_limitOf_23 rfl rfl rfl ?_
    refine rf_imul (n := 25) dX1_limitOf_24 rfl ?_
    refine rf_mask (lc2 := [some (.ref 2), some (.int p1), none, none]) [true, true, false, true] rfl ?_
    exact pX1_limitOf_K25 hG _ _ _
  · refine rf_iconst (n := 9) (0 : Int32) dX1_limitOf_8 cciconst_0 rfl ?_
    refine rf_goto (tg := 25) dX1_limitOf_9 rfl ?_
    refine rf_mask (lc2 := [some (.ref 2), some (.int p1), none, none]) [true, true, false, true] rfl ?_
    exact pX1_limitOf_K25 hG _ _ _
def fX1_roomBy_K26 (s0 : Int32) (s1 : Int32) (μ : ax_M) : Option (Int32 × ax_M) :=
  (some ((s0 - s1), μ))
theorem pX1_roomBy_K26 {x : ax_X} {G : ax_G} (hG : ax_ok G) (s0 : Int32) (s1 : Int32) (μ : ax_M) : ax_Rf mX1_roomBy 2 x (ax_Z ax_jI x G) G 0 0 26 [none, none, none] [.int s1, .int s0] μ (fX1_roomBy_K26 s0 s1 μ) := by
  unfold fX1_roomBy_K26
  refine rf_isub (n := 27) dX1_roomBy_26 rfl ?_
  exact rf_retI rfl dX1_roomBy_27
def fX1_roomBy (p1 : Int32) (p2 : Int32) (μ : ax_M) : Option (Int32 × ax_M) :=
  (ax_bd (fX1_limitOf p1 (μ.1 2 16) μ) (fun v1 m2 => (ax_bd (fX1_isFlop p1 m2) (fun v3 m4 => (if v3 = 0 then (fX1_roomBy_K26 v1 (ax_mx p2 (0 : Int32)) m4) else (fX1_roomBy_K26 v1 p2 m4))))))
theorem okX1_roomBy (p1 : Int32) (p2 : Int32) (μ : ax_M) : ax_Ok mX1_roomBy 2 ax_jI [.ref 2, .int p1, .int p2] μ (fX1_roomBy p1 p2 μ) := by
  refine ax_start (lc := [some (.ref 2), some (.int p1), some (.int p2)]) 0 (by decide +kernel) rfl (Nat.le_of_ble_eq_true rfl) (fun x G hG => ?_)
  unfold fX1_roomBy
  refine rf_aload_n (n := 1) 0 dX1_roomBy_0 rfl rfl rfl ?_
  refine rf_iload_n (n := 2) 1 dX1_roomBy_1 rfl rfl rfl ?_
  refine rf_aload_n (n := 3) 0 dX1_roomBy_2 rfl rfl rfl ?_
  refine rf_getI (n := 6) hG dX1_roomBy_3 flX1_48 ki_1_16 sS_2 kk_2 rfl ?_
  refine rf_cV2I (n := 9) hG (okX1_limitOf _ _ _) lVX1_100 hhX1_limitOf kk_2 sS_2 ⟨_, rfl, rfl⟩ dX1_roomBy_6 rfl (Nat.le_of_ble_eq_true rfl) (Nat.le_of_ble_eq_true rfl) (fun v1 m2 => ?_)
  refine rf_aload_n (n := 10) 0 dX1_roomBy_9 rfl rfl rfl ?_
  refine rf_iload_n (n := 11) 1 dX1_roomBy_10 rfl rfl rfl ?_
  refine rf_cV1I (n := 14) hG (okX1_isFlop _ _) lVX1_96 hhX1_isFlop kk_2 sS_2 ⟨_, rfl, rfl⟩ dX1_roomBy_11 rfl (Nat.le_of_ble_eq_true rfl) (Nat.le_of_ble_eq_true rfl) (fun v3 m4 => ?_)
  refine rf_if_eq (tg := 21) (n := 17) dX1_roomBy_14 rfl rfl (fun c5 => ?_) (fun c5 => ?_)
  · refine rf_iload_n (n := 22) 2 dX1_roomBy_21 rfl rfl rfl ?_
    refine rf_iconst (n := 23) (0 : Int32) dX1_roomBy_22 cciconst_0 rfl ?_
    refine rf_max (n := 26) dX1_roomBy_23 mxX1_90 ax_maxw (Nat.le_of_ble_eq_true rfl) (Nat.le_of_ble_eq_true rfl) rfl ?_
    refine rf_mask (lc2 := [none, none, none]) [false, false, false] rfl ?_
    exact pX1_roomBy_K26 hG _ _ _
  · refine rf_iload_n (n := 18) 2 dX1_roomBy_17 rfl rfl rfl ?_
    refine rf_goto (tg := 26) dX1_roomBy_18 rfl ?_
    refine rf_mask (lc2 := [none, none, none]) [false, false, false] rfl ?_
    exact pX1_roomBy_K26 hG _ _ _
def fX5_roomOf (p1 : Int32) (μ : ax_M) : Option (Int32 × ax_M) :=
  (Option.bind (ax_rd μ 36 10 p1) (fun v1 => (ax_bd (fX1_roomBy p1 v1 μ) (fun v2 m3 => (some (v2, m3))))))
theorem okX5_roomOf (p1 : Int32) (μ : ax_M) : ax_Ok mX5_roomOf 3 ax_jI [.ref 32, .int p1] μ (fX5_roomOf p1 μ) := by
  refine ax_start (lc := [some (.ref 32), some (.int p1)]) 0 (by decide +kernel) rfl (Nat.le_of_ble_eq_true rfl) (fun x G hG => ?_)
  unfold fX5_roomOf
  refine rf_aload_n (n := 1) 0 dX5_roomOf_0 rfl rfl rfl ?_
  refine rf_getR (n := 4) rr_32_0 kk_2 hG dX5_roomOf_1 flX5_24 ki_5_0 sS_32 kk_32 rfl ?_
  refine rf_iload_n (n := 5) 1 dX5_roomOf_4 rfl rfl rfl ?_
  refine rf_aload_n (n := 6) 0 dX5_roomOf_5 rfl rfl rfl ?_
  refine rf_getR (n := 9) rr_32_4 kk_36 hG dX5_roomOf_6 flX5_21 ki_5_4 sS_32 kk_32 rfl ?_
  refine rf_iload_n (n := 10) 1 dX5_roomOf_9 rfl rfl rfl ?_
  refine rf_iald (n := 11) hG dX5_roomOf_10 sS_36 kk_36 rfl (fun v1 => ?_)
  refine rf_cV2I (n := 14) hG (okX1_roomBy _ _ _) lVX5_72 hhX1_roomBy kk_2 sS_2 ⟨_, rfl, rfl⟩ dX5_roomOf_11 rfl (Nat.le_of_ble_eq_true rfl) (Nat.le_of_ble_eq_true rfl) (fun v2 m3 => ?_)
  exact rf_retI rfl dX5_roomOf_14
def fX8_room_K21 (μ : ax_M) : Option (Int64 × ax_M) :=
  (some ((-9223372036854775808 : Int64), μ))
theorem pX8_room_K21 {x : ax_X} {G : ax_G} (hG : ax_ok G) (μ : ax_M) : ax_Rf mX8_room 4 x (ax_Z ax_jL x G) G 0 0 21 [none, none] [] μ (fX8_room_K21 μ) := by
  unfold fX8_room_K21
  refine rf_ldc2 (n := 24) dX8_room_21 clX8_225 rfl ?_
  exact rf_retL rfl dX8_room_24
def fX8_room (p1 : Int32) (μ : ax_M) : Option (Int64 × ax_M) :=
  (ax_bd (fX1_hasCell p1 μ) (fun v1 m2 => (if v1 = 0 then (fX8_room_K21 m2) else (ax_bd (fX5_isForever m2) (fun v3 m4 => (if v3 = 0 then (ax_bd (fX5_roomOf p1 m4) (fun v5 m6 => (some ((Int32.toInt64 v5), m6)))) else (fX8_room_K21 m4)))))))
theorem okX8_room (p1 : Int32) (μ : ax_M) : ax_Ok mX8_room 4 ax_jL [.ref 0, .int p1] μ (fX8_room p1 μ) := by
  refine ax_start (lc := [some (.ref 0), some (.int p1)]) 0 (by decide +kernel) rfl (Nat.le_of_ble_eq_true rfl) (fun x G hG => ?_)
  unfold fX8_room
  refine rf_aload_n (n := 1) 0 dX8_room_0 rfl rfl rfl ?_
  refine rf_getR (n := 4) rr_0_2 kk_2 hG dX8_room_1 flX8_16 ki_8_2 sS_0 kk_0 rfl ?_
  refine rf_iload_n (n := 5) 1 dX8_room_4 rfl rfl rfl ?_
  refine rf_cV1I (n := 8) hG (okX1_hasCell _ _) lVX8_152 hhX1_hasCell kk_2 sS_2 ⟨_, rfl, rfl⟩ dX8_room_5 rfl (Nat.le_of_ble_eq_true rfl) (Nat.le_of_ble_eq_true rfl) (fun v1 m2 => ?_)
  refine rf_if_eq (tg := 21) (n := 11) dX8_room_8 rfl rfl (fun c8 => ?_) (fun c8 => ?_)
  · refine rf_mask (lc2 := [none, none]) [false, false] rfl ?_
    exact pX8_room_K21 hG _
  · refine rf_aload_n (n := 12) 0 dX8_room_11 rfl rfl rfl ?_
    refine rf_getR (n := 15) rr_0_5 kk_32 hG dX8_room_12 flX8_41 ki_8_5 sS_0 kk_0 rfl ?_
    refine rf_cV0I (n := 18) hG (okX5_isForever _) lVX8_216 hhX5_isForever kk_32 sS_32 ⟨_, rfl, rfl⟩ dX8_room_15 rfl (Nat.le_of_ble_eq_true rfl) (Nat.le_of_ble_eq_true rfl) (fun v3 m4 => ?_)
    refine rf_if_eq (tg := 25) (n := 21) dX8_room_18 rfl rfl (fun c7 => ?_) (fun c7 => ?_)
    · refine rf_aload_n (n := 26) 0 dX8_room_25 rfl rfl rfl ?_
      refine rf_getR (n := 29) rr_0_5 kk_32 hG dX8_room_26 flX8_41 ki_8_5 sS_0 kk_0 rfl ?_
      refine rf_iload_n (n := 30) 1 dX8_room_29 rfl rfl rfl ?_
      refine rf_cV1I (n := 33) hG (okX5_roomOf _ _) lVX8_230 hhX5_roomOf kk_32 sS_32 ⟨_, rfl, rfl⟩ dX8_room_30 rfl (Nat.le_of_ble_eq_true rfl) (Nat.le_of_ble_eq_true rfl) (fun v5 m6 => ?_)
      refine rf_i2l (n := 34) dX8_room_33 rfl ?_
      exact rf_retL rfl dX8_room_34
    · refine rf_mask (lc2 := [none, none]) [false, false] rfl ?_
      exact pX8_room_K21 hG _
def fX9_roomOf_K54 (s0 : Int64) (μ : ax_M) : Option (Int64 × ax_M) :=
  (some (s0, μ))
theorem pX9_roomOf_K54 {x : ax_X} {G : ax_G} (hG : ax_ok G) (s0 : Int64) (μ : ax_M) : ax_Rf mX9_roomOf 1 x (ax_Z ax_jL x G) G 0 0 54 [none, none, none, none, none, none, none, none] [.long s0] μ (fX9_roomOf_K54 s0 μ) := by
  unfold fX9_roomOf_K54
  exact rf_retL rfl dX9_roomOf_54
def fX9_roomOf (p1 : Int32) (p2 : Int64) (p4 : Int64) (μ : ax_M) : Option (Int64 × ax_M) :=
  (Option.bind (ax_rd μ 66 20 p1) (fun v1 => (ax_let ((64 : Int64) * (Int32.toInt64 v1)) (fun v2 => (ax_bd (fX9_isFlop p1 μ) (fun v3 m4 => (if v3 = 0 then (Option.bind (ax_rd m4 65 20 p1) (fun v5 => (Option.bind (ax_rd m4 74 68 ((5 : Int32) + v5)) (fun v6 => (ax_bd (fX9_periodLong m4) (fun v7 m8 => (fX9_roomOf_K54 ((((Int32.toInt64 v6) * v7) - v2) - p2) m8))))))) else (fX9_roomOf_K54 ((-v2) - p4) m4))))))))
theorem okX9_roomOf (p1 : Int32) (p2 : Int64) (p4 : Int64) (μ : ax_M) : ax_Ok mX9_roomOf 1 ax_jL [.ref 57, .int p1, .long p2, .long p4] μ (fX9_roomOf p1 p2 p4 μ) := by
  refine ax_start (lc := [some (.ref 57), some (.int p1), some (.long p2), none, some (.long p4), none, none, none]) 2 (by decide +kernel) rfl (Nat.le_of_ble_eq_true rfl) (fun x G hG => ?_)
  unfold fX9_roomOf
  refine rf_ldc2 (n := 3) dX9_roomOf_0 clX9_275 rfl ?_
  refine rf_aload_n (n := 4) 0 dX9_roomOf_3 rfl rfl rfl ?_
  refine rf_getR (n := 7) rr_57_10 kk_66 hG dX9_roomOf_4 flX9_35 ki_9_10 sS_57 kk_57 rfl ?_
  refine rf_iload_n (n := 8) 1 dX9_roomOf_7 rfl rfl rfl ?_
  refine rf_iald (n := 9) hG dX9_roomOf_8 sS_66 kk_66 rfl (fun v1 => ?_)
  refine rf_i2l (n := 10) dX9_roomOf_9 rfl ?_
  refine rf_lmul (n := 11) dX9_roomOf_10 rfl ?_
  refine rf_letL (fun v2 => ?_)
  refine rf_lstore (lc2 := [some (.ref 57), some (.int p1), some (.long p2), none, some (.long p4), none, some (.long v2), none]) (n := 13) 6 dX9_roomOf_11 rfl (Nat.le_of_ble_eq_true rfl) rfl rfl ?_
  refine rf_aload_n (n := 14) 0 dX9_roomOf_13 rfl rfl rfl ?_
  refine rf_iload_n (n := 15) 1 dX9_roomOf_14 rfl rfl rfl ?_
  refine rf_cV1I (n := 18) hG (okX9_isFlop _ _) lVX9_281 hhX9_isFlop kk_57 sS_57 ⟨_, rfl, rfl⟩ dX9_roomOf_15 rfl (Nat.le_of_ble_eq_true rfl) (Nat.le_of_ble_eq_true rfl) (fun v3 m4 => ?_)
  refine rf_if_eq (tg := 30) (n := 21) dX9_roomOf_18 rfl rfl (fun c9 => ?_) (fun c9 => ?_)
  · refine rf_aload_n (n := 31) 0 dX9_roomOf_30 rfl rfl rfl ?_
    refine rf_getR (n := 34) rr_57_28 kk_74 hG dX9_roomOf_31 flX9_63 ki_9_28 sS_57 kk_57 rfl ?_
    refine rf_iconst (n := 35) (5 : Int32) dX9_roomOf_34 cciconst_5 rfl ?_
    refine rf_aload_n (n := 36) 0 dX9_roomOf_35 rfl rfl rfl ?_
    refine rf_getR (n := 39) rr_57_9 kk_65 hG dX9_roomOf_36 flX9_32 ki_9_9 sS_57 kk_57 rfl ?_
    refine rf_iload_n (n := 40) 1 dX9_roomOf_39 rfl rfl rfl ?_
    refine rf_iald (n := 41) hG dX9_roomOf_40 sS_65 kk_65 rfl (fun v5 => ?_)
    refine rf_iadd (n := 42) dX9_roomOf_41 rfl ?_
    refine rf_iald (n := 43) hG dX9_roomOf_42 sS_74 kk_74 rfl (fun v6 => ?_)
    refine rf_i2l (n := 44) dX9_roomOf_43 rfl ?_
    refine rf_aload_n (n := 45) 0 dX9_roomOf_44 rfl rfl rfl ?_
    refine rf_cV0L (n := 48) hG (okX9_periodLong _) lVX9_277 hhX9_periodLong kk_57 sS_57 ⟨_, rfl, rfl⟩ dX9_roomOf_45 rfl (Nat.le_of_ble_eq_true rfl) (Nat.le_of_ble_eq_true rfl) (fun v7 m8 => ?_)
    refine rf_lmul (n := 49) dX9_roomOf_48 rfl ?_
    refine rf_lload (n := 51) 6 dX9_roomOf_49 rfl rfl ?_
    refine rf_lsub (n := 52) dX9_roomOf_51 rfl ?_
    refine rf_lload_n (n := 53) 2 dX9_roomOf_52 rfl rfl rfl ?_
    refine rf_lsub (n := 54) dX9_roomOf_53 rfl ?_
    refine rf_mask (lc2 := [none, none, none, none, none, none, none, none]) [false, false, false, true, false, true, false, true] rfl ?_
    exact pX9_roomOf_K54 hG _ _
  · refine rf_lload (n := 23) 6 dX9_roomOf_21 rfl rfl ?_
    refine rf_lneg (n := 24) dX9_roomOf_23 rfl ?_
    refine rf_lload (n := 26) 4 dX9_roomOf_24 rfl rfl ?_
    refine rf_lsub (n := 27) dX9_roomOf_26 rfl ?_
    refine rf_goto (tg := 54) dX9_roomOf_27 rfl ?_
    refine rf_mask (lc2 := [none, none, none, none, none, none, none, none]) [false, false, false, true, false, true, false, true] rfl ?_
    exact pX9_roomOf_K54 hG _ _
def fX9_room_K51 (s0 : Int64) (μ : ax_M) : Option (Int64 × ax_M) :=
  (some (s0, μ))
theorem pX9_room_K51 {x : ax_X} {G : ax_G} (hG : ax_ok G) (s0 : Int64) (μ : ax_M) : ax_Rf mX9_room 5 x (ax_Z ax_jL x G) G 0 0 51 [none, none] [.long s0] μ (fX9_room_K51 s0 μ) := by
  unfold fX9_room_K51
  exact rf_retL rfl dX9_room_51
def fX9_room (p1 : Int32) (μ : ax_M) : Option (Int64 × ax_M) :=
  (ax_let (ax_wi μ 57 0 (0 : Int32)) (fun m1 => (ax_bd (fX9_isCell p1 m1) (fun v2 m3 => (if v2 = 0 then (some ((-9223372036854775808 : Int64), m3)) else (ax_bd (fX9_settles m3) (fun _ m5 => (if (m5.1 57 35) = 0 then (Option.bind (ax_rl m5 76 10 p1) (fun v6 => (Option.bind (ax_rl m5 77 10 p1) (fun v7 => (ax_bd (fX9_roomOf p1 v6 v7 m5) (fun v8 m9 => (fX9_room_K51 v8 m9))))))) else (fX9_room_K51 (-9223372036854775808 : Int64) m5)))))))))
theorem okX9_room (p1 : Int32) (μ : ax_M) : ax_Ok mX9_room 5 ax_jL [.ref 57, .int p1] μ (fX9_room p1 μ) := by
  refine ax_start (lc := [some (.ref 57), some (.int p1)]) 0 (by decide +kernel) rfl (Nat.le_of_ble_eq_true rfl) (fun x G hG => ?_)
  unfold fX9_room
  refine rf_aload_n (n := 1) 0 dX9_room_0 rfl rfl rfl ?_
  refine rf_iconst (n := 2) (0 : Int32) dX9_room_1 cciconst_0 rfl ?_
  refine rf_pfI (n := 5) hG rfl dX9_room_2 flX9_103 ki_9_0 nf_9_0 sS_57 kk_57 rfl (fun m1 => ?_)
  refine rf_aload_n (n := 6) 0 dX9_room_5 rfl rfl rfl ?_
  refine rf_iload_n (n := 7) 1 dX9_room_6 rfl rfl rfl ?_
  refine rf_cV1I (n := 10) hG (okX9_isCell _ _) lVX9_252 hhX9_isCell kk_57 sS_57 ⟨_, rfl, rfl⟩ dX9_room_7 rfl (Nat.le_of_ble_eq_true rfl) (Nat.le_of_ble_eq_true rfl) (fun v2 m3 => ?_)
  refine rf_if_ne (tg := 17) (n := 13) dX9_room_10 rfl rfl (fun c11 => ?_) (fun c11 => ?_)
  · refine rf_aload_n (n := 18) 0 dX9_room_17 rfl rfl rfl ?_
    refine rf_cV0V (n := 21) hG (okX9_settles _) lVX9_306 hhX9_settles kk_57 sS_57 ⟨_, rfl, rfl⟩ dX9_room_18 rfl (Nat.le_of_ble_eq_true rfl) (Nat.le_of_ble_eq_true rfl) (fun _ m5 => ?_)
    refine rf_aload_n (n := 22) 0 dX9_room_21 rfl rfl rfl ?_
    refine rf_getI (n := 25) hG dX9_room_22 flX9_303 ki_9_35 sS_57 kk_57 rfl ?_
    refine rf_if_eq (tg := 34) (n := 28) dX9_room_25 rfl rfl (fun c10 => ?_) (fun c10 => ?_)
    · refine rf_aload_n (n := 35) 0 dX9_room_34 rfl rfl rfl ?_
      refine rf_iload_n (n := 36) 1 dX9_room_35 rfl rfl rfl ?_
      refine rf_aload_n (n := 37) 0 dX9_room_36 rfl rfl rfl ?_
      refine rf_getR (n := 40) rr_57_32 kk_76 hG dX9_room_37 flX9_69 ki_9_32 sS_57 kk_57 rfl ?_
      refine rf_iload_n (n := 41) 1 dX9_room_40 rfl rfl rfl ?_
      refine rf_lald (n := 42) hG dX9_room_41 sS_76 kk_76 rfl (fun v6 => ?_)
      refine rf_aload_n (n := 43) 0 dX9_room_42 rfl rfl rfl ?_
      refine rf_getR (n := 46) rr_57_33 kk_77 hG dX9_room_43 flX9_73 ki_9_33 sS_57 kk_57 rfl ?_
      refine rf_iload_n (n := 47) 1 dX9_room_46 rfl rfl rfl ?_
      refine rf_lald (n := 48) hG dX9_room_47 sS_77 kk_77 rfl (fun v7 => ?_)
      refine rf_cV3L (n := 51) hG (okX9_roomOf _ _ _ _) lVX9_309 hhX9_roomOf kk_57 sS_57 ⟨_, rfl, rfl⟩ dX9_room_48 rfl (Nat.le_of_ble_eq_true rfl) (Nat.le_of_ble_eq_true rfl) (fun v8 m9 => ?_)
      refine rf_mask (lc2 := [none, none]) [false, false] rfl ?_
      exact pX9_room_K51 hG _ _
    · refine rf_ldc2 (n := 31) dX9_room_28 clX9_317 rfl ?_
      refine rf_goto (tg := 51) dX9_room_31 rfl ?_
      refine rf_mask (lc2 := [none, none]) [false, false] rfl ?_
      exact pX9_room_K51 hG _ _
  · refine rf_ldc2 (n := 16) dX9_room_13 clX9_317 rfl ?_
    exact rf_retL rfl dX9_room_16
def fX5_comesBy (p1 : Int32) (μ : ax_M) : Option (Int32 × ax_M) :=
  (Option.bind (ax_rd μ 11 24 p1) (fun v1 => (Option.bind (ax_rd μ 35 10 v1) (fun v2 => (Option.bind (ax_rd μ 33 24 p1) (fun v3 => (some ((v2 + v3), μ))))))))
theorem okX5_comesBy (p1 : Int32) (μ : ax_M) : ax_Ok mX5_comesBy 0 ax_jI [.ref 32, .int p1] μ (fX5_comesBy p1 μ) := by
  refine ax_start (lc := [some (.ref 32), some (.int p1)]) 0 (by decide +kernel) rfl (Nat.le_of_ble_eq_true rfl) (fun x G hG => ?_)
  unfold fX5_comesBy
  refine rf_aload_n (n := 1) 0 dX5_comesBy_0 rfl rfl rfl ?_
  refine rf_getR (n := 4) rr_32_3 kk_35 hG dX5_comesBy_1 flX5_18 ki_5_3 sS_32 kk_32 rfl ?_
  refine rf_aload_n (n := 5) 0 dX5_comesBy_4 rfl rfl rfl ?_
  refine rf_getR (n := 8) rr_32_0 kk_2 hG dX5_comesBy_5 flX5_24 ki_5_0 sS_32 kk_32 rfl ?_
  refine rf_getR (n := 11) rr_2_8 kk_11 hG dX5_comesBy_8 flX5_65 ki_1_8 sS_2 kk_2 rfl ?_
  refine rf_iload_n (n := 12) 1 dX5_comesBy_11 rfl rfl rfl ?_
  refine rf_iald (n := 13) hG dX5_comesBy_12 sS_11 kk_11 rfl (fun v1 => ?_)
  refine rf_iald (n := 14) hG dX5_comesBy_13 sS_35 kk_35 rfl (fun v2 => ?_)
  refine rf_aload_n (n := 15) 0 dX5_comesBy_14 rfl rfl rfl ?_
  refine rf_getR (n := 18) rr_32_1 kk_33 hG dX5_comesBy_15 flX5_9 ki_5_1 sS_32 kk_32 rfl ?_
  refine rf_iload_n (n := 19) 1 dX5_comesBy_18 rfl rfl rfl ?_
  refine rf_iald (n := 20) hG dX5_comesBy_19 sS_33 kk_33 rfl (fun v3 => ?_)
  refine rf_iadd (n := 21) dX5_comesBy_20 rfl ?_
  exact rf_retI rfl dX5_comesBy_21
def fX5_latestPath_K42 (l1 : Int32) (l2 : Int32) (r2 : Int32 → ax_M → Option (Int32 × ax_M)) (μ : ax_M) : Option (Int32 × ax_M) :=
  (r2 (l2 + (1 : Int32)) μ)
theorem pX5_latestPath_K42 {x : ax_X} {G : ax_G} (hG : ax_ok G) (l1 : Int32) (l2 : Int32) (r2 : Int32 → ax_M → Option (Int32 × ax_M)) (hr2 : ∀ (a2 : Int32) (μ : ax_M), ax_Rf mX5_latestPath 1 x (ax_Z ax_jI x G) G 0 0 2 [some (.ref 32), some (.int l1), some (.int a2)] [] μ (r2 a2 μ)) (μ : ax_M) : ax_Rf mX5_latestPath 1 x (ax_Z ax_jI x G) G 0 0 42 [some (.ref 32), some (.int l1), some (.int l2)] [] μ (fX5_latestPath_K42 l1 l2 r2 μ) := by
  unfold fX5_latestPath_K42
  refine rf_iinc (lc2 := [some (.ref 32), some (.int l1), some (.int (l2 + (1 : Int32)))]) (n := 45) (w := (1 : Int32)) 2 dX5_latestPath_42 rfl rfl rfl (Nat.le_of_ble_eq_true rfl) rfl rfl ?_
  refine rf_goto (tg := 2) dX5_latestPath_45 rfl ?_
  exact hr2 _ _
def fX5_latestPath_B2 (l1 : Int32) (r2 : Int32 → ax_M → Option (Int32 × ax_M)) (l2 : Int32) (μ : ax_M) : Option (Int32 × ax_M) :=
  (if (μ.1 2 14) ≤ l2 then (some ((-1 : Int32), μ)) else (Option.bind (ax_rd μ 12 24 l2) (fun v1 => (if v1 = l1 then (ax_bd (fX5_comesBy l2 μ) (fun v2 m3 => (Option.bind (ax_rd m3 36 10 l1) (fun v4 => (if v2 = v4 then (some (l2, m3)) else (fX5_latestPath_K42 l1 l2 r2 m3)))))) else (fX5_latestPath_K42 l1 l2 r2 μ)))))
theorem pX5_latestPath_B2 {x : ax_X} {G : ax_G} (hG : ax_ok G) (l1 : Int32) (r2 : Int32 → ax_M → Option (Int32 × ax_M)) (hr2 : ∀ (a2 : Int32) (μ : ax_M), ax_Rf mX5_latestPath 1 x (ax_Z ax_jI x G) G 0 0 2 [some (.ref 32), some (.int l1), some (.int a2)] [] μ (r2 a2 μ)) (l2 : Int32) (μ : ax_M) : ax_Rf mX5_latestPath 1 x (ax_Z ax_jI x G) G 0 0 2 [some (.ref 32), some (.int l1), some (.int l2)] [] μ (fX5_latestPath_B2 l1 r2 l2 μ) := by
  unfold fX5_latestPath_B2
  refine rf_iload_n (n := 3) 2 dX5_latestPath_2 rfl rfl rfl ?_
  refine rf_aload_n (n := 4) 0 dX5_latestPath_3 rfl rfl rfl ?_
  refine rf_getR (n := 7) rr_32_0 kk_2 hG dX5_latestPath_4 flX5_24 ki_5_0 sS_32 kk_32 rfl ?_
  refine rf_getI (n := 10) hG dX5_latestPath_7 flX5_59 ki_1_14 sS_2 kk_2 rfl ?_
  refine rf_icmp_ge (tg := 48) (n := 13) dX5_latestPath_10 rfl rfl (fun c7 => ?_) (fun c7 => ?_)
  · refine rf_iconst (n := 49) (-1 : Int32) dX5_latestPath_48 cciconst_m1 rfl ?_
    exact rf_retI rfl dX5_latestPath_49
  · refine rf_aload_n (n := 14) 0 dX5_latestPath_13 rfl rfl rfl ?_
    refine rf_getR (n := 17) rr_32_0 kk_2 hG dX5_latestPath_14 flX5_24 ki_5_0 sS_32 kk_32 rfl ?_
    refine rf_getR (n := 20) rr_2_9 kk_12 hG dX5_latestPath_17 flX5_62 ki_1_9 sS_2 kk_2 rfl ?_
    refine rf_iload_n (n := 21) 2 dX5_latestPath_20 rfl rfl rfl ?_
    refine rf_iald (n := 22) hG dX5_latestPath_21 sS_12 kk_12 rfl (fun v1 => ?_)
    refine rf_iload_n (n := 23) 1 dX5_latestPath_22 rfl rfl rfl ?_
    refine rf_icmp_ne (tg := 42) (n := 26) dX5_latestPath_23 rfl rfl (fun c6 => ?_) (fun c6 => ?_)
    · exact pX5_latestPath_K42 hG _ _ r2 hr2 _
    · refine rf_aload_n (n := 27) 0 dX5_latestPath_26 rfl rfl rfl ?_
      refine rf_iload_n (n := 28) 2 dX5_latestPath_27 rfl rfl rfl ?_
      refine rf_cV1I (n := 31) hG (okX5_comesBy _ _) lVX5_75 hhX5_comesBy kk_32 sS_32 ⟨_, rfl, rfl⟩ dX5_latestPath_28 rfl (Nat.le_of_ble_eq_true rfl) (Nat.le_of_ble_eq_true rfl) (fun v2 m3 => ?_)
      refine rf_aload_n (n := 32) 0 dX5_latestPath_31 rfl rfl rfl ?_
      refine rf_getR (n := 35) rr_32_4 kk_36 hG dX5_latestPath_32 flX5_21 ki_5_4 sS_32 kk_32 rfl ?_
      refine rf_iload_n (n := 36) 1 dX5_latestPath_35 rfl rfl rfl ?_
      refine rf_iald (n := 37) hG dX5_latestPath_36 sS_36 kk_36 rfl (fun v4 => ?_)
      refine rf_icmp_ne (tg := 42) (n := 40) dX5_latestPath_37 rfl rfl (fun c5 => ?_) (fun c5 => ?_)
      · exact pX5_latestPath_K42 hG _ _ r2 hr2 _
      · refine rf_iload_n (n := 41) 2 dX5_latestPath_40 rfl rfl rfl ?_
        exact rf_retI rfl dX5_latestPath_41
theorem pX5_latestPath_L2 {x : ax_X} {G : ax_G} (hG : ax_ok G) (l1 : Int32) (n : Nat) (a2 : Int32) (μ : ax_M) : ax_Rf mX5_latestPath 1 x (ax_Z ax_jI x G) G 0 0 2 [some (.ref 32), some (.int l1), some (.int a2)] [] μ (ax_lp1 (fX5_latestPath_B2 l1) n a2 μ) :=
  rf_lp1 (P := fun a2 μ t => ax_Rf mX5_latestPath 1 x (ax_Z ax_jI x G) G 0 0 2 [some (.ref 32), some (.int l1), some (.int a2)] [] μ t) (fun _ _ => rf_none) (fun rc hrc a2 μ => pX5_latestPath_B2 hG l1 rc hrc a2 μ) n a2 μ
def fX5_latestPath (p1 : Int32) (μ : ax_M) : Option (Int32 × ax_M) :=
  (ax_lp1 (fX5_latestPath_B2 p1) ax_FU (0 : Int32) μ)
theorem okX5_latestPath (p1 : Int32) (μ : ax_M) : ax_Ok mX5_latestPath 1 ax_jI [.ref 32, .int p1] μ (fX5_latestPath p1 μ) := by
  refine ax_start (lc := [some (.ref 32), some (.int p1), none]) 1 (by decide +kernel) rfl (Nat.le_of_ble_eq_true rfl) (fun x G hG => ?_)
  unfold fX5_latestPath
  refine rf_iconst (n := 1) (0 : Int32) dX5_latestPath_0 cciconst_0 rfl ?_
  refine rf_istore_n (lc2 := [some (.ref 32), some (.int p1), some (.int (0 : Int32))]) (n := 2) 2 dX5_latestPath_1 rfl rfl (Nat.le_of_ble_eq_true rfl) rfl rfl ?_
  exact pX5_latestPath_L2 hG _ _ _ _
def fX8_from_K47 (s0 : Int32) (μ : ax_M) : Option (Int32 × ax_M) :=
  (some (s0, μ))
theorem pX8_from_K47 {x : ax_X} {G : ax_G} (hG : ax_ok G) (s0 : Int32) (μ : ax_M) : ax_Rf mX8_from 4 x (ax_Z ax_jI x G) G 0 0 47 [none, none, none] [.int s0] μ (fX8_from_K47 s0 μ) := by
  unfold fX8_from_K47
  exact rf_retI rfl dX8_from_47
def fX8_from_K35 (s0 : Int32) (μ : ax_M) : Option (Int32 × ax_M) :=
  (if s0 = (-1 : Int32) then (fX8_from_K47 (-2 : Int32) μ) else (fX8_from_K47 s0 μ))
theorem pX8_from_K35 {x : ax_X} {G : ax_G} (hG : ax_ok G) (s0 : Int32) (μ : ax_M) : ax_Rf mX8_from 4 x (ax_Z ax_jI x G) G 0 0 35 [none, none, none] [.int s0] μ (fX8_from_K35 s0 μ) := by
  unfold fX8_from_K35
  refine rf_istore_n (lc2 := [none, none, some (.int s0)]) (n := 36) 2 dX8_from_35 rfl rfl (Nat.le_of_ble_eq_true rfl) rfl rfl ?_
  refine rf_iload_n (n := 37) 2 dX8_from_36 rfl rfl rfl ?_
  refine rf_iconst (n := 38) (-1 : Int32) dX8_from_37 cciconst_m1 rfl ?_
  refine rf_icmp_ne (tg := 46) (n := 41) dX8_from_38 rfl rfl (fun c7 => ?_) (fun c7 => ?_)
  · refine rf_iload_n (n := 47) 2 dX8_from_46 rfl rfl rfl ?_
    refine rf_mask (lc2 := [none, none, none]) [true, true, false] rfl ?_
    exact pX8_from_K47 hG _ _
  · refine rf_bipush (n := 43) (-2 : Int32) dX8_from_41 ccbipush_m2 rfl ?_
    refine rf_goto (tg := 47) dX8_from_43 rfl ?_
    refine rf_mask (lc2 := [none, none, none]) [true, true, false] rfl ?_
    exact pX8_from_K47 hG _ _
def fX8_from (p1 : Int32) (μ : ax_M) : Option (Int32 × ax_M) :=
  (ax_bd (fX1_hasCell p1 μ) (fun v1 m2 => (if v1 = 0 then (some ((-1 : Int32), m2)) else (ax_bd (fX5_isForever m2) (fun v3 m4 => (if v3 = 0 then (ax_bd (fX5_latestPath p1 m4) (fun v5 m6 => (fX8_from_K35 v5 m6))) else (fX8_from_K35 (-1 : Int32) m4)))))))
theorem okX8_from (p1 : Int32) (μ : ax_M) : ax_Ok mX8_from 4 ax_jI [.ref 0, .int p1] μ (fX8_from p1 μ) := by
  refine ax_start (lc := [some (.ref 0), some (.int p1), none]) 1 (by decide +kernel) rfl (Nat.le_of_ble_eq_true rfl) (fun x G hG => ?_)
  unfold fX8_from
  refine rf_aload_n (n := 1) 0 dX8_from_0 rfl rfl rfl ?_
  refine rf_getR (n := 4) rr_0_2 kk_2 hG dX8_from_1 flX8_16 ki_8_2 sS_0 kk_0 rfl ?_
  refine rf_iload_n (n := 5) 1 dX8_from_4 rfl rfl rfl ?_
  refine rf_cV1I (n := 8) hG (okX1_hasCell _ _) lVX8_152 hhX1_hasCell kk_2 sS_2 ⟨_, rfl, rfl⟩ dX8_from_5 rfl (Nat.le_of_ble_eq_true rfl) (Nat.le_of_ble_eq_true rfl) (fun v1 m2 => ?_)
  refine rf_if_ne (tg := 13) (n := 11) dX8_from_8 rfl rfl (fun c9 => ?_) (fun c9 => ?_)
  · refine rf_aload_n (n := 14) 0 dX8_from_13 rfl rfl rfl ?_
    refine rf_getR (n := 17) rr_0_5 kk_32 hG dX8_from_14 flX8_41 ki_8_5 sS_0 kk_0 rfl ?_
    refine rf_cV0I (n := 20) hG (okX5_isForever _) lVX8_216 hhX5_isForever kk_32 sS_32 ⟨_, rfl, rfl⟩ dX8_from_17 rfl (Nat.le_of_ble_eq_true rfl) (Nat.le_of_ble_eq_true rfl) (fun v3 m4 => ?_)
    refine rf_if_eq (tg := 27) (n := 23) dX8_from_20 rfl rfl (fun c8 => ?_) (fun c8 => ?_)
    · refine rf_aload_n (n := 28) 0 dX8_from_27 rfl rfl rfl ?_
      refine rf_getR (n := 31) rr_0_5 kk_32 hG dX8_from_28 flX8_41 ki_8_5 sS_0 kk_0 rfl ?_
      refine rf_iload_n (n := 32) 1 dX8_from_31 rfl rfl rfl ?_
      refine rf_cV1I (n := 35) hG (okX5_latestPath _ _) lVX8_233 hhX5_latestPath kk_32 sS_32 ⟨_, rfl, rfl⟩ dX8_from_32 rfl (Nat.le_of_ble_eq_true rfl) (Nat.le_of_ble_eq_true rfl) (fun v5 m6 => ?_)
      refine rf_mask (lc2 := [none, none, none]) [false, false, true] rfl ?_
      exact pX8_from_K35 hG _ _
    · refine rf_iconst (n := 24) (-1 : Int32) dX8_from_23 cciconst_m1 rfl ?_
      refine rf_goto (tg := 35) dX8_from_24 rfl ?_
      refine rf_mask (lc2 := [none, none, none]) [false, false, true] rfl ?_
      exact pX8_from_K35 hG _ _
  · refine rf_iconst (n := 12) (-1 : Int32) dX8_from_11 cciconst_m1 rfl ?_
    exact rf_retI rfl dX8_from_12
def fX9_comesBy_1 (p1 : Int32) (μ : ax_M) : Option (Int64 × ax_M) :=
  (Option.bind (ax_rd μ 70 48 p1) (fun v1 => (Option.bind (ax_rl μ 76 10 v1) (fun v2 => (Option.bind (ax_rd μ 70 48 p1) (fun v3 => (Option.bind (ax_rd μ 68 20 v3) (fun v4 => (Option.bind (ax_rd μ 74 68 ((19 : Int32) + p1)) (fun v5 => (Option.bind (ax_rd μ 74 68 (67 : Int32)) (fun v6 => (ax_bd (fX9_shiftOf p1 μ) (fun v7 m8 => (ax_bd (fX9_periodLong m8) (fun v9 m10 => (some (((v2 + ((64 : Int64) * (Int32.toInt64 ((v4 + v5) + v6)))) - ((Int32.toInt64 v7) * v9)), m10))))))))))))))))))
theorem okX9_comesBy_1 (p1 : Int32) (μ : ax_M) : ax_Ok mX9_comesBy 1 ax_jL [.ref 57, .int p1, .ref 76] μ (fX9_comesBy_1 p1 μ) := by
  refine ax_start (lc := [some (.ref 57), some (.int p1), some (.ref 76)]) 0 (by decide +kernel) rfl (Nat.le_of_ble_eq_true rfl) (fun x G hG => ?_)
  unfold fX9_comesBy_1
  refine rf_aload_n (n := 1) 2 dX9_comesBy_0 rfl rfl rfl ?_
  refine rf_aload_n (n := 2) 0 dX9_comesBy_1 rfl rfl rfl ?_
  refine rf_getR (n := 5) rr_57_14 kk_70 hG dX9_comesBy_2 flX9_47 ki_9_14 sS_57 kk_57 rfl ?_
  refine rf_iload_n (n := 6) 1 dX9_comesBy_5 rfl rfl rfl ?_
  refine rf_iald (n := 7) hG dX9_comesBy_6 sS_70 kk_70 rfl (fun v1 => ?_)
  refine rf_lald (n := 8) hG dX9_comesBy_7 sS_76 kk_76 rfl (fun v2 => ?_)
  refine rf_ldc2 (n := 11) dX9_comesBy_8 clX9_275 rfl ?_
  refine rf_aload_n (n := 12) 0 dX9_comesBy_11 rfl rfl rfl ?_
  refine rf_getR (n := 15) rr_57_12 kk_68 hG dX9_comesBy_12 flX9_41 ki_9_12 sS_57 kk_57 rfl ?_
  refine rf_aload_n (n := 16) 0 dX9_comesBy_15 rfl rfl rfl ?_
  refine rf_getR (n := 19) rr_57_14 kk_70 hG dX9_comesBy_16 flX9_47 ki_9_14 sS_57 kk_57 rfl ?_
  refine rf_iload_n (n := 20) 1 dX9_comesBy_19 rfl rfl rfl ?_
  refine rf_iald (n := 21) hG dX9_comesBy_20 sS_70 kk_70 rfl (fun v3 => ?_)
  refine rf_iald (n := 22) hG dX9_comesBy_21 sS_68 kk_68 rfl (fun v4 => ?_)
  refine rf_aload_n (n := 23) 0 dX9_comesBy_22 rfl rfl rfl ?_
  refine rf_getR (n := 26) rr_57_28 kk_74 hG dX9_comesBy_23 flX9_63 ki_9_28 sS_57 kk_57 rfl ?_
  refine rf_bipush (n := 28) (19 : Int32) dX9_comesBy_26 ccbipush_19 rfl ?_
  refine rf_iload_n (n := 29) 1 dX9_comesBy_28 rfl rfl rfl ?_
  refine rf_iadd (n := 30) dX9_comesBy_29 rfl ?_
  refine rf_iald (n := 31) hG dX9_comesBy_30 sS_74 kk_74 rfl (fun v5 => ?_)
  refine rf_iadd (n := 32) dX9_comesBy_31 rfl ?_
  refine rf_aload_n (n := 33) 0 dX9_comesBy_32 rfl rfl rfl ?_
  refine rf_getR (n := 36) rr_57_28 kk_74 hG dX9_comesBy_33 flX9_63 ki_9_28 sS_57 kk_57 rfl ?_
  refine rf_bipush (n := 38) (67 : Int32) dX9_comesBy_36 ccbipush_67 rfl ?_
  refine rf_iald (n := 39) hG dX9_comesBy_38 sS_74 kk_74 rfl (fun v6 => ?_)
  refine rf_iadd (n := 40) dX9_comesBy_39 rfl ?_
  refine rf_i2l (n := 41) dX9_comesBy_40 rfl ?_
  refine rf_lmul (n := 42) dX9_comesBy_41 rfl ?_
  refine rf_ladd (n := 43) dX9_comesBy_42 rfl ?_
  refine rf_aload_n (n := 44) 0 dX9_comesBy_43 rfl rfl rfl ?_
  refine rf_iload_n (n := 45) 1 dX9_comesBy_44 rfl rfl rfl ?_
  refine rf_cV1I (n := 48) hG (okX9_shiftOf _ _) lVX9_272 hhX9_shiftOf kk_57 sS_57 ⟨_, rfl, rfl⟩ dX9_comesBy_45 rfl (Nat.le_of_ble_eq_true rfl) (Nat.le_of_ble_eq_true rfl) (fun v7 m8 => ?_)
  refine rf_i2l (n := 49) dX9_comesBy_48 rfl ?_
  refine rf_aload_n (n := 50) 0 dX9_comesBy_49 rfl rfl rfl ?_
  refine rf_cV0L (n := 53) hG (okX9_periodLong _) lVX9_277 hhX9_periodLong kk_57 sS_57 ⟨_, rfl, rfl⟩ dX9_comesBy_50 rfl (Nat.le_of_ble_eq_true rfl) (Nat.le_of_ble_eq_true rfl) (fun v9 m10 => ?_)
  refine rf_lmul (n := 54) dX9_comesBy_53 rfl ?_
  refine rf_lsub (n := 55) dX9_comesBy_54 rfl ?_
  exact rf_retL rfl dX9_comesBy_55
def fX9_latestTo_K53 (l1 : Int32) (l2 : Int32) (l3 : Int32) (r5 : Int32 → Int32 → ax_M → Option (Int32 × ax_M)) (μ : ax_M) : Option (Int32 × ax_M) :=
  (r5 l2 (l3 + (1 : Int32)) μ)
theorem pX9_latestTo_K53 {x : ax_X} {G : ax_G} (hG : ax_ok G) (l1 : Int32) (l2 : Int32) (l3 : Int32) (r5 : Int32 → Int32 → ax_M → Option (Int32 × ax_M)) (hr5 : ∀ (a2 : Int32) (a3 : Int32) (μ : ax_M), ax_Rf mX9_latestTo 2 x (ax_Z ax_jI x G) G 0 0 5 [some (.ref 57), some (.int l1), some (.int a2), some (.int a3)] [] μ (r5 a2 a3 μ)) (μ : ax_M) : ax_Rf mX9_latestTo 2 x (ax_Z ax_jI x G) G 0 0 53 [some (.ref 57), some (.int l1), some (.int l2), some (.int l3)] [] μ (fX9_latestTo_K53 l1 l2 l3 r5 μ) := by
  unfold fX9_latestTo_K53
  refine rf_iinc (lc2 := [some (.ref 57), some (.int l1), some (.int l2), some (.int (l3 + (1 : Int32)))]) (n := 56) (w := (1 : Int32)) 3 dX9_latestTo_53 rfl rfl rfl (Nat.le_of_ble_eq_true rfl) rfl rfl ?_
  refine rf_goto (tg := 5) dX9_latestTo_56 rfl ?_
  exact hr5 _ _ _
def fX9_latestTo_K51 (l1 : Int32) (l3 : Int32) (r5 : Int32 → Int32 → ax_M → Option (Int32 × ax_M)) (μ : ax_M) : Option (Int32 × ax_M) :=
  (fX9_latestTo_K53 l1 l3 l3 r5 μ)
theorem pX9_latestTo_K51 {x : ax_X} {G : ax_G} (hG : ax_ok G) (l1 : Int32) (l3 : Int32) (r5 : Int32 → Int32 → ax_M → Option (Int32 × ax_M)) (hr5 : ∀ (a2 : Int32) (a3 : Int32) (μ : ax_M), ax_Rf mX9_latestTo 2 x (ax_Z ax_jI x G) G 0 0 5 [some (.ref 57), some (.int l1), some (.int a2), some (.int a3)] [] μ (r5 a2 a3 μ)) (μ : ax_M) : ax_Rf mX9_latestTo 2 x (ax_Z ax_jI x G) G 0 0 51 [some (.ref 57), some (.int l1), none, some (.int l3)] [] μ (fX9_latestTo_K51 l1 l3 r5 μ) := by
  unfold fX9_latestTo_K51
  refine rf_iload_n (n := 52) 3 dX9_latestTo_51 rfl rfl rfl ?_
  refine rf_istore_n (lc2 := [some (.ref 57), some (.int l1), some (.int l3), some (.int l3)]) (n := 53) 2 dX9_latestTo_52 rfl rfl (Nat.le_of_ble_eq_true rfl) rfl rfl ?_
  exact pX9_latestTo_K53 hG _ _ _ r5 hr5 _
def fX9_latestTo_B5 (l1 : Int32) (r5 : Int32 → Int32 → ax_M → Option (Int32 × ax_M)) (l2 : Int32) (l3 : Int32) (μ : ax_M) : Option (Int32 × ax_M) :=
  (ax_bd (fX9_paths μ) (fun v1 m2 => (if v1 ≤ l3 then (some (l2, m2)) else (Option.bind (ax_rd m2 71 48 l3) (fun v3 => (if v3 = l1 then (if l2 = (-2 : Int32) then (fX9_latestTo_K51 l1 l3 r5 m2) else (ax_bd (fX9_comesBy_1 l3 m2) (fun v4 m5 => (ax_bd (fX9_comesBy_1 l2 m5) (fun v6 m7 => (if (lg_cmp v4 v6) ≤ 0 then (fX9_latestTo_K53 l1 l2 l3 r5 m7) else (fX9_latestTo_K51 l1 l3 r5 m7))))))) else (fX9_latestTo_K53 l1 l2 l3 r5 m2)))))))
theorem pX9_latestTo_B5 {x : ax_X} {G : ax_G} (hG : ax_ok G) (l1 : Int32) (r5 : Int32 → Int32 → ax_M → Option (Int32 × ax_M)) (hr5 : ∀ (a2 : Int32) (a3 : Int32) (μ : ax_M), ax_Rf mX9_latestTo 2 x (ax_Z ax_jI x G) G 0 0 5 [some (.ref 57), some (.int l1), some (.int a2), some (.int a3)] [] μ (r5 a2 a3 μ)) (l2 : Int32) (l3 : Int32) (μ : ax_M) : ax_Rf mX9_latestTo 2 x (ax_Z ax_jI x G) G 0 0 5 [some (.ref 57), some (.int l1), some (.int l2), some (.int l3)] [] μ (fX9_latestTo_B5 l1 r5 l2 l3 μ) := by
  unfold fX9_latestTo_B5
  refine rf_iload_n (n := 6) 3 dX9_latestTo_5 rfl rfl rfl ?_
  refine rf_aload_n (n := 7) 0 dX9_latestTo_6 rfl rfl rfl ?_
  refine rf_cV0I (n := 10) hG (okX9_paths _) lVX9_236 hhX9_paths kk_57 sS_57 ⟨_, rfl, rfl⟩ dX9_latestTo_7 rfl (Nat.le_of_ble_eq_true rfl) (Nat.le_of_ble_eq_true rfl) (fun v1 m2 => ?_)
  refine rf_icmp_ge (tg := 59) (n := 13) dX9_latestTo_10 rfl rfl (fun c11 => ?_) (fun c11 => ?_)
  · refine rf_iload_n (n := 60) 2 dX9_latestTo_59 rfl rfl rfl ?_
    exact rf_retI rfl dX9_latestTo_60
  · refine rf_aload_n (n := 14) 0 dX9_latestTo_13 rfl rfl rfl ?_
    refine rf_getR (n := 17) rr_57_15 kk_71 hG dX9_latestTo_14 flX9_50 ki_9_15 sS_57 kk_57 rfl ?_
    refine rf_iload_n (n := 18) 3 dX9_latestTo_17 rfl rfl rfl ?_
    refine rf_iald (n := 19) hG dX9_latestTo_18 sS_71 kk_71 rfl (fun v3 => ?_)
    refine rf_iload_n (n := 20) 1 dX9_latestTo_19 rfl rfl rfl ?_
    refine rf_icmp_ne (tg := 53) (n := 23) dX9_latestTo_20 rfl rfl (fun c10 => ?_) (fun c10 => ?_)
    · exact pX9_latestTo_K53 hG _ _ _ r5 hr5 _
    · refine rf_iload_n (n := 24) 2 dX9_latestTo_23 rfl rfl rfl ?_
      refine rf_bipush (n := 26) (-2 : Int32) dX9_latestTo_24 ccbipush_m2 rfl ?_
      refine rf_icmp_eq (tg := 51) (n := 29) dX9_latestTo_26 rfl rfl (fun c9 => ?_) (fun c9 => ?_)
      · refine rf_mask (lc2 := [some (.ref 57), some (.int l1), none, some (.int l3)]) [true, true, false, true] rfl ?_
        exact pX9_latestTo_K51 hG _ _ r5 hr5 _
      · refine rf_aload_n (n := 30) 0 dX9_latestTo_29 rfl rfl rfl ?_
        refine rf_iload_n (n := 31) 3 dX9_latestTo_30 rfl rfl rfl ?_
        refine rf_aload_n (n := 32) 0 dX9_latestTo_31 rfl rfl rfl ?_
        refine rf_getR (n := 35) rr_57_32 kk_76 hG dX9_latestTo_32 flX9_69 ki_9_32 sS_57 kk_57 rfl ?_
        refine rf_cV2L (n := 38) hG (okX9_comesBy_1 _ _) lVX9_286 hhX9_comesBy kk_57 sS_57 ⟨_, rfl, rfl⟩ dX9_latestTo_35 rfl (Nat.le_of_ble_eq_true rfl) (Nat.le_of_ble_eq_true rfl) (fun v4 m5 => ?_)
        refine rf_aload_n (n := 39) 0 dX9_latestTo_38 rfl rfl rfl ?_
        refine rf_iload_n (n := 40) 2 dX9_latestTo_39 rfl rfl rfl ?_
        refine rf_aload_n (n := 41) 0 dX9_latestTo_40 rfl rfl rfl ?_
        refine rf_getR (n := 44) rr_57_32 kk_76 hG dX9_latestTo_41 flX9_69 ki_9_32 sS_57 kk_57 rfl ?_
        refine rf_cV2L (n := 47) hG (okX9_comesBy_1 _ _) lVX9_286 hhX9_comesBy kk_57 sS_57 ⟨_, rfl, rfl⟩ dX9_latestTo_44 rfl (Nat.le_of_ble_eq_true rfl) (Nat.le_of_ble_eq_true rfl) (fun v6 m7 => ?_)
        refine rf_lcmp (n := 48) dX9_latestTo_47 rfl ?_
        refine rf_if_le (tg := 53) (n := 51) dX9_latestTo_48 rfl rfl (fun c8 => ?_) (fun c8 => ?_)
        · exact pX9_latestTo_K53 hG _ _ _ r5 hr5 _
        · refine rf_mask (lc2 := [some (.ref 57), some (.int l1), none, some (.int l3)]) [true, true, false, true] rfl ?_
          exact pX9_latestTo_K51 hG _ _ r5 hr5 _
theorem pX9_latestTo_L5 {x : ax_X} {G : ax_G} (hG : ax_ok G) (l1 : Int32) (n : Nat) (a2 : Int32) (a3 : Int32) (μ : ax_M) : ax_Rf mX9_latestTo 2 x (ax_Z ax_jI x G) G 0 0 5 [some (.ref 57), some (.int l1), some (.int a2), some (.int a3)] [] μ (ax_lp2 (fX9_latestTo_B5 l1) n a2 a3 μ) :=
  rf_lp2 (P := fun a2 a3 μ t => ax_Rf mX9_latestTo 2 x (ax_Z ax_jI x G) G 0 0 5 [some (.ref 57), some (.int l1), some (.int a2), some (.int a3)] [] μ t) (fun _ _ _ => rf_none) (fun rc hrc a2 a3 μ => pX9_latestTo_B5 hG l1 rc hrc a2 a3 μ) n a2 a3 μ
def fX9_latestTo (p1 : Int32) (μ : ax_M) : Option (Int32 × ax_M) :=
  (ax_lp2 (fX9_latestTo_B5 p1) ax_FU (-2 : Int32) (0 : Int32) μ)
theorem okX9_latestTo (p1 : Int32) (μ : ax_M) : ax_Ok mX9_latestTo 2 ax_jI [.ref 57, .int p1] μ (fX9_latestTo p1 μ) := by
  refine ax_start (lc := [some (.ref 57), some (.int p1), none, none]) 2 (by decide +kernel) rfl (Nat.le_of_ble_eq_true rfl) (fun x G hG => ?_)
  unfold fX9_latestTo
  refine rf_bipush (n := 2) (-2 : Int32) dX9_latestTo_0 ccbipush_m2 rfl ?_
  refine rf_istore_n (lc2 := [some (.ref 57), some (.int p1), some (.int (-2 : Int32)), none]) (n := 3) 2 dX9_latestTo_2 rfl rfl (Nat.le_of_ble_eq_true rfl) rfl rfl ?_
  refine rf_iconst (n := 4) (0 : Int32) dX9_latestTo_3 cciconst_0 rfl ?_
  refine rf_istore_n (lc2 := [some (.ref 57), some (.int p1), some (.int (-2 : Int32)), some (.int (0 : Int32))]) (n := 5) 3 dX9_latestTo_4 rfl rfl (Nat.le_of_ble_eq_true rfl) rfl rfl ?_
  exact pX9_latestTo_L5 hG _ _ _ _ _
def fX9_from_K36 (s0 : Int32) (μ : ax_M) : Option (Int32 × ax_M) :=
  (some (s0, μ))
theorem pX9_from_K36 {x : ax_X} {G : ax_G} (hG : ax_ok G) (s0 : Int32) (μ : ax_M) : ax_Rf mX9_from 5 x (ax_Z ax_jI x G) G 0 0 36 [none, none] [.int s0] μ (fX9_from_K36 s0 μ) := by
  unfold fX9_from_K36
  exact rf_retI rfl dX9_from_36
def fX9_from (p1 : Int32) (μ : ax_M) : Option (Int32 × ax_M) :=
  (ax_let (ax_wi μ 57 0 (0 : Int32)) (fun m1 => (ax_bd (fX9_isCell p1 m1) (fun v2 m3 => (if v2 = 0 then (some ((-1 : Int32), m3)) else (ax_bd (fX9_settles m3) (fun _ m5 => (if (m5.1 57 35) = 0 then (ax_bd (fX9_latestTo p1 m5) (fun v6 m7 => (fX9_from_K36 v6 m7))) else (fX9_from_K36 (-2 : Int32) m5)))))))))
theorem okX9_from (p1 : Int32) (μ : ax_M) : ax_Ok mX9_from 5 ax_jI [.ref 57, .int p1] μ (fX9_from p1 μ) := by
  refine ax_start (lc := [some (.ref 57), some (.int p1)]) 0 (by decide +kernel) rfl (Nat.le_of_ble_eq_true rfl) (fun x G hG => ?_)
  unfold fX9_from
  refine rf_aload_n (n := 1) 0 dX9_from_0 rfl rfl rfl ?_
  refine rf_iconst (n := 2) (0 : Int32) dX9_from_1 cciconst_0 rfl ?_
  refine rf_pfI (n := 5) hG rfl dX9_from_2 flX9_103 ki_9_0 nf_9_0 sS_57 kk_57 rfl (fun m1 => ?_)
  refine rf_aload_n (n := 6) 0 dX9_from_5 rfl rfl rfl ?_
  refine rf_iload_n (n := 7) 1 dX9_from_6 rfl rfl rfl ?_
  refine rf_cV1I (n := 10) hG (okX9_isCell _ _) lVX9_252 hhX9_isCell kk_57 sS_57 ⟨_, rfl, rfl⟩ dX9_from_7 rfl (Nat.le_of_ble_eq_true rfl) (Nat.le_of_ble_eq_true rfl) (fun v2 m3 => ?_)
  refine rf_if_ne (tg := 15) (n := 13) dX9_from_10 rfl rfl (fun c9 => ?_) (fun c9 => ?_)
  · refine rf_aload_n (n := 16) 0 dX9_from_15 rfl rfl rfl ?_
    refine rf_cV0V (n := 19) hG (okX9_settles _) lVX9_306 hhX9_settles kk_57 sS_57 ⟨_, rfl, rfl⟩ dX9_from_16 rfl (Nat.le_of_ble_eq_true rfl) (Nat.le_of_ble_eq_true rfl) (fun _ m5 => ?_)
    refine rf_aload_n (n := 20) 0 dX9_from_19 rfl rfl rfl ?_
    refine rf_getI (n := 23) hG dX9_from_20 flX9_303 ki_9_35 sS_57 kk_57 rfl ?_
    refine rf_if_eq (tg := 31) (n := 26) dX9_from_23 rfl rfl (fun c8 => ?_) (fun c8 => ?_)
    · refine rf_aload_n (n := 32) 0 dX9_from_31 rfl rfl rfl ?_
      refine rf_iload_n (n := 33) 1 dX9_from_32 rfl rfl rfl ?_
      refine rf_cV1I (n := 36) hG (okX9_latestTo _ _) lVX9_319 hhX9_latestTo kk_57 sS_57 ⟨_, rfl, rfl⟩ dX9_from_33 rfl (Nat.le_of_ble_eq_true rfl) (Nat.le_of_ble_eq_true rfl) (fun v6 m7 => ?_)
      refine rf_mask (lc2 := [none, none]) [false, false] rfl ?_
      exact pX9_from_K36 hG _ _
    · refine rf_bipush (n := 28) (-2 : Int32) dX9_from_26 ccbipush_m2 rfl ?_
      refine rf_goto (tg := 36) dX9_from_28 rfl ?_
      refine rf_mask (lc2 := [none, none]) [false, false] rfl ?_
      exact pX9_from_K36 hG _ _
  · refine rf_iconst (n := 14) (-1 : Int32) dX9_from_13 cciconst_m1 rfl ?_
    exact rf_retI rfl dX9_from_14
def fX5_chained_K60 (μ : ax_M) : Option (Int32 × ax_M) :=
  (some ((-2 : Int32), μ))
theorem pX5_chained_K60 {x : ax_X} {G : ax_G} (hG : ax_ok G) (μ : ax_M) : ax_Rf mX5_chained 2 x (ax_Z ax_jI x G) G 0 0 60 [none, none, none, none, none, none, none] [] μ (fX5_chained_K60 μ) := by
  unfold fX5_chained_K60
  refine rf_bipush (n := 62) (-2 : Int32) dX5_chained_60 ccbipush_m2 rfl ?_
  exact rf_retI rfl dX5_chained_62
def fX5_chained_K63 (l2 : Int32) (l3 : Int32) (l5 : Int32) (l6 : Int32) (r8 : Int32 → Int32 → Int32 → ax_M → Option (Int32 × ax_M)) (μ : ax_M) : Option (Int32 × ax_M) :=
  (Option.bind (ax_rd μ 11 24 l6) (fun v4 => (if ((l3 >>> (v4 &&& 31)) &&& (1 : Int32)) = 0 then (r8 l3 v4 (l5 + (1 : Int32)) μ) else (some ((-2 : Int32), μ)))))
theorem pX5_chained_K63 {x : ax_X} {G : ax_G} (hG : ax_ok G) (l2 : Int32) (l3 : Int32) (l5 : Int32) (l6 : Int32) (r8 : Int32 → Int32 → Int32 → ax_M → Option (Int32 × ax_M)) (hr8 : ∀ (a3 : Int32) (a4 : Int32) (a5 : Int32) (μ : ax_M), ax_Rf mX5_chained 2 x (ax_Z ax_jI x G) G 0 0 8 [some (.ref 32), none, some (.int l2), some (.int a3), some (.int a4), some (.int a5), none] [] μ (r8 a3 a4 a5 μ)) (μ : ax_M) : ax_Rf mX5_chained 2 x (ax_Z ax_jI x G) G 0 0 63 [some (.ref 32), none, some (.int l2), some (.int l3), none, some (.int l5), some (.int l6)] [] μ (fX5_chained_K63 l2 l3 l5 l6 r8 μ) := by
  unfold fX5_chained_K63
  refine rf_aload_n (n := 64) 0 dX5_chained_63 rfl rfl rfl ?_
  refine rf_getR (n := 67) rr_32_0 kk_2 hG dX5_chained_64 flX5_24 ki_5_0 sS_32 kk_32 rfl ?_
  refine rf_getR (n := 70) rr_2_8 kk_11 hG dX5_chained_67 flX5_65 ki_1_8 sS_2 kk_2 rfl ?_
  refine rf_iload (n := 72) 6 dX5_chained_70 rfl rfl ?_
  refine rf_iald (n := 73) hG dX5_chained_72 sS_11 kk_11 rfl (fun v4 => ?_)
  refine rf_istore (lc2 := [some (.ref 32), none, some (.int l2), some (.int l3), some (.int v4), some (.int l5), some (.int l6)]) (n := 75) 4 dX5_chained_73 rfl (Nat.le_of_ble_eq_true rfl) rfl rfl ?_
  refine rf_iload_n (n := 76) 3 dX5_chained_75 rfl rfl rfl ?_
  refine rf_iload (n := 78) 4 dX5_chained_76 rfl rfl ?_
  refine rf_ishr (n := 79) dX5_chained_78 rfl ?_
  refine rf_iconst (n := 80) (1 : Int32) dX5_chained_79 cciconst_1 rfl ?_
  refine rf_iand (n := 81) dX5_chained_80 rfl ?_
  refine rf_if_eq (tg := 87) (n := 84) dX5_chained_81 rfl rfl (fun c5 => ?_) (fun c5 => ?_)
  · refine rf_iinc (lc2 := [some (.ref 32), none, some (.int l2), some (.int l3), some (.int v4), some (.int (l5 + (1 : Int32))), some (.int l6)]) (n := 90) (w := (1 : Int32)) 5 dX5_chained_87 rfl rfl rfl (Nat.le_of_ble_eq_true rfl) rfl rfl ?_
    refine rf_goto (tg := 8) dX5_chained_90 rfl ?_
    refine rf_mask (lc2 := [some (.ref 32), none, some (.int l2), some (.int l3), some (.int v4), some (.int (l5 + (1 : Int32))), none]) [true, true, true, true, true, true, false] rfl ?_
    exact hr8 _ _ _ _
  · refine rf_bipush (n := 86) (-2 : Int32) dX5_chained_84 ccbipush_m2 rfl ?_
    exact rf_retI rfl dX5_chained_86
def fX5_chained_B8 (l2 : Int32) (r8 : Int32 → Int32 → Int32 → ax_M → Option (Int32 × ax_M)) (l3 : Int32) (l4 : Int32) (l5 : Int32) (μ : ax_M) : Option (Int32 × ax_M) :=
  (if (10 : Int32) ≤ l5 then (some ((-2 : Int32), μ)) else (if l5 = l2 then (some (l4, μ)) else (ax_let (l3 ||| ((1 : Int32) <<< (l4 &&& 31))) (fun v1 => (ax_bd (fX5_latestPath l4 μ) (fun v2 m3 => (if v2 = (-1 : Int32) then (fX5_chained_K60 m3) else (if l5 ≤ 0 then (fX5_chained_K63 l2 v1 l5 v2 r8 m3) else (Option.bind (ax_rd m3 35 10 l4) (fun v6 => (if v6 = 0 then (fX5_chained_K60 m3) else (fX5_chained_K63 l2 v1 l5 v2 r8 m3))))))))))))
theorem pX5_chained_B8 {x : ax_X} {G : ax_G} (hG : ax_ok G) (l2 : Int32) (r8 : Int32 → Int32 → Int32 → ax_M → Option (Int32 × ax_M)) (hr8 : ∀ (a3 : Int32) (a4 : Int32) (a5 : Int32) (μ : ax_M), ax_Rf mX5_chained 2 x (ax_Z ax_jI x G) G 0 0 8 [some (.ref 32), none, some (.int l2), some (.int a3), some (.int a4), some (.int a5), none] [] μ (r8 a3 a4 a5 μ)) (l3 : Int32) (l4 : Int32) (l5 : Int32) (μ : ax_M) : ax_Rf mX5_chained 2 x (ax_Z ax_jI x G) G 0 0 8 [some (.ref 32), none, some (.int l2), some (.int l3), some (.int l4), some (.int l5), none] [] μ (fX5_chained_B8 l2 r8 l3 l4 l5 μ) := by
  unfold fX5_chained_B8
  refine rf_iload (n := 10) 5 dX5_chained_8 rfl rfl ?_
  refine rf_bipush (n := 12) (10 : Int32) dX5_chained_10 ccbipush_10 rfl ?_
  refine rf_icmp_ge (tg := 93) (n := 15) dX5_chained_12 rfl rfl (fun c11 => ?_) (fun c11 => ?_)
  · refine rf_bipush (n := 95) (-2 : Int32) dX5_chained_93 ccbipush_m2 rfl ?_
    exact rf_retI rfl dX5_chained_95
  · refine rf_iload (n := 17) 5 dX5_chained_15 rfl rfl ?_
    refine rf_iload_n (n := 18) 2 dX5_chained_17 rfl rfl rfl ?_
    refine rf_icmp_ne (tg := 24) (n := 21) dX5_chained_18 rfl rfl (fun c10 => ?_) (fun c10 => ?_)
    · refine rf_iload_n (n := 25) 3 dX5_chained_24 rfl rfl rfl ?_
      refine rf_iconst (n := 26) (1 : Int32) dX5_chained_25 cciconst_1 rfl ?_
      refine rf_iload (n := 28) 4 dX5_chained_26 rfl rfl ?_
      refine rf_ishl (n := 29) dX5_chained_28 rfl ?_
      refine rf_ior (n := 30) dX5_chained_29 rfl ?_
      refine rf_letI (fun v1 => ?_)
      refine rf_istore_n (lc2 := [some (.ref 32), none, some (.int l2), some (.int v1), some (.int l4), some (.int l5), none]) (n := 31) 3 dX5_chained_30 rfl rfl (Nat.le_of_ble_eq_true rfl) rfl rfl ?_
      refine rf_aload_n (n := 32) 0 dX5_chained_31 rfl rfl rfl ?_
      refine rf_iload (n := 34) 4 dX5_chained_32 rfl rfl ?_
      refine rf_cV1I (n := 37) hG (okX5_latestPath _ _) lVX5_79 hhX5_latestPath kk_32 sS_32 ⟨_, rfl, rfl⟩ dX5_chained_34 rfl (Nat.le_of_ble_eq_true rfl) (Nat.le_of_ble_eq_true rfl) (fun v2 m3 => ?_)
      refine rf_istore (lc2 := [some (.ref 32), none, some (.int l2), some (.int v1), some (.int l4), some (.int l5), some (.int v2)]) (n := 39) 6 dX5_chained_37 rfl (Nat.le_of_ble_eq_true rfl) rfl rfl ?_
      refine rf_iload (n := 41) 6 dX5_chained_39 rfl rfl ?_
      refine rf_iconst (n := 42) (-1 : Int32) dX5_chained_41 cciconst_m1 rfl ?_
      refine rf_icmp_eq (tg := 60) (n := 45) dX5_chained_42 rfl rfl (fun c9 => ?_) (fun c9 => ?_)
      · refine rf_mask (lc2 := [none, none, none, none, none, none, none]) [false, true, false, false, false, false, false] rfl ?_
        exact pX5_chained_K60 hG _
      · refine rf_iload (n := 47) 5 dX5_chained_45 rfl rfl ?_
        refine rf_if_le (tg := 63) (n := 50) dX5_chained_47 rfl rfl (fun c8 => ?_) (fun c8 => ?_)
        · refine rf_mask (lc2 := [some (.ref 32), none, some (.int l2), some (.int v1), none, some (.int l5), some (.int v2)]) [true, true, true, true, false, true, true] rfl ?_
          exact pX5_chained_K63 hG _ _ _ _ r8 hr8 _
        · refine rf_aload_n (n := 51) 0 dX5_chained_50 rfl rfl rfl ?_
          refine rf_getR (n := 54) rr_32_3 kk_35 hG dX5_chained_51 flX5_18 ki_5_3 sS_32 kk_32 rfl ?_
          refine rf_iload (n := 56) 4 dX5_chained_54 rfl rfl ?_
          refine rf_iald (n := 57) hG dX5_chained_56 sS_35 kk_35 rfl (fun v6 => ?_)
          refine rf_if_ne (tg := 63) (n := 60) dX5_chained_57 rfl rfl (fun c7 => ?_) (fun c7 => ?_)
          · refine rf_mask (lc2 := [some (.ref 32), none, some (.int l2), some (.int v1), none, some (.int l5), some (.int v2)]) [true, true, true, true, false, true, true] rfl ?_
            exact pX5_chained_K63 hG _ _ _ _ r8 hr8 _
          · refine rf_mask (lc2 := [none, none, none, none, none, none, none]) [false, true, false, false, false, false, false] rfl ?_
            exact pX5_chained_K60 hG _
    · refine rf_iload (n := 23) 4 dX5_chained_21 rfl rfl ?_
      exact rf_retI rfl dX5_chained_23
theorem pX5_chained_L8 {x : ax_X} {G : ax_G} (hG : ax_ok G) (l2 : Int32) (n : Nat) (a3 : Int32) (a4 : Int32) (a5 : Int32) (μ : ax_M) : ax_Rf mX5_chained 2 x (ax_Z ax_jI x G) G 0 0 8 [some (.ref 32), none, some (.int l2), some (.int a3), some (.int a4), some (.int a5), none] [] μ (ax_lp3 (fX5_chained_B8 l2) n a3 a4 a5 μ) :=
  rf_lp3 (P := fun a3 a4 a5 μ t => ax_Rf mX5_chained 2 x (ax_Z ax_jI x G) G 0 0 8 [some (.ref 32), none, some (.int l2), some (.int a3), some (.int a4), some (.int a5), none] [] μ t) (fun _ _ _ _ => rf_none) (fun rc hrc a3 a4 a5 μ => pX5_chained_B8 hG l2 rc hrc a3 a4 a5 μ) n a3 a4 a5 μ
def fX5_chained (p1 : Int32) (p2 : Int32) (μ : ax_M) : Option (Int32 × ax_M) :=
  (ax_lp3 (fX5_chained_B8 p2) ax_FU (0 : Int32) p1 (0 : Int32) μ)
theorem okX5_chained (p1 : Int32) (p2 : Int32) (μ : ax_M) : ax_Ok mX5_chained 2 ax_jI [.ref 32, .int p1, .int p2] μ (fX5_chained p1 p2 μ) := by
  refine ax_start (lc := [some (.ref 32), some (.int p1), some (.int p2), none, none, none, none]) 4 (by decide +kernel) rfl (Nat.le_of_ble_eq_true rfl) (fun x G hG => ?_)
  unfold fX5_chained
  refine rf_iconst (n := 1) (0 : Int32) dX5_chained_0 cciconst_0 rfl ?_
  refine rf_istore_n (lc2 := [some (.ref 32), some (.int p1), some (.int p2), some (.int (0 : Int32)), none, none, none]) (n := 2) 3 dX5_chained_1 rfl rfl (Nat.le_of_ble_eq_true rfl) rfl rfl ?_
  refine rf_iload_n (n := 3) 1 dX5_chained_2 rfl rfl rfl ?_
  refine rf_istore (lc2 := [some (.ref 32), some (.int p1), some (.int p2), some (.int (0 : Int32)), some (.int p1), none, none]) (n := 5) 4 dX5_chained_3 rfl (Nat.le_of_ble_eq_true rfl) rfl rfl ?_
  refine rf_iconst (n := 6) (0 : Int32) dX5_chained_5 cciconst_0 rfl ?_
  refine rf_istore (lc2 := [some (.ref 32), some (.int p1), some (.int p2), some (.int (0 : Int32)), some (.int p1), some (.int (0 : Int32)), none]) (n := 8) 5 dX5_chained_6 rfl (Nat.le_of_ble_eq_true rfl) rfl rfl ?_
  refine rf_mask (lc2 := [some (.ref 32), none, some (.int p2), some (.int (0 : Int32)), some (.int p1), some (.int (0 : Int32)), none]) [true, false, true, true, true, true, true] rfl ?_
  exact pX5_chained_L8 hG _ _ _ _ _ _
def fX8_chain_K15 (μ : ax_M) : Option (Int32 × ax_M) :=
  (some ((-1 : Int32), μ))
theorem pX8_chain_K15 {x : ax_X} {G : ax_G} (hG : ax_ok G) (μ : ax_M) : ax_Rf mX8_chain 4 x (ax_Z ax_jI x G) G 0 0 15 [none, none, none] [] μ (fX8_chain_K15 μ) := by
  unfold fX8_chain_K15
  refine rf_iconst (n := 16) (-1 : Int32) dX8_chain_15 cciconst_m1 rfl ?_
  exact rf_retI rfl dX8_chain_16
def fX8_chain_K41 (s0 : Int32) (μ : ax_M) : Option (Int32 × ax_M) :=
  (some (s0, μ))
theorem pX8_chain_K41 {x : ax_X} {G : ax_G} (hG : ax_ok G) (s0 : Int32) (μ : ax_M) : ax_Rf mX8_chain 4 x (ax_Z ax_jI x G) G 0 0 41 [none, none, none] [.int s0] μ (fX8_chain_K41 s0 μ) := by
  unfold fX8_chain_K41
  exact rf_retI rfl dX8_chain_41
def fX8_chain (p1 : Int32) (p2 : Int32) (μ : ax_M) : Option (Int32 × ax_M) :=
  (ax_bd (fX1_hasCell p1 μ) (fun v1 m2 => (if v1 = 0 then (fX8_chain_K15 m2) else (if 0 ≤ p2 then (ax_bd (fX5_isForever m2) (fun v3 m4 => (if v3 = 0 then (ax_bd (fX5_chained p1 p2 m4) (fun v5 m6 => (fX8_chain_K41 v5 m6))) else (fX8_chain_K41 (-2 : Int32) m4)))) else (fX8_chain_K15 m2)))))
theorem okX8_chain (p1 : Int32) (p2 : Int32) (μ : ax_M) : ax_Ok mX8_chain 4 ax_jI [.ref 0, .int p1, .int p2] μ (fX8_chain p1 p2 μ) := by
  refine ax_start (lc := [some (.ref 0), some (.int p1), some (.int p2)]) 0 (by decide +kernel) rfl (Nat.le_of_ble_eq_true rfl) (fun x G hG => ?_)
  unfold fX8_chain
  refine rf_aload_n (n := 1) 0 dX8_chain_0 rfl rfl rfl ?_
  refine rf_getR (n := 4) rr_0_2 kk_2 hG dX8_chain_1 flX8_16 ki_8_2 sS_0 kk_0 rfl ?_
  refine rf_iload_n (n := 5) 1 dX8_chain_4 rfl rfl rfl ?_
  refine rf_cV1I (n := 8) hG (okX1_hasCell _ _) lVX8_152 hhX1_hasCell kk_2 sS_2 ⟨_, rfl, rfl⟩ dX8_chain_5 rfl (Nat.le_of_ble_eq_true rfl) (Nat.le_of_ble_eq_true rfl) (fun v1 m2 => ?_)
  refine rf_if_eq (tg := 15) (n := 11) dX8_chain_8 rfl rfl (fun c9 => ?_) (fun c9 => ?_)
  · refine rf_mask (lc2 := [none, none, none]) [false, false, false] rfl ?_
    exact pX8_chain_K15 hG _
  · refine rf_iload_n (n := 12) 2 dX8_chain_11 rfl rfl rfl ?_
    refine rf_if_ge (tg := 17) (n := 15) dX8_chain_12 rfl rfl (fun c8 => ?_) (fun c8 => ?_)
    · refine rf_aload_n (n := 18) 0 dX8_chain_17 rfl rfl rfl ?_
      refine rf_getR (n := 21) rr_0_5 kk_32 hG dX8_chain_18 flX8_41 ki_8_5 sS_0 kk_0 rfl ?_
      refine rf_cV0I (n := 24) hG (okX5_isForever _) lVX8_216 hhX5_isForever kk_32 sS_32 ⟨_, rfl, rfl⟩ dX8_chain_21 rfl (Nat.le_of_ble_eq_true rfl) (Nat.le_of_ble_eq_true rfl) (fun v3 m4 => ?_)
      refine rf_if_eq (tg := 32) (n := 27) dX8_chain_24 rfl rfl (fun c7 => ?_) (fun c7 => ?_)
      · refine rf_aload_n (n := 33) 0 dX8_chain_32 rfl rfl rfl ?_
        refine rf_getR (n := 36) rr_0_5 kk_32 hG dX8_chain_33 flX8_41 ki_8_5 sS_0 kk_0 rfl ?_
        refine rf_iload_n (n := 37) 1 dX8_chain_36 rfl rfl rfl ?_
        refine rf_iload_n (n := 38) 2 dX8_chain_37 rfl rfl rfl ?_
        refine rf_cV2I (n := 41) hG (okX5_chained _ _ _) lVX8_236 hhX5_chained kk_32 sS_32 ⟨_, rfl, rfl⟩ dX8_chain_38 rfl (Nat.le_of_ble_eq_true rfl) (Nat.le_of_ble_eq_true rfl) (fun v5 m6 => ?_)
        refine rf_mask (lc2 := [none, none, none]) [false, false, false] rfl ?_
        exact pX8_chain_K41 hG _ _
      · refine rf_bipush (n := 29) (-2 : Int32) dX8_chain_27 ccbipush_m2 rfl ?_
        refine rf_goto (tg := 41) dX8_chain_29 rfl ?_
        refine rf_mask (lc2 := [none, none, none]) [false, false, false] rfl ?_
        exact pX8_chain_K41 hG _ _
    · refine rf_mask (lc2 := [none, none, none]) [false, false, false] rfl ?_
      exact pX8_chain_K15 hG _
def fX9_laysChain_K133 (l3 : Int32) (l4 : Int32) (s0 : Int32) (r12 : Int32 → Int32 → Int32 → ax_M → Option (Unit × ax_M)) (μ : ax_M) : Option (Unit × ax_M) :=
  (r12 s0 l3 l4 μ)
theorem pX9_laysChain_K133 {x : ax_X} {G : ax_G} (hG : ax_ok G) (l3 : Int32) (l4 : Int32) (s0 : Int32) (r12 : Int32 → Int32 → Int32 → ax_M → Option (Unit × ax_M)) (hr12 : ∀ (a2 : Int32) (a3 : Int32) (a4 : Int32) (μ : ax_M), ax_Rf mX9_laysChain 3 x (ax_Z ax_jV x G) G 0 0 12 [some (.ref 57), none, some (.int a2), some (.int a3), some (.int a4), none, none] [] μ (r12 a2 a3 a4 μ)) (μ : ax_M) : ax_Rf mX9_laysChain 3 x (ax_Z ax_jV x G) G 0 0 133 [some (.ref 57), none, none, some (.int l3), some (.int l4), none, none] [.int s0] μ (fX9_laysChain_K133 l3 l4 s0 r12 μ) := by
  unfold fX9_laysChain_K133
  refine rf_istore_n (lc2 := [some (.ref 57), none, some (.int s0), some (.int l3), some (.int l4), none, none]) (n := 134) 2 dX9_laysChain_133 rfl rfl (Nat.le_of_ble_eq_true rfl) rfl rfl ?_
  refine rf_goto (tg := 12) dX9_laysChain_134 rfl ?_
  exact hr12 _ _ _ _
def fX9_laysChain_K115 (l2 : Int32) (l3 : Int32) (l5 : Int32) (s0 : Int32) (r12 : Int32 → Int32 → Int32 → ax_M → Option (Unit × ax_M)) (μ : ax_M) : Option (Unit × ax_M) :=
  (if s0 = 0 then (fX9_laysChain_K133 l3 s0 l2 r12 μ) else (Option.bind (ax_rd μ 70 48 l5) (fun v7 => (fX9_laysChain_K133 l3 s0 v7 r12 μ))))
theorem pX9_laysChain_K115 {x : ax_X} {G : ax_G} (hG : ax_ok G) (l2 : Int32) (l3 : Int32) (l5 : Int32) (s0 : Int32) (r12 : Int32 → Int32 → Int32 → ax_M → Option (Unit × ax_M)) (hr12 : ∀ (a2 : Int32) (a3 : Int32) (a4 : Int32) (μ : ax_M), ax_Rf mX9_laysChain 3 x (ax_Z ax_jV x G) G 0 0 12 [some (.ref 57), none, some (.int a2), some (.int a3), some (.int a4), none, none] [] μ (r12 a2 a3 a4 μ)) (μ : ax_M) : ax_Rf mX9_laysChain 3 x (ax_Z ax_jV x G) G 0 0 115 [some (.ref 57), none, some (.int l2), some (.int l3), none, some (.int l5), none] [.int s0] μ (fX9_laysChain_K115 l2 l3 l5 s0 r12 μ) := by
  unfold fX9_laysChain_K115
  refine rf_istore (lc2 := [some (.ref 57), none, some (.int l2), some (.int l3), some (.int s0), some (.int l5), none]) (n := 117) 4 dX9_laysChain_115 rfl (Nat.le_of_ble_eq_true rfl) rfl rfl ?_
  refine rf_iload (n := 119) 4 dX9_laysChain_117 rfl rfl ?_
  refine rf_if_eq (tg := 132) (n := 122) dX9_laysChain_119 rfl rfl (fun c8 => ?_) (fun c8 => ?_)
  · refine rf_iload_n (n := 133) 2 dX9_laysChain_132 rfl rfl rfl ?_
    refine rf_mask (lc2 := [some (.ref 57), none, none, some (.int l3), some (.int s0), none, none]) [true, true, false, true, true, false, true] rfl ?_
    exact pX9_laysChain_K133 hG _ _ _ r12 hr12 _
  · refine rf_aload_n (n := 123) 0 dX9_laysChain_122 rfl rfl rfl ?_
    refine rf_getR (n := 126) rr_57_14 kk_70 hG dX9_laysChain_123 flX9_47 ki_9_14 sS_57 kk_57 rfl ?_
    refine rf_iload (n := 128) 5 dX9_laysChain_126 rfl rfl ?_
    refine rf_iald (n := 129) hG dX9_laysChain_128 sS_70 kk_70 rfl (fun v7 => ?_)
    refine rf_goto (tg := 133) dX9_laysChain_129 rfl ?_
    refine rf_mask (lc2 := [some (.ref 57), none, none, some (.int l3), some (.int s0), none, none]) [true, true, false, true, true, false, true] rfl ?_
    exact pX9_laysChain_K133 hG _ _ _ r12 hr12 _
def fX9_laysChain_K114 (l2 : Int32) (l3 : Int32) (l5 : Int32) (r12 : Int32 → Int32 → Int32 → ax_M → Option (Unit × ax_M)) (μ : ax_M) : Option (Unit × ax_M) :=
  (fX9_laysChain_K115 l2 l3 l5 (0 : Int32) r12 μ)
theorem pX9_laysChain_K114 {x : ax_X} {G : ax_G} (hG : ax_ok G) (l2 : Int32) (l3 : Int32) (l5 : Int32) (r12 : Int32 → Int32 → Int32 → ax_M → Option (Unit × ax_M)) (hr12 : ∀ (a2 : Int32) (a3 : Int32) (a4 : Int32) (μ : ax_M), ax_Rf mX9_laysChain 3 x (ax_Z ax_jV x G) G 0 0 12 [some (.ref 57), none, some (.int a2), some (.int a3), some (.int a4), none, none] [] μ (r12 a2 a3 a4 μ)) (μ : ax_M) : ax_Rf mX9_laysChain 3 x (ax_Z ax_jV x G) G 0 0 114 [some (.ref 57), none, some (.int l2), some (.int l3), none, some (.int l5), none] [] μ (fX9_laysChain_K114 l2 l3 l5 r12 μ) := by
  unfold fX9_laysChain_K114
  refine rf_iconst (n := 115) (0 : Int32) dX9_laysChain_114 cciconst_0 rfl ?_
  exact pX9_laysChain_K115 hG _ _ _ _ r12 hr12 _
def fX9_laysChain_K82 (l2 : Int32) (l3 : Int32) (l5 : Int32) (s0 : Int32) (r12 : Int32 → Int32 → Int32 → ax_M → Option (Unit × ax_M)) (μ : ax_M) : Option (Unit × ax_M) :=
  (if s0 = 0 then (if l5 = (-2 : Int32) then (fX9_laysChain_K114 l2 l3 l5 r12 μ) else (Option.bind (ax_rd μ 70 48 l5) (fun v9 => (if ((l3 >>> (v9 &&& 31)) &&& (1 : Int32)) = 0 then (fX9_laysChain_K115 l2 l3 l5 (1 : Int32) r12 μ) else (fX9_laysChain_K114 l2 l3 l5 r12 μ))))) else (fX9_laysChain_K114 l2 l3 l5 r12 μ))
theorem pX9_laysChain_K82 {x : ax_X} {G : ax_G} (hG : ax_ok G) (l2 : Int32) (l3 : Int32) (l5 : Int32) (s0 : Int32) (r12 : Int32 → Int32 → Int32 → ax_M → Option (Unit × ax_M)) (hr12 : ∀ (a2 : Int32) (a3 : Int32) (a4 : Int32) (μ : ax_M), ax_Rf mX9_laysChain 3 x (ax_Z ax_jV x G) G 0 0 12 [some (.ref 57), none, some (.int a2), some (.int a3), some (.int a4), none, none] [] μ (r12 a2 a3 a4 μ)) (μ : ax_M) : ax_Rf mX9_laysChain 3 x (ax_Z ax_jV x G) G 0 0 82 [some (.ref 57), none, some (.int l2), some (.int l3), none, some (.int l5), none] [.int s0] μ (fX9_laysChain_K82 l2 l3 l5 s0 r12 μ) := by
  unfold fX9_laysChain_K82
  refine rf_istore (lc2 := [some (.ref 57), none, some (.int l2), some (.int l3), none, some (.int l5), some (.int s0)]) (n := 84) 6 dX9_laysChain_82 rfl (Nat.le_of_ble_eq_true rfl) rfl rfl ?_
  refine rf_iload (n := 86) 6 dX9_laysChain_84 rfl rfl ?_
  refine rf_if_ne (tg := 114) (n := 89) dX9_laysChain_86 rfl rfl (fun c12 => ?_) (fun c12 => ?_)
  · refine rf_mask (lc2 := [some (.ref 57), none, some (.int l2), some (.int l3), none, some (.int l5), none]) [true, true, true, true, true, true, false] rfl ?_
    exact pX9_laysChain_K114 hG _ _ _ r12 hr12 _
  · refine rf_iload (n := 91) 5 dX9_laysChain_89 rfl rfl ?_
    refine rf_bipush (n := 93) (-2 : Int32) dX9_laysChain_91 ccbipush_m2 rfl ?_
    refine rf_icmp_eq (tg := 114) (n := 96) dX9_laysChain_93 rfl rfl (fun c11 => ?_) (fun c11 => ?_)
    · refine rf_mask (lc2 := [some (.ref 57), none, some (.int l2), some (.int l3), none, some (.int l5), none]) [true, true, true, true, true, true, false] rfl ?_
      exact pX9_laysChain_K114 hG _ _ _ r12 hr12 _
    · refine rf_iload_n (n := 97) 3 dX9_laysChain_96 rfl rfl rfl ?_
      refine rf_aload_n (n := 98) 0 dX9_laysChain_97 rfl rfl rfl ?_
      refine rf_getR (n := 101) rr_57_14 kk_70 hG dX9_laysChain_98 flX9_47 ki_9_14 sS_57 kk_57 rfl ?_
      refine rf_iload (n := 103) 5 dX9_laysChain_101 rfl rfl ?_
      refine rf_iald (n := 104) hG dX9_laysChain_103 sS_70 kk_70 rfl (fun v9 => ?_)
      refine rf_ishr (n := 105) dX9_laysChain_104 rfl ?_
      refine rf_iconst (n := 106) (1 : Int32) dX9_laysChain_105 cciconst_1 rfl ?_
      refine rf_iand (n := 107) dX9_laysChain_106 rfl ?_
      refine rf_if_ne (tg := 114) (n := 110) dX9_laysChain_107 rfl rfl (fun c10 => ?_) (fun c10 => ?_)
      · refine rf_mask (lc2 := [some (.ref 57), none, some (.int l2), some (.int l3), none, some (.int l5), none]) [true, true, true, true, true, true, false] rfl ?_
        exact pX9_laysChain_K114 hG _ _ _ r12 hr12 _
      · refine rf_iconst (n := 111) (1 : Int32) dX9_laysChain_110 cciconst_1 rfl ?_
        refine rf_goto (tg := 115) dX9_laysChain_111 rfl ?_
        refine rf_mask (lc2 := [some (.ref 57), none, some (.int l2), some (.int l3), none, some (.int l5), none]) [true, true, true, true, true, true, false] rfl ?_
        exact pX9_laysChain_K115 hG _ _ _ _ r12 hr12 _
def fX9_laysChain_K81 (l2 : Int32) (l3 : Int32) (l5 : Int32) (r12 : Int32 → Int32 → Int32 → ax_M → Option (Unit × ax_M)) (μ : ax_M) : Option (Unit × ax_M) :=
  (fX9_laysChain_K82 l2 l3 l5 (0 : Int32) r12 μ)
theorem pX9_laysChain_K81 {x : ax_X} {G : ax_G} (hG : ax_ok G) (l2 : Int32) (l3 : Int32) (l5 : Int32) (r12 : Int32 → Int32 → Int32 → ax_M → Option (Unit × ax_M)) (hr12 : ∀ (a2 : Int32) (a3 : Int32) (a4 : Int32) (μ : ax_M), ax_Rf mX9_laysChain 3 x (ax_Z ax_jV x G) G 0 0 12 [some (.ref 57), none, some (.int a2), some (.int a3), some (.int a4), none, none] [] μ (r12 a2 a3 a4 μ)) (μ : ax_M) : ax_Rf mX9_laysChain 3 x (ax_Z ax_jV x G) G 0 0 81 [some (.ref 57), none, some (.int l2), some (.int l3), none, some (.int l5), none] [] μ (fX9_laysChain_K81 l2 l3 l5 r12 μ) := by
  unfold fX9_laysChain_K81
  refine rf_iconst (n := 82) (0 : Int32) dX9_laysChain_81 cciconst_0 rfl ?_
  exact pX9_laysChain_K82 hG _ _ _ _ r12 hr12 _
def fX9_laysChain_K77 (l2 : Int32) (l3 : Int32) (l5 : Int32) (r12 : Int32 → Int32 → Int32 → ax_M → Option (Unit × ax_M)) (μ : ax_M) : Option (Unit × ax_M) :=
  (fX9_laysChain_K82 l2 l3 l5 (1 : Int32) r12 μ)
theorem pX9_laysChain_K77 {x : ax_X} {G : ax_G} (hG : ax_ok G) (l2 : Int32) (l3 : Int32) (l5 : Int32) (r12 : Int32 → Int32 → Int32 → ax_M → Option (Unit × ax_M)) (hr12 : ∀ (a2 : Int32) (a3 : Int32) (a4 : Int32) (μ : ax_M), ax_Rf mX9_laysChain 3 x (ax_Z ax_jV x G) G 0 0 12 [some (.ref 57), none, some (.int a2), some (.int a3), some (.int a4), none, none] [] μ (r12 a2 a3 a4 μ)) (μ : ax_M) : ax_Rf mX9_laysChain 3 x (ax_Z ax_jV x G) G 0 0 77 [some (.ref 57), none, some (.int l2), some (.int l3), none, some (.int l5), none] [] μ (fX9_laysChain_K77 l2 l3 l5 r12 μ) := by
  unfold fX9_laysChain_K77
  refine rf_iconst (n := 78) (1 : Int32) dX9_laysChain_77 cciconst_1 rfl ?_
  refine rf_goto (tg := 82) dX9_laysChain_78 rfl ?_
  exact pX9_laysChain_K82 hG _ _ _ _ r12 hr12 _
def fX9_laysChain_B12 (r12 : Int32 → Int32 → Int32 → ax_M → Option (Unit × ax_M)) (l2 : Int32) (l3 : Int32) (l4 : Int32) (μ : ax_M) : Option (Unit × ax_M) :=
  (if l4 = 0 then (some ((), μ)) else (Option.bind (ax_wr μ 79 10 (μ.1 57 37) l2) (fun m2 => (ax_let (ax_wi m2 57 37 ((m2.1 57 37) + (1 : Int32))) (fun m3 => (ax_let (l3 ||| ((1 : Int32) <<< (l2 &&& 31))) (fun v4 => (ax_bd (fX9_latestTo l2 m3) (fun v5 m6 => (if (m6.1 57 37) ≤ (1 : Int32) then (fX9_laysChain_K81 l2 v4 v5 r12 m6) else (ax_bd (fX9_isFlop l2 m6) (fun v13 m14 => (if v13 = 0 then (Option.bind (ax_rl m14 76 10 l2) (fun v15 => (if (lg_cmp v15 (0 : Int64)) = 0 then (fX9_laysChain_K77 l2 v4 v5 r12 m14) else (fX9_laysChain_K81 l2 v4 v5 r12 m14)))) else (fX9_laysChain_K77 l2 v4 v5 r12 m14))))))))))))))
theorem pX9_laysChain_B12 {x : ax_X} {G : ax_G} (hG : ax_ok G) (r12 : Int32 → Int32 → Int32 → ax_M → Option (Unit × ax_M)) (hr12 : ∀ (a2 : Int32) (a3 : Int32) (a4 : Int32) (μ : ax_M), ax_Rf mX9_laysChain 3 x (ax_Z ax_jV x G) G 0 0 12 [some (.ref 57), none, some (.int a2), some (.int a3), some (.int a4), none, none] [] μ (r12 a2 a3 a4 μ)) (l2 : Int32) (l3 : Int32) (l4 : Int32) (μ : ax_M) : ax_Rf mX9_laysChain 3 x (ax_Z ax_jV x G) G 0 0 12 [some (.ref 57), none, some (.int l2), some (.int l3), some (.int l4), none, none] [] μ (fX9_laysChain_B12 r12 l2 l3 l4 μ) := by
  unfold fX9_laysChain_B12
  refine rf_iload (n := 14) 4 dX9_laysChain_12 rfl rfl ?_
  refine rf_if_eq (tg := 137) (n := 17) dX9_laysChain_14 rfl rfl (fun c19 => ?_) (fun c19 => ?_)
  · exact rf_retV rfl dX9_laysChain_137
  · refine rf_aload_n (n := 18) 0 dX9_laysChain_17 rfl rfl rfl ?_
    refine rf_getR (n := 21) rr_57_36 kk_79 hG dX9_laysChain_18 flX9_79 ki_9_36 sS_57 kk_57 rfl ?_
    refine rf_aload_n (n := 22) 0 dX9_laysChain_21 rfl rfl rfl ?_
    refine rf_getI (n := 25) hG dX9_laysChain_22 flX9_322 ki_9_37 sS_57 kk_57 rfl ?_
    refine rf_iload_n (n := 26) 2 dX9_laysChain_25 rfl rfl rfl ?_
    refine rf_iast (n := 27) hG dX9_laysChain_26 sS_79 kk_79 rfl (fun m2 => ?_)
    refine rf_aload_n (n := 28) 0 dX9_laysChain_27 rfl rfl rfl ?_
    refine rf_dupR (n := 29) dX9_laysChain_28 rfl ?_
    refine rf_getI (n := 32) hG dX9_laysChain_29 flX9_322 ki_9_37 sS_57 kk_57 rfl ?_
    refine rf_iconst (n := 33) (1 : Int32) dX9_laysChain_32 cciconst_1 rfl ?_
    refine rf_iadd (n := 34) dX9_laysChain_33 rfl ?_
    refine rf_pfI (n := 37) hG rfl dX9_laysChain_34 flX9_322 ki_9_37 nf_9_37 sS_57 kk_57 rfl (fun m3 => ?_)
    refine rf_iload_n (n := 38) 3 dX9_laysChain_37 rfl rfl rfl ?_
    refine rf_iconst (n := 39) (1 : Int32) dX9_laysChain_38 cciconst_1 rfl ?_
    refine rf_iload_n (n := 40) 2 dX9_laysChain_39 rfl rfl rfl ?_
    refine rf_ishl (n := 41) dX9_laysChain_40 rfl ?_
    refine rf_ior (n := 42) dX9_laysChain_41 rfl ?_
    refine rf_letI (fun v4 => ?_)
    refine rf_istore_n (lc2 := [some (.ref 57), none, some (.int l2), some (.int v4), some (.int l4), none, none]) (n := 43) 3 dX9_laysChain_42 rfl rfl (Nat.le_of_ble_eq_true rfl) rfl rfl ?_
    refine rf_aload_n (n := 44) 0 dX9_laysChain_43 rfl rfl rfl ?_
    refine rf_iload_n (n := 45) 2 dX9_laysChain_44 rfl rfl rfl ?_
    refine rf_cV1I (n := 48) hG (okX9_latestTo _ _) lVX9_319 hhX9_latestTo kk_57 sS_57 ⟨_, rfl, rfl⟩ dX9_laysChain_45 rfl (Nat.le_of_ble_eq_true rfl) (Nat.le_of_ble_eq_true rfl) (fun v5 m6 => ?_)
    refine rf_istore (lc2 := [some (.ref 57), none, some (.int l2), some (.int v4), some (.int l4), some (.int v5), none]) (n := 50) 5 dX9_laysChain_48 rfl (Nat.le_of_ble_eq_true rfl) rfl rfl ?_
    refine rf_aload_n (n := 51) 0 dX9_laysChain_50 rfl rfl rfl ?_
    refine rf_getI (n := 54) hG dX9_laysChain_51 flX9_322 ki_9_37 sS_57 kk_57 rfl ?_
    refine rf_iconst (n := 55) (1 : Int32) dX9_laysChain_54 cciconst_1 rfl ?_
    refine rf_icmp_le (tg := 81) (n := 58) dX9_laysChain_55 rfl rfl (fun c18 => ?_) (fun c18 => ?_)
    · refine rf_mask (lc2 := [some (.ref 57), none, some (.int l2), some (.int v4), none, some (.int v5), none]) [true, true, true, true, false, true, true] rfl ?_
      exact pX9_laysChain_K81 hG _ _ _ r12 hr12 _
    · refine rf_aload_n (n := 59) 0 dX9_laysChain_58 rfl rfl rfl ?_
      refine rf_iload_n (n := 60) 2 dX9_laysChain_59 rfl rfl rfl ?_
      refine rf_cV1I (n := 63) hG (okX9_isFlop _ _) lVX9_281 hhX9_isFlop kk_57 sS_57 ⟨_, rfl, rfl⟩ dX9_laysChain_60 rfl (Nat.le_of_ble_eq_true rfl) (Nat.le_of_ble_eq_true rfl) (fun v13 m14 => ?_)
      refine rf_if_ne (tg := 77) (n := 66) dX9_laysChain_63 rfl rfl (fun c17 => ?_) (fun c17 => ?_)
      · refine rf_mask (lc2 := [some (.ref 57), none, some (.int l2), some (.int v4), none, some (.int v5), none]) [true, true, true, true, false, true, true] rfl ?_
        exact pX9_laysChain_K77 hG _ _ _ r12 hr12 _
      · refine rf_aload_n (n := 67) 0 dX9_laysChain_66 rfl rfl rfl ?_
        refine rf_getR (n := 70) rr_57_32 kk_76 hG dX9_laysChain_67 flX9_69 ki_9_32 sS_57 kk_57 rfl ?_
        refine rf_iload_n (n := 71) 2 dX9_laysChain_70 rfl rfl rfl ?_
        refine rf_lald (n := 72) hG dX9_laysChain_71 sS_76 kk_76 rfl (fun v15 => ?_)
        refine rf_lconst (n := 73) (0 : Int64) dX9_laysChain_72 rfl rfl ?_
        refine rf_lcmp (n := 74) dX9_laysChain_73 rfl ?_
        refine rf_if_ne (tg := 81) (n := 77) dX9_laysChain_74 rfl rfl (fun c16 => ?_) (fun c16 => ?_)
        · refine rf_mask (lc2 := [some (.ref 57), none, some (.int l2), some (.int v4), none, some (.int v5), none]) [true, true, true, true, false, true, true] rfl ?_
          exact pX9_laysChain_K81 hG _ _ _ r12 hr12 _
        · refine rf_mask (lc2 := [some (.ref 57), none, some (.int l2), some (.int v4), none, some (.int v5), none]) [true, true, true, true, false, true, true] rfl ?_
          exact pX9_laysChain_K77 hG _ _ _ r12 hr12 _
theorem pX9_laysChain_L12 {x : ax_X} {G : ax_G} (hG : ax_ok G) (n : Nat) (a2 : Int32) (a3 : Int32) (a4 : Int32) (μ : ax_M) : ax_Rf mX9_laysChain 3 x (ax_Z ax_jV x G) G 0 0 12 [some (.ref 57), none, some (.int a2), some (.int a3), some (.int a4), none, none] [] μ (ax_lp3 (fX9_laysChain_B12) n a2 a3 a4 μ) :=
  rf_lp3 (P := fun a2 a3 a4 μ t => ax_Rf mX9_laysChain 3 x (ax_Z ax_jV x G) G 0 0 12 [some (.ref 57), none, some (.int a2), some (.int a3), some (.int a4), none, none] [] μ t) (fun _ _ _ _ => rf_none) (fun rc hrc a2 a3 a4 μ => pX9_laysChain_B12 hG rc hrc a2 a3 a4 μ) n a2 a3 a4 μ
def fX9_laysChain (p1 : Int32) (μ : ax_M) : Option (Unit × ax_M) :=
  (ax_let (ax_wi μ 57 37 (0 : Int32)) (fun m1 => (ax_lp3 (fX9_laysChain_B12) ax_FU p1 (0 : Int32) (1 : Int32) m1)))
theorem okX9_laysChain (p1 : Int32) (μ : ax_M) : ax_Ok mX9_laysChain 3 ax_jV [.ref 57, .int p1] μ (fX9_laysChain p1 μ) := by
  refine ax_start (lc := [some (.ref 57), some (.int p1), none, none, none, none, none]) 5 (by decide +kernel) rfl (Nat.le_of_ble_eq_true rfl) (fun x G hG => ?_)
  unfold fX9_laysChain
  refine rf_aload_n (n := 1) 0 dX9_laysChain_0 rfl rfl rfl ?_
  refine rf_iconst (n := 2) (0 : Int32) dX9_laysChain_1 cciconst_0 rfl ?_
  refine rf_pfI (n := 5) hG rfl dX9_laysChain_2 flX9_322 ki_9_37 nf_9_37 sS_57 kk_57 rfl (fun m1 => ?_)
  refine rf_iload_n (n := 6) 1 dX9_laysChain_5 rfl rfl rfl ?_
  refine rf_istore_n (lc2 := [some (.ref 57), some (.int p1), some (.int p1), none, none, none, none]) (n := 7) 2 dX9_laysChain_6 rfl rfl (Nat.le_of_ble_eq_true rfl) rfl rfl ?_
  refine rf_iconst (n := 8) (0 : Int32) dX9_laysChain_7 cciconst_0 rfl ?_
  refine rf_istore_n (lc2 := [some (.ref 57), some (.int p1), some (.int p1), some (.int (0 : Int32)), none, none, none]) (n := 9) 3 dX9_laysChain_8 rfl rfl (Nat.le_of_ble_eq_true rfl) rfl rfl ?_
  refine rf_iconst (n := 10) (1 : Int32) dX9_laysChain_9 cciconst_1 rfl ?_
  refine rf_istore (lc2 := [some (.ref 57), some (.int p1), some (.int p1), some (.int (0 : Int32)), some (.int (1 : Int32)), none, none]) (n := 12) 4 dX9_laysChain_10 rfl (Nat.le_of_ble_eq_true rfl) rfl rfl ?_
  refine rf_mask (lc2 := [some (.ref 57), none, some (.int p1), some (.int (0 : Int32)), some (.int (1 : Int32)), none, none]) [true, false, true, true, true, true, true] rfl ?_
  exact pX9_laysChain_L12 hG _ _ _ _ _
def fX9_chain_K17 (μ : ax_M) : Option (Int32 × ax_M) :=
  (some ((-1 : Int32), μ))
theorem pX9_chain_K17 {x : ax_X} {G : ax_G} (hG : ax_ok G) (μ : ax_M) : ax_Rf mX9_chain 5 x (ax_Z ax_jI x G) G 0 0 17 [none, none, none] [] μ (fX9_chain_K17 μ) := by
  unfold fX9_chain_K17
  refine rf_iconst (n := 18) (-1 : Int32) dX9_chain_17 cciconst_m1 rfl ?_
  exact rf_retI rfl dX9_chain_18
def fX9_chain_K57 (s0 : Int32) (μ : ax_M) : Option (Int32 × ax_M) :=
  (some (s0, μ))
theorem pX9_chain_K57 {x : ax_X} {G : ax_G} (hG : ax_ok G) (s0 : Int32) (μ : ax_M) : ax_Rf mX9_chain 5 x (ax_Z ax_jI x G) G 0 0 57 [none, none, none] [.int s0] μ (fX9_chain_K57 s0 μ) := by
  unfold fX9_chain_K57
  exact rf_retI rfl dX9_chain_57
def fX9_chain (p1 : Int32) (p2 : Int32) (μ : ax_M) : Option (Int32 × ax_M) :=
  (ax_let (ax_wi μ 57 0 (0 : Int32)) (fun m1 => (ax_bd (fX9_isCell p1 m1) (fun v2 m3 => (if v2 = 0 then (fX9_chain_K17 m3) else (if 0 ≤ p2 then (ax_bd (fX9_settles m3) (fun _ m5 => (if (m5.1 57 35) = 0 then (ax_bd (fX9_laysChain p1 m5) (fun _ m7 => (if (m7.1 57 37) ≤ p2 then (fX9_chain_K57 (-2 : Int32) m7) else (Option.bind (ax_rd m7 79 10 p2) (fun v8 => (fX9_chain_K57 v8 m7)))))) else (some ((-2 : Int32), m5))))) else (fX9_chain_K17 m3)))))))
theorem okX9_chain (p1 : Int32) (p2 : Int32) (μ : ax_M) : ax_Ok mX9_chain 5 ax_jI [.ref 57, .int p1, .int p2] μ (fX9_chain p1 p2 μ) := by
  refine ax_start (lc := [some (.ref 57), some (.int p1), some (.int p2)]) 0 (by decide +kernel) rfl (Nat.le_of_ble_eq_true rfl) (fun x G hG => ?_)
  unfold fX9_chain
  refine rf_aload_n (n := 1) 0 dX9_chain_0 rfl rfl rfl ?_
  refine rf_iconst (n := 2) (0 : Int32) dX9_chain_1 cciconst_0 rfl ?_
  refine rf_pfI (n := 5) hG rfl dX9_chain_2 flX9_103 ki_9_0 nf_9_0 sS_57 kk_57 rfl (fun m1 => ?_)
  refine rf_aload_n (n := 6) 0 dX9_chain_5 rfl rfl rfl ?_
  refine rf_iload_n (n := 7) 1 dX9_chain_6 rfl rfl rfl ?_
  refine rf_cV1I (n := 10) hG (okX9_isCell _ _) lVX9_252 hhX9_isCell kk_57 sS_57 ⟨_, rfl, rfl⟩ dX9_chain_7 rfl (Nat.le_of_ble_eq_true rfl) (Nat.le_of_ble_eq_true rfl) (fun v2 m3 => ?_)
  refine rf_if_eq (tg := 17) (n := 13) dX9_chain_10 rfl rfl (fun c12 => ?_) (fun c12 => ?_)
  · refine rf_mask (lc2 := [none, none, none]) [false, false, false] rfl ?_
    exact pX9_chain_K17 hG _
  · refine rf_iload_n (n := 14) 2 dX9_chain_13 rfl rfl rfl ?_
    refine rf_if_ge (tg := 19) (n := 17) dX9_chain_14 rfl rfl (fun c11 => ?_) (fun c11 => ?_)
    · refine rf_aload_n (n := 20) 0 dX9_chain_19 rfl rfl rfl ?_
      refine rf_cV0V (n := 23) hG (okX9_settles _) lVX9_306 hhX9_settles kk_57 sS_57 ⟨_, rfl, rfl⟩ dX9_chain_20 rfl (Nat.le_of_ble_eq_true rfl) (Nat.le_of_ble_eq_true rfl) (fun _ m5 => ?_)
      refine rf_aload_n (n := 24) 0 dX9_chain_23 rfl rfl rfl ?_
      refine rf_getI (n := 27) hG dX9_chain_24 flX9_303 ki_9_35 sS_57 kk_57 rfl ?_
      refine rf_if_eq (tg := 33) (n := 30) dX9_chain_27 rfl rfl (fun c10 => ?_) (fun c10 => ?_)
      · refine rf_aload_n (n := 34) 0 dX9_chain_33 rfl rfl rfl ?_
        refine rf_iload_n (n := 35) 1 dX9_chain_34 rfl rfl rfl ?_
        refine rf_cV1V (n := 38) hG (okX9_laysChain _ _) lVX9_325 hhX9_laysChain kk_57 sS_57 ⟨_, rfl, rfl⟩ dX9_chain_35 rfl (Nat.le_of_ble_eq_true rfl) (Nat.le_of_ble_eq_true rfl) (fun _ m7 => ?_)
        refine rf_iload_n (n := 39) 2 dX9_chain_38 rfl rfl rfl ?_
        refine rf_aload_n (n := 40) 0 dX9_chain_39 rfl rfl rfl ?_
        refine rf_getI (n := 43) hG dX9_chain_40 flX9_322 ki_9_37 sS_57 kk_57 rfl ?_
        refine rf_icmp_ge (tg := 55) (n := 46) dX9_chain_43 rfl rfl (fun c9 => ?_) (fun c9 => ?_)
        · refine rf_bipush (n := 57) (-2 : Int32) dX9_chain_55 ccbipush_m2 rfl ?_
          refine rf_mask (lc2 := [none, none, none]) [false, false, false] rfl ?_
          exact pX9_chain_K57 hG _ _
        · refine rf_aload_n (n := 47) 0 dX9_chain_46 rfl rfl rfl ?_
          refine rf_getR (n := 50) rr_57_36 kk_79 hG dX9_chain_47 flX9_79 ki_9_36 sS_57 kk_57 rfl ?_
          refine rf_iload_n (n := 51) 2 dX9_chain_50 rfl rfl rfl ?_
          refine rf_iald (n := 52) hG dX9_chain_51 sS_79 kk_79 rfl (fun v8 => ?_)
          refine rf_goto (tg := 57) dX9_chain_52 rfl ?_
          refine rf_mask (lc2 := [none, none, none]) [false, false, false] rfl ?_
          exact pX9_chain_K57 hG _ _
      · refine rf_bipush (n := 32) (-2 : Int32) dX9_chain_30 ccbipush_m2 rfl ?_
        exact rf_retI rfl dX9_chain_32
    · refine rf_mask (lc2 := [none, none, none]) [false, false, false] rfl ?_
      exact pX9_chain_K17 hG _
def fX5_unmet_K31 (l2 : Int32) (s0 : Int32) (s1 : Int32) (r4 : Int32 → Int32 → ax_M → Option (Int32 × ax_M)) (μ : ax_M) : Option (Int32 × ax_M) :=
  (ax_let (s0 ||| s1) (fun v3 => (r4 v3 (l2 + (1 : Int32)) μ)))
theorem pX5_unmet_K31 {x : ax_X} {G : ax_G} (hG : ax_ok G) (l2 : Int32) (s0 : Int32) (s1 : Int32) (r4 : Int32 → Int32 → ax_M → Option (Int32 × ax_M)) (hr4 : ∀ (a1 : Int32) (a2 : Int32) (μ : ax_M), ax_Rf mX5_unmet 4 x (ax_Z ax_jI x G) G 0 0 4 [some (.ref 32), some (.int a1), some (.int a2)] [] μ (r4 a1 a2 μ)) (μ : ax_M) : ax_Rf mX5_unmet 4 x (ax_Z ax_jI x G) G 0 0 31 [some (.ref 32), none, some (.int l2)] [.int s1, .int s0] μ (fX5_unmet_K31 l2 s0 s1 r4 μ) := by
  unfold fX5_unmet_K31
  refine rf_ior (n := 32) dX5_unmet_31 rfl ?_
  refine rf_letI (fun v3 => ?_)
  refine rf_istore_n (lc2 := [some (.ref 32), some (.int v3), some (.int l2)]) (n := 33) 1 dX5_unmet_32 rfl rfl (Nat.le_of_ble_eq_true rfl) rfl rfl ?_
  refine rf_iinc (lc2 := [some (.ref 32), some (.int v3), some (.int (l2 + (1 : Int32)))]) (n := 36) (w := (1 : Int32)) 2 dX5_unmet_33 rfl rfl rfl (Nat.le_of_ble_eq_true rfl) rfl rfl ?_
  refine rf_goto (tg := 4) dX5_unmet_36 rfl ?_
  exact hr4 _ _ _
def fX5_unmet_B4 (r4 : Int32 → Int32 → ax_M → Option (Int32 × ax_M)) (l1 : Int32) (l2 : Int32) (μ : ax_M) : Option (Int32 × ax_M) :=
  (if (μ.1 2 13) ≤ l2 then (some (l1, μ)) else (ax_bd (fX5_roomOf l2 μ) (fun v1 m2 => (if 0 ≤ v1 then (fX5_unmet_K31 l2 l1 (0 : Int32) r4 m2) else (fX5_unmet_K31 l2 l1 ((1 : Int32) <<< (l2 &&& 31)) r4 m2)))))
theorem pX5_unmet_B4 {x : ax_X} {G : ax_G} (hG : ax_ok G) (r4 : Int32 → Int32 → ax_M → Option (Int32 × ax_M)) (hr4 : ∀ (a1 : Int32) (a2 : Int32) (μ : ax_M), ax_Rf mX5_unmet 4 x (ax_Z ax_jI x G) G 0 0 4 [some (.ref 32), some (.int a1), some (.int a2)] [] μ (r4 a1 a2 μ)) (l1 : Int32) (l2 : Int32) (μ : ax_M) : ax_Rf mX5_unmet 4 x (ax_Z ax_jI x G) G 0 0 4 [some (.ref 32), some (.int l1), some (.int l2)] [] μ (fX5_unmet_B4 r4 l1 l2 μ) := by
  unfold fX5_unmet_B4
  refine rf_iload_n (n := 5) 2 dX5_unmet_4 rfl rfl rfl ?_
  refine rf_aload_n (n := 6) 0 dX5_unmet_5 rfl rfl rfl ?_
  refine rf_getR (n := 9) rr_32_0 kk_2 hG dX5_unmet_6 flX5_24 ki_5_0 sS_32 kk_32 rfl ?_
  refine rf_getI (n := 12) hG dX5_unmet_9 flX5_55 ki_1_13 sS_2 kk_2 rfl ?_
  refine rf_icmp_ge (tg := 39) (n := 15) dX5_unmet_12 rfl rfl (fun c5 => ?_) (fun c5 => ?_)
  · refine rf_iload_n (n := 40) 1 dX5_unmet_39 rfl rfl rfl ?_
    exact rf_retI rfl dX5_unmet_40
  · refine rf_iload_n (n := 16) 1 dX5_unmet_15 rfl rfl rfl ?_
    refine rf_aload_n (n := 17) 0 dX5_unmet_16 rfl rfl rfl ?_
    refine rf_iload_n (n := 18) 2 dX5_unmet_17 rfl rfl rfl ?_
    refine rf_cV1I (n := 21) hG (okX5_roomOf _ _) lVX5_82 hhX5_roomOf kk_32 sS_32 ⟨_, rfl, rfl⟩ dX5_unmet_18 rfl (Nat.le_of_ble_eq_true rfl) (Nat.le_of_ble_eq_true rfl) (fun v1 m2 => ?_)
    refine rf_if_ge (tg := 30) (n := 24) dX5_unmet_21 rfl rfl (fun c4 => ?_) (fun c4 => ?_)
    · refine rf_iconst (n := 31) (0 : Int32) dX5_unmet_30 cciconst_0 rfl ?_
      refine rf_mask (lc2 := [some (.ref 32), none, some (.int l2)]) [true, false, true] rfl ?_
      exact pX5_unmet_K31 hG _ _ _ r4 hr4 _
    · refine rf_iconst (n := 25) (1 : Int32) dX5_unmet_24 cciconst_1 rfl ?_
      refine rf_iload_n (n := 26) 2 dX5_unmet_25 rfl rfl rfl ?_
      refine rf_ishl (n := 27) dX5_unmet_26 rfl ?_
      refine rf_goto (tg := 31) dX5_unmet_27 rfl ?_
      refine rf_mask (lc2 := [some (.ref 32), none, some (.int l2)]) [true, false, true] rfl ?_
      exact pX5_unmet_K31 hG _ _ _ r4 hr4 _
theorem pX5_unmet_L4 {x : ax_X} {G : ax_G} (hG : ax_ok G) (n : Nat) (a1 : Int32) (a2 : Int32) (μ : ax_M) : ax_Rf mX5_unmet 4 x (ax_Z ax_jI x G) G 0 0 4 [some (.ref 32), some (.int a1), some (.int a2)] [] μ (ax_lp2 (fX5_unmet_B4) n a1 a2 μ) :=
  rf_lp2 (P := fun a1 a2 μ t => ax_Rf mX5_unmet 4 x (ax_Z ax_jI x G) G 0 0 4 [some (.ref 32), some (.int a1), some (.int a2)] [] μ t) (fun _ _ _ => rf_none) (fun rc hrc a1 a2 μ => pX5_unmet_B4 hG rc hrc a1 a2 μ) n a1 a2 μ
def fX5_unmet (μ : ax_M) : Option (Int32 × ax_M) :=
  (ax_lp2 (fX5_unmet_B4) ax_FU (0 : Int32) (0 : Int32) μ)
theorem okX5_unmet (μ : ax_M) : ax_Ok mX5_unmet 4 ax_jI [.ref 32] μ (fX5_unmet μ) := by
  refine ax_start (lc := [some (.ref 32), none, none]) 2 (by decide +kernel) rfl (Nat.le_of_ble_eq_true rfl) (fun x G hG => ?_)
  unfold fX5_unmet
  refine rf_iconst (n := 1) (0 : Int32) dX5_unmet_0 cciconst_0 rfl ?_
  refine rf_istore_n (lc2 := [some (.ref 32), some (.int (0 : Int32)), none]) (n := 2) 1 dX5_unmet_1 rfl rfl (Nat.le_of_ble_eq_true rfl) rfl rfl ?_
  refine rf_iconst (n := 3) (0 : Int32) dX5_unmet_2 cciconst_0 rfl ?_
  refine rf_istore_n (lc2 := [some (.ref 32), some (.int (0 : Int32)), some (.int (0 : Int32))]) (n := 4) 2 dX5_unmet_3 rfl rfl (Nat.le_of_ble_eq_true rfl) rfl rfl ?_
  exact pX5_unmet_L4 hG _ _ _ _
def fX5_borrowing_K32 (l2 : Int32) (s0 : Int32) (s1 : Int32) (r4 : Int32 → Int32 → ax_M → Option (Int32 × ax_M)) (μ : ax_M) : Option (Int32 × ax_M) :=
  (ax_let (s0 ||| s1) (fun v2 => (r4 v2 (l2 + (1 : Int32)) μ)))
theorem pX5_borrowing_K32 {x : ax_X} {G : ax_G} (hG : ax_ok G) (l2 : Int32) (s0 : Int32) (s1 : Int32) (r4 : Int32 → Int32 → ax_M → Option (Int32 × ax_M)) (hr4 : ∀ (a1 : Int32) (a2 : Int32) (μ : ax_M), ax_Rf mX5_borrowing 0 x (ax_Z ax_jI x G) G 0 0 4 [some (.ref 32), some (.int a1), some (.int a2)] [] μ (r4 a1 a2 μ)) (μ : ax_M) : ax_Rf mX5_borrowing 0 x (ax_Z ax_jI x G) G 0 0 32 [some (.ref 32), none, some (.int l2)] [.int s1, .int s0] μ (fX5_borrowing_K32 l2 s0 s1 r4 μ) := by
  unfold fX5_borrowing_K32
  refine rf_ior (n := 33) dX5_borrowing_32 rfl ?_
  refine rf_letI (fun v2 => ?_)
  refine rf_istore_n (lc2 := [some (.ref 32), some (.int v2), some (.int l2)]) (n := 34) 1 dX5_borrowing_33 rfl rfl (Nat.le_of_ble_eq_true rfl) rfl rfl ?_
  refine rf_iinc (lc2 := [some (.ref 32), some (.int v2), some (.int (l2 + (1 : Int32)))]) (n := 37) (w := (1 : Int32)) 2 dX5_borrowing_34 rfl rfl rfl (Nat.le_of_ble_eq_true rfl) rfl rfl ?_
  refine rf_goto (tg := 4) dX5_borrowing_37 rfl ?_
  exact hr4 _ _ _
def fX5_borrowing_B4 (r4 : Int32 → Int32 → ax_M → Option (Int32 × ax_M)) (l1 : Int32) (l2 : Int32) (μ : ax_M) : Option (Int32 × ax_M) :=
  (if (μ.1 2 13) ≤ l2 then (some (l1, μ)) else (Option.bind (ax_rd μ 35 10 l2) (fun v1 => (if v1 ≤ 0 then (fX5_borrowing_K32 l2 l1 (0 : Int32) r4 μ) else (fX5_borrowing_K32 l2 l1 ((1 : Int32) <<< (l2 &&& 31)) r4 μ)))))
theorem pX5_borrowing_B4 {x : ax_X} {G : ax_G} (hG : ax_ok G) (r4 : Int32 → Int32 → ax_M → Option (Int32 × ax_M)) (hr4 : ∀ (a1 : Int32) (a2 : Int32) (μ : ax_M), ax_Rf mX5_borrowing 0 x (ax_Z ax_jI x G) G 0 0 4 [some (.ref 32), some (.int a1), some (.int a2)] [] μ (r4 a1 a2 μ)) (l1 : Int32) (l2 : Int32) (μ : ax_M) : ax_Rf mX5_borrowing 0 x (ax_Z ax_jI x G) G 0 0 4 [some (.ref 32), some (.int l1), some (.int l2)] [] μ (fX5_borrowing_B4 r4 l1 l2 μ) := by
  unfold fX5_borrowing_B4
  refine rf_iload_n (n := 5) 2 dX5_borrowing_4 rfl rfl rfl ?_
  refine rf_aload_n (n := 6) 0 dX5_borrowing_5 rfl rfl rfl ?_
  refine rf_getR (n := 9) rr_32_0 kk_2 hG dX5_borrowing_6 flX5_24 ki_5_0 sS_32 kk_32 rfl ?_
  refine rf_getI (n := 12) hG dX5_borrowing_9 flX5_55 ki_1_13 sS_2 kk_2 rfl ?_
  refine rf_icmp_ge (tg := 40) (n := 15) dX5_borrowing_12 rfl rfl (fun c4 => ?_) (fun c4 => ?_)
  · refine rf_iload_n (n := 41) 1 dX5_borrowing_40 rfl rfl rfl ?_
    exact rf_retI rfl dX5_borrowing_41
  · refine rf_iload_n (n := 16) 1 dX5_borrowing_15 rfl rfl rfl ?_
    refine rf_aload_n (n := 17) 0 dX5_borrowing_16 rfl rfl rfl ?_
    refine rf_getR (n := 20) rr_32_3 kk_35 hG dX5_borrowing_17 flX5_18 ki_5_3 sS_32 kk_32 rfl ?_
    refine rf_iload_n (n := 21) 2 dX5_borrowing_20 rfl rfl rfl ?_
    refine rf_iald (n := 22) hG dX5_borrowing_21 sS_35 kk_35 rfl (fun v1 => ?_)
    refine rf_if_le (tg := 31) (n := 25) dX5_borrowing_22 rfl rfl (fun c3 => ?_) (fun c3 => ?_)
    · refine rf_iconst (n := 32) (0 : Int32) dX5_borrowing_31 cciconst_0 rfl ?_
      refine rf_mask (lc2 := [some (.ref 32), none, some (.int l2)]) [true, false, true] rfl ?_
      exact pX5_borrowing_K32 hG _ _ _ r4 hr4 _
    · refine rf_iconst (n := 26) (1 : Int32) dX5_borrowing_25 cciconst_1 rfl ?_
      refine rf_iload_n (n := 27) 2 dX5_borrowing_26 rfl rfl rfl ?_
      refine rf_ishl (n := 28) dX5_borrowing_27 rfl ?_
      refine rf_goto (tg := 32) dX5_borrowing_28 rfl ?_
      refine rf_mask (lc2 := [some (.ref 32), none, some (.int l2)]) [true, false, true] rfl ?_
      exact pX5_borrowing_K32 hG _ _ _ r4 hr4 _
theorem pX5_borrowing_L4 {x : ax_X} {G : ax_G} (hG : ax_ok G) (n : Nat) (a1 : Int32) (a2 : Int32) (μ : ax_M) : ax_Rf mX5_borrowing 0 x (ax_Z ax_jI x G) G 0 0 4 [some (.ref 32), some (.int a1), some (.int a2)] [] μ (ax_lp2 (fX5_borrowing_B4) n a1 a2 μ) :=
  rf_lp2 (P := fun a1 a2 μ t => ax_Rf mX5_borrowing 0 x (ax_Z ax_jI x G) G 0 0 4 [some (.ref 32), some (.int a1), some (.int a2)] [] μ t) (fun _ _ _ => rf_none) (fun rc hrc a1 a2 μ => pX5_borrowing_B4 hG rc hrc a1 a2 μ) n a1 a2 μ
def fX5_borrowing (μ : ax_M) : Option (Int32 × ax_M) :=
  (ax_lp2 (fX5_borrowing_B4) ax_FU (0 : Int32) (0 : Int32) μ)
theorem okX5_borrowing (μ : ax_M) : ax_Ok mX5_borrowing 0 ax_jI [.ref 32] μ (fX5_borrowing μ) := by
  refine ax_start (lc := [some (.ref 32), none, none]) 2 (by decide +kernel) rfl (Nat.le_of_ble_eq_true rfl) (fun x G hG => ?_)
  unfold fX5_borrowing
  refine rf_iconst (n := 1) (0 : Int32) dX5_borrowing_0 cciconst_0 rfl ?_
  refine rf_istore_n (lc2 := [some (.ref 32), some (.int (0 : Int32)), none]) (n := 2) 1 dX5_borrowing_1 rfl rfl (Nat.le_of_ble_eq_true rfl) rfl rfl ?_
  refine rf_iconst (n := 3) (0 : Int32) dX5_borrowing_2 cciconst_0 rfl ?_
  refine rf_istore_n (lc2 := [some (.ref 32), some (.int (0 : Int32)), some (.int (0 : Int32))]) (n := 4) 2 dX5_borrowing_3 rfl rfl (Nat.le_of_ble_eq_true rfl) rfl rfl ?_
  exact pX5_borrowing_L4 hG _ _ _ _
def fX8_which_K9 (μ : ax_M) : Option (Int32 × ax_M) :=
  (some ((-1 : Int32), μ))
theorem pX8_which_K9 {x : ax_X} {G : ax_G} (hG : ax_ok G) (μ : ax_M) : ax_Rf mX8_which 5 x (ax_Z ax_jI x G) G 0 0 9 [none, none] [] μ (fX8_which_K9 μ) := by
  unfold fX8_which_K9
  refine rf_iconst (n := 10) (-1 : Int32) dX8_which_9 cciconst_m1 rfl ?_
  exact rf_retI rfl dX8_which_10
def fX8_which_K45 (s0 : Int32) (μ : ax_M) : Option (Int32 × ax_M) :=
  (some (s0, μ))
theorem pX8_which_K45 {x : ax_X} {G : ax_G} (hG : ax_ok G) (s0 : Int32) (μ : ax_M) : ax_Rf mX8_which 5 x (ax_Z ax_jI x G) G 0 0 45 [none, none] [.int s0] μ (fX8_which_K45 s0 μ) := by
  unfold fX8_which_K45
  exact rf_retI rfl dX8_which_45
def fX8_which (p1 : Int32) (μ : ax_M) : Option (Int32 × ax_M) :=
  (if p1 < 0 then (fX8_which_K9 μ) else (if p1 ≤ (1 : Int32) then (ax_bd (fX5_isForever μ) (fun v1 m2 => (if v1 = 0 then (if p1 = 0 then (ax_bd (fX5_borrowing m2) (fun v5 m6 => (fX8_which_K45 v5 m6))) else (ax_bd (fX5_unmet m2) (fun v3 m4 => (fX8_which_K45 v3 m4)))) else (some ((-2 : Int32), m2))))) else (fX8_which_K9 μ)))
theorem okX8_which (p1 : Int32) (μ : ax_M) : ax_Ok mX8_which 5 ax_jI [.ref 0, .int p1] μ (fX8_which p1 μ) := by
  refine ax_start (lc := [some (.ref 0), some (.int p1)]) 0 (by decide +kernel) rfl (Nat.le_of_ble_eq_true rfl) (fun x G hG => ?_)
  unfold fX8_which
  refine rf_iload_n (n := 1) 1 dX8_which_0 rfl rfl rfl ?_
  refine rf_if_lt (tg := 9) (n := 4) dX8_which_1 rfl rfl (fun c10 => ?_) (fun c10 => ?_)
  · refine rf_mask (lc2 := [none, none]) [false, false] rfl ?_
    exact pX8_which_K9 hG _
  · refine rf_iload_n (n := 5) 1 dX8_which_4 rfl rfl rfl ?_
    refine rf_iconst (n := 6) (1 : Int32) dX8_which_5 cciconst_1 rfl ?_
    refine rf_icmp_le (tg := 11) (n := 9) dX8_which_6 rfl rfl (fun c9 => ?_) (fun c9 => ?_)
    · refine rf_aload_n (n := 12) 0 dX8_which_11 rfl rfl rfl ?_
      refine rf_getR (n := 15) rr_0_5 kk_32 hG dX8_which_12 flX8_41 ki_8_5 sS_0 kk_0 rfl ?_
      refine rf_cV0I (n := 18) hG (okX5_isForever _) lVX8_216 hhX5_isForever kk_32 sS_32 ⟨_, rfl, rfl⟩ dX8_which_15 rfl (Nat.le_of_ble_eq_true rfl) (Nat.le_of_ble_eq_true rfl) (fun v1 m2 => ?_)
      refine rf_if_eq (tg := 24) (n := 21) dX8_which_18 rfl rfl (fun c8 => ?_) (fun c8 => ?_)
      · refine rf_iload_n (n := 25) 1 dX8_which_24 rfl rfl rfl ?_
        refine rf_if_ne (tg := 38) (n := 28) dX8_which_25 rfl rfl (fun c7 => ?_) (fun c7 => ?_)
        · refine rf_aload_n (n := 39) 0 dX8_which_38 rfl rfl rfl ?_
          refine rf_getR (n := 42) rr_0_5 kk_32 hG dX8_which_39 flX8_41 ki_8_5 sS_0 kk_0 rfl ?_
          refine rf_cV0I (n := 45) hG (okX5_unmet _) lVX8_244 hhX5_unmet kk_32 sS_32 ⟨_, rfl, rfl⟩ dX8_which_42 rfl (Nat.le_of_ble_eq_true rfl) (Nat.le_of_ble_eq_true rfl) (fun v3 m4 => ?_)
          refine rf_mask (lc2 := [none, none]) [false, false] rfl ?_
          exact pX8_which_K45 hG _ _
        · refine rf_aload_n (n := 29) 0 dX8_which_28 rfl rfl rfl ?_
          refine rf_getR (n := 32) rr_0_5 kk_32 hG dX8_which_29 flX8_41 ki_8_5 sS_0 kk_0 rfl ?_
          refine rf_cV0I (n := 35) hG (okX5_borrowing _) lVX8_240 hhX5_borrowing kk_32 sS_32 ⟨_, rfl, rfl⟩ dX8_which_32 rfl (Nat.le_of_ble_eq_true rfl) (Nat.le_of_ble_eq_true rfl) (fun v5 m6 => ?_)
          refine rf_goto (tg := 45) dX8_which_35 rfl ?_
          refine rf_mask (lc2 := [none, none]) [false, false] rfl ?_
          exact pX8_which_K45 hG _ _
      · refine rf_bipush (n := 23) (-2 : Int32) dX8_which_21 ccbipush_m2 rfl ?_
        exact rf_retI rfl dX8_which_23
    · refine rf_mask (lc2 := [none, none]) [false, false] rfl ?_
      exact pX8_which_K9 hG _
def fX9_which_K14 (μ : ax_M) : Option (Int32 × ax_M) :=
  (some ((-1 : Int32), μ))
theorem pX9_which_K14 {x : ax_X} {G : ax_G} (hG : ax_ok G) (μ : ax_M) : ax_Rf mX9_which 5 x (ax_Z ax_jI x G) G 0 0 14 [none, none, none, none, none] [] μ (fX9_which_K14 μ) := by
  unfold fX9_which_K14
  refine rf_iconst (n := 15) (-1 : Int32) dX9_which_14 cciconst_m1 rfl ?_
  exact rf_retI rfl dX9_which_15
def fX9_which_K113 (l1 : Int32) (l2 : Int32) (l3 : Int32) (r34 : Int32 → Int32 → ax_M → Option (Int32 × ax_M)) (μ : ax_M) : Option (Int32 × ax_M) :=
  (r34 l2 (l3 + (1 : Int32)) μ)
theorem pX9_which_K113 {x : ax_X} {G : ax_G} (hG : ax_ok G) (l1 : Int32) (l2 : Int32) (l3 : Int32) (r34 : Int32 → Int32 → ax_M → Option (Int32 × ax_M)) (hr34 : ∀ (a2 : Int32) (a3 : Int32) (μ : ax_M), ax_Rf mX9_which 5 x (ax_Z ax_jI x G) G 0 0 34 [some (.ref 57), some (.int l1), some (.int a2), some (.int a3), none] [] μ (r34 a2 a3 μ)) (μ : ax_M) : ax_Rf mX9_which 5 x (ax_Z ax_jI x G) G 0 0 113 [some (.ref 57), some (.int l1), some (.int l2), some (.int l3), none] [] μ (fX9_which_K113 l1 l2 l3 r34 μ) := by
  unfold fX9_which_K113
  refine rf_iinc (lc2 := [some (.ref 57), some (.int l1), some (.int l2), some (.int (l3 + (1 : Int32))), none]) (n := 116) (w := (1 : Int32)) 3 dX9_which_113 rfl rfl rfl (Nat.le_of_ble_eq_true rfl) rfl rfl ?_
  refine rf_goto (tg := 34) dX9_which_116 rfl ?_
  exact hr34 _ _ _
def fX9_which_K100 (l1 : Int32) (l2 : Int32) (l3 : Int32) (s0 : Int32) (r34 : Int32 → Int32 → ax_M → Option (Int32 × ax_M)) (μ : ax_M) : Option (Int32 × ax_M) :=
  (if s0 = 0 then (fX9_which_K113 l1 l2 l3 r34 μ) else (ax_let (l2 ||| ((1 : Int32) <<< (l3 &&& 31))) (fun v10 => (fX9_which_K113 l1 v10 l3 r34 μ))))
theorem pX9_which_K100 {x : ax_X} {G : ax_G} (hG : ax_ok G) (l1 : Int32) (l2 : Int32) (l3 : Int32) (s0 : Int32) (r34 : Int32 → Int32 → ax_M → Option (Int32 × ax_M)) (hr34 : ∀ (a2 : Int32) (a3 : Int32) (μ : ax_M), ax_Rf mX9_which 5 x (ax_Z ax_jI x G) G 0 0 34 [some (.ref 57), some (.int l1), some (.int a2), some (.int a3), none] [] μ (r34 a2 a3 μ)) (μ : ax_M) : ax_Rf mX9_which 5 x (ax_Z ax_jI x G) G 0 0 100 [some (.ref 57), some (.int l1), some (.int l2), some (.int l3), none] [.int s0] μ (fX9_which_K100 l1 l2 l3 s0 r34 μ) := by
  unfold fX9_which_K100
  refine rf_istore (lc2 := [some (.ref 57), some (.int l1), some (.int l2), some (.int l3), some (.int s0)]) (n := 102) 4 dX9_which_100 rfl (Nat.le_of_ble_eq_true rfl) rfl rfl ?_
  refine rf_iload (n := 104) 4 dX9_which_102 rfl rfl ?_
  refine rf_if_eq (tg := 113) (n := 107) dX9_which_104 rfl rfl (fun c11 => ?_) (fun c11 => ?_)
  · refine rf_mask (lc2 := [some (.ref 57), some (.int l1), some (.int l2), some (.int l3), none]) [true, true, true, true, false] rfl ?_
    exact pX9_which_K113 hG _ _ _ r34 hr34 _
  · refine rf_iload_n (n := 108) 2 dX9_which_107 rfl rfl rfl ?_
    refine rf_iconst (n := 109) (1 : Int32) dX9_which_108 cciconst_1 rfl ?_
    refine rf_iload_n (n := 110) 3 dX9_which_109 rfl rfl rfl ?_
    refine rf_ishl (n := 111) dX9_which_110 rfl ?_
    refine rf_ior (n := 112) dX9_which_111 rfl ?_
    refine rf_letI (fun v10 => ?_)
    refine rf_istore_n (lc2 := [some (.ref 57), some (.int l1), some (.int v10), some (.int l3), some (.int s0)]) (n := 113) 2 dX9_which_112 rfl rfl (Nat.le_of_ble_eq_true rfl) rfl rfl ?_
    refine rf_mask (lc2 := [some (.ref 57), some (.int l1), some (.int v10), some (.int l3), none]) [true, true, true, true, false] rfl ?_
    exact pX9_which_K113 hG _ _ _ r34 hr34 _
def fX9_which_K69 (l1 : Int32) (l2 : Int32) (l3 : Int32) (r34 : Int32 → Int32 → ax_M → Option (Int32 × ax_M)) (μ : ax_M) : Option (Int32 × ax_M) :=
  (fX9_which_K100 l1 l2 l3 (0 : Int32) r34 μ)
theorem pX9_which_K69 {x : ax_X} {G : ax_G} (hG : ax_ok G) (l1 : Int32) (l2 : Int32) (l3 : Int32) (r34 : Int32 → Int32 → ax_M → Option (Int32 × ax_M)) (hr34 : ∀ (a2 : Int32) (a3 : Int32) (μ : ax_M), ax_Rf mX9_which 5 x (ax_Z ax_jI x G) G 0 0 34 [some (.ref 57), some (.int l1), some (.int a2), some (.int a3), none] [] μ (r34 a2 a3 μ)) (μ : ax_M) : ax_Rf mX9_which 5 x (ax_Z ax_jI x G) G 0 0 69 [some (.ref 57), some (.int l1), some (.int l2), some (.int l3), none] [] μ (fX9_which_K69 l1 l2 l3 r34 μ) := by
  unfold fX9_which_K69
  refine rf_iconst (n := 70) (0 : Int32) dX9_which_69 cciconst_0 rfl ?_
  refine rf_goto (tg := 100) dX9_which_70 rfl ?_
  exact pX9_which_K100 hG _ _ _ _ r34 hr34 _
def fX9_which_B34 (l1 : Int32) (r34 : Int32 → Int32 → ax_M → Option (Int32 × ax_M)) (l2 : Int32) (l3 : Int32) (μ : ax_M) : Option (Int32 × ax_M) :=
  (ax_bd (fX9_cells μ) (fun v4 m5 => (if v4 ≤ l3 then (some (l2, m5)) else (if l1 = 0 then (ax_bd (fX9_isFlop l3 m5) (fun v13 m14 => (if v13 = 0 then (Option.bind (ax_rl m14 76 10 l3) (fun v15 => (if (lg_cmp v15 (0 : Int64)) ≤ 0 then (fX9_which_K69 l1 l2 l3 r34 m14) else (fX9_which_K100 l1 l2 l3 (1 : Int32) r34 m14)))) else (fX9_which_K69 l1 l2 l3 r34 m14)))) else (Option.bind (ax_rl m5 76 10 l3) (fun v6 => (Option.bind (ax_rl m5 77 10 l3) (fun v7 => (ax_bd (fX9_roomOf l3 v6 v7 m5) (fun v8 m9 => (if 0 ≤ (lg_cmp v8 (0 : Int64)) then (fX9_which_K100 l1 l2 l3 (0 : Int32) r34 m9) else (fX9_which_K100 l1 l2 l3 (1 : Int32) r34 m9))))))))))))
theorem pX9_which_B34 {x : ax_X} {G : ax_G} (hG : ax_ok G) (l1 : Int32) (r34 : Int32 → Int32 → ax_M → Option (Int32 × ax_M)) (hr34 : ∀ (a2 : Int32) (a3 : Int32) (μ : ax_M), ax_Rf mX9_which 5 x (ax_Z ax_jI x G) G 0 0 34 [some (.ref 57), some (.int l1), some (.int a2), some (.int a3), none] [] μ (r34 a2 a3 μ)) (l2 : Int32) (l3 : Int32) (μ : ax_M) : ax_Rf mX9_which 5 x (ax_Z ax_jI x G) G 0 0 34 [some (.ref 57), some (.int l1), some (.int l2), some (.int l3), none] [] μ (fX9_which_B34 l1 r34 l2 l3 μ) := by
  unfold fX9_which_B34
  refine rf_iload_n (n := 35) 3 dX9_which_34 rfl rfl rfl ?_
  refine rf_aload_n (n := 36) 0 dX9_which_35 rfl rfl rfl ?_
  refine rf_cV0I (n := 39) hG (okX9_cells _) lVX9_233 hhX9_cells kk_57 sS_57 ⟨_, rfl, rfl⟩ dX9_which_36 rfl (Nat.le_of_ble_eq_true rfl) (Nat.le_of_ble_eq_true rfl) (fun v4 m5 => ?_)
  refine rf_icmp_ge (tg := 119) (n := 42) dX9_which_39 rfl rfl (fun c19 => ?_) (fun c19 => ?_)
  · refine rf_iload_n (n := 120) 2 dX9_which_119 rfl rfl rfl ?_
    exact rf_retI rfl dX9_which_120
  · refine rf_iload_n (n := 43) 1 dX9_which_42 rfl rfl rfl ?_
    refine rf_if_ne (tg := 73) (n := 46) dX9_which_43 rfl rfl (fun c18 => ?_) (fun c18 => ?_)
    · refine rf_aload_n (n := 74) 0 dX9_which_73 rfl rfl rfl ?_
      refine rf_iload_n (n := 75) 3 dX9_which_74 rfl rfl rfl ?_
      refine rf_aload_n (n := 76) 0 dX9_which_75 rfl rfl rfl ?_
      refine rf_getR (n := 79) rr_57_32 kk_76 hG dX9_which_76 flX9_69 ki_9_32 sS_57 kk_57 rfl ?_
      refine rf_iload_n (n := 80) 3 dX9_which_79 rfl rfl rfl ?_
      refine rf_lald (n := 81) hG dX9_which_80 sS_76 kk_76 rfl (fun v6 => ?_)
      refine rf_aload_n (n := 82) 0 dX9_which_81 rfl rfl rfl ?_
      refine rf_getR (n := 85) rr_57_33 kk_77 hG dX9_which_82 flX9_73 ki_9_33 sS_57 kk_57 rfl ?_
      refine rf_iload_n (n := 86) 3 dX9_which_85 rfl rfl rfl ?_
      refine rf_lald (n := 87) hG dX9_which_86 sS_77 kk_77 rfl (fun v7 => ?_)
      refine rf_cV3L (n := 90) hG (okX9_roomOf _ _ _ _) lVX9_309 hhX9_roomOf kk_57 sS_57 ⟨_, rfl, rfl⟩ dX9_which_87 rfl (Nat.le_of_ble_eq_true rfl) (Nat.le_of_ble_eq_true rfl) (fun v8 m9 => ?_)
      refine rf_lconst (n := 91) (0 : Int64) dX9_which_90 rfl rfl ?_
      refine rf_lcmp (n := 92) dX9_which_91 rfl ?_
      refine rf_if_ge (tg := 99) (n := 95) dX9_which_92 rfl rfl (fun c12 => ?_) (fun c12 => ?_)
      · refine rf_iconst (n := 100) (0 : Int32) dX9_which_99 cciconst_0 rfl ?_
        exact pX9_which_K100 hG _ _ _ _ r34 hr34 _
      · refine rf_iconst (n := 96) (1 : Int32) dX9_which_95 cciconst_1 rfl ?_
        refine rf_goto (tg := 100) dX9_which_96 rfl ?_
        exact pX9_which_K100 hG _ _ _ _ r34 hr34 _
    · refine rf_aload_n (n := 47) 0 dX9_which_46 rfl rfl rfl ?_
      refine rf_iload_n (n := 48) 3 dX9_which_47 rfl rfl rfl ?_
      refine rf_cV1I (n := 51) hG (okX9_isFlop _ _) lVX9_281 hhX9_isFlop kk_57 sS_57 ⟨_, rfl, rfl⟩ dX9_which_48 rfl (Nat.le_of_ble_eq_true rfl) (Nat.le_of_ble_eq_true rfl) (fun v13 m14 => ?_)
      refine rf_if_ne (tg := 69) (n := 54) dX9_which_51 rfl rfl (fun c17 => ?_) (fun c17 => ?_)
      · exact pX9_which_K69 hG _ _ _ r34 hr34 _
      · refine rf_aload_n (n := 55) 0 dX9_which_54 rfl rfl rfl ?_
        refine rf_getR (n := 58) rr_57_32 kk_76 hG dX9_which_55 flX9_69 ki_9_32 sS_57 kk_57 rfl ?_
        refine rf_iload_n (n := 59) 3 dX9_which_58 rfl rfl rfl ?_
        refine rf_lald (n := 60) hG dX9_which_59 sS_76 kk_76 rfl (fun v15 => ?_)
        refine rf_lconst (n := 61) (0 : Int64) dX9_which_60 rfl rfl ?_
        refine rf_lcmp (n := 62) dX9_which_61 rfl ?_
        refine rf_if_le (tg := 69) (n := 65) dX9_which_62 rfl rfl (fun c16 => ?_) (fun c16 => ?_)
        · exact pX9_which_K69 hG _ _ _ r34 hr34 _
        · refine rf_iconst (n := 66) (1 : Int32) dX9_which_65 cciconst_1 rfl ?_
          refine rf_goto (tg := 100) dX9_which_66 rfl ?_
          exact pX9_which_K100 hG _ _ _ _ r34 hr34 _
theorem pX9_which_L34 {x : ax_X} {G : ax_G} (hG : ax_ok G) (l1 : Int32) (n : Nat) (a2 : Int32) (a3 : Int32) (μ : ax_M) : ax_Rf mX9_which 5 x (ax_Z ax_jI x G) G 0 0 34 [some (.ref 57), some (.int l1), some (.int a2), some (.int a3), none] [] μ (ax_lp2 (fX9_which_B34 l1) n a2 a3 μ) :=
  rf_lp2 (P := fun a2 a3 μ t => ax_Rf mX9_which 5 x (ax_Z ax_jI x G) G 0 0 34 [some (.ref 57), some (.int l1), some (.int a2), some (.int a3), none] [] μ t) (fun _ _ _ => rf_none) (fun rc hrc a2 a3 μ => pX9_which_B34 hG l1 rc hrc a2 a3 μ) n a2 a3 μ
def fX9_which (p1 : Int32) (μ : ax_M) : Option (Int32 × ax_M) :=
  (ax_let (ax_wi μ 57 0 (0 : Int32)) (fun m1 => (if p1 < 0 then (fX9_which_K14 m1) else (if p1 ≤ (1 : Int32) then (ax_bd (fX9_settles m1) (fun _ m3 => (if (m3.1 57 35) = 0 then (ax_lp2 (fX9_which_B34 p1) ax_FU (0 : Int32) (0 : Int32) m3) else (some ((-2 : Int32), m3))))) else (fX9_which_K14 m1)))))
theorem okX9_which (p1 : Int32) (μ : ax_M) : ax_Ok mX9_which 5 ax_jI [.ref 57, .int p1] μ (fX9_which p1 μ) := by
  refine ax_start (lc := [some (.ref 57), some (.int p1), none, none, none]) 3 (by decide +kernel) rfl (Nat.le_of_ble_eq_true rfl) (fun x G hG => ?_)
  unfold fX9_which
  refine rf_aload_n (n := 1) 0 dX9_which_0 rfl rfl rfl ?_
  refine rf_iconst (n := 2) (0 : Int32) dX9_which_1 cciconst_0 rfl ?_
  refine rf_pfI (n := 5) hG rfl dX9_which_2 flX9_103 ki_9_0 nf_9_0 sS_57 kk_57 rfl (fun m1 => ?_)
  refine rf_iload_n (n := 6) 1 dX9_which_5 rfl rfl rfl ?_
  refine rf_if_lt (tg := 14) (n := 9) dX9_which_6 rfl rfl (fun c22 => ?_) (fun c22 => ?_)
  · refine rf_mask (lc2 := [none, none, none, none, none]) [false, false, true, true, true] rfl ?_
    exact pX9_which_K14 hG _
  · refine rf_iload_n (n := 10) 1 dX9_which_9 rfl rfl rfl ?_
    refine rf_iconst (n := 11) (1 : Int32) dX9_which_10 cciconst_1 rfl ?_
    refine rf_icmp_le (tg := 16) (n := 14) dX9_which_11 rfl rfl (fun c21 => ?_) (fun c21 => ?_)
    · refine rf_aload_n (n := 17) 0 dX9_which_16 rfl rfl rfl ?_
      refine rf_cV0V (n := 20) hG (okX9_settles _) lVX9_306 hhX9_settles kk_57 sS_57 ⟨_, rfl, rfl⟩ dX9_which_17 rfl (Nat.le_of_ble_eq_true rfl) (Nat.le_of_ble_eq_true rfl) (fun _ m3 => ?_)
      refine rf_aload_n (n := 21) 0 dX9_which_20 rfl rfl rfl ?_
      refine rf_getI (n := 24) hG dX9_which_21 flX9_303 ki_9_35 sS_57 kk_57 rfl ?_
      refine rf_if_eq (tg := 30) (n := 27) dX9_which_24 rfl rfl (fun c20 => ?_) (fun c20 => ?_)
      · refine rf_iconst (n := 31) (0 : Int32) dX9_which_30 cciconst_0 rfl ?_
        refine rf_istore_n (lc2 := [some (.ref 57), some (.int p1), some (.int (0 : Int32)), none, none]) (n := 32) 2 dX9_which_31 rfl rfl (Nat.le_of_ble_eq_true rfl) rfl rfl ?_
        refine rf_iconst (n := 33) (0 : Int32) dX9_which_32 cciconst_0 rfl ?_
        refine rf_istore_n (lc2 := [some (.ref 57), some (.int p1), some (.int (0 : Int32)), some (.int (0 : Int32)), none]) (n := 34) 3 dX9_which_33 rfl rfl (Nat.le_of_ble_eq_true rfl) rfl rfl ?_
        exact pX9_which_L34 hG _ _ _ _ _
      · refine rf_bipush (n := 29) (-2 : Int32) dX9_which_27 ccbipush_m2 rfl ?_
        exact rf_retI rfl dX9_which_29
    · refine rf_mask (lc2 := [none, none, none, none, none]) [false, false, true, true, true] rfl ?_
      exact pX9_which_K14 hG _
def fX8_good_K27 (s0 : Int32) (μ : ax_M) : Option (Int32 × ax_M) :=
  (some (s0, μ))
theorem pX8_good_K27 {x : ax_X} {G : ax_G} (hG : ax_ok G) (s0 : Int32) (μ : ax_M) : ax_Rf mX8_good 5 x (ax_Z ax_jI x G) G 0 0 27 [none] [.int s0] μ (fX8_good_K27 s0 μ) := by
  unfold fX8_good_K27
  exact rf_retI rfl dX8_good_27
def fX8_good (μ : ax_M) : Option (Int32 × ax_M) :=
  (ax_bd (fX5_isForever μ) (fun v1 m2 => (if v1 = 0 then (ax_bd (fX5_unmet m2) (fun v3 m4 => (if v3 = 0 then (fX8_good_K27 (2 : Int32) m4) else (fX8_good_K27 (1 : Int32) m4)))) else (some ((0 : Int32), m2)))))
theorem okX8_good (μ : ax_M) : ax_Ok mX8_good 5 ax_jI [.ref 0] μ (fX8_good μ) := by
  refine ax_start (lc := [some (.ref 0)]) 0 (by decide +kernel) rfl (Nat.le_of_ble_eq_true rfl) (fun x G hG => ?_)
  unfold fX8_good
  refine rf_aload_n (n := 1) 0 dX8_good_0 rfl rfl rfl ?_
  refine rf_getR (n := 4) rr_0_5 kk_32 hG dX8_good_1 flX8_41 ki_8_5 sS_0 kk_0 rfl ?_
  refine rf_cV0I (n := 7) hG (okX5_isForever _) lVX8_216 hhX5_isForever kk_32 sS_32 ⟨_, rfl, rfl⟩ dX8_good_4 rfl (Nat.le_of_ble_eq_true rfl) (Nat.le_of_ble_eq_true rfl) (fun v1 m2 => ?_)
  refine rf_if_eq (tg := 12) (n := 10) dX8_good_7 rfl rfl (fun c6 => ?_) (fun c6 => ?_)
  · refine rf_aload_n (n := 13) 0 dX8_good_12 rfl rfl rfl ?_
    refine rf_getR (n := 16) rr_0_5 kk_32 hG dX8_good_13 flX8_41 ki_8_5 sS_0 kk_0 rfl ?_
    refine rf_cV0I (n := 19) hG (okX5_unmet _) lVX8_244 hhX5_unmet kk_32 sS_32 ⟨_, rfl, rfl⟩ dX8_good_16 rfl (Nat.le_of_ble_eq_true rfl) (Nat.le_of_ble_eq_true rfl) (fun v3 m4 => ?_)
    refine rf_if_ne (tg := 26) (n := 22) dX8_good_19 rfl rfl (fun c5 => ?_) (fun c5 => ?_)
    · refine rf_iconst (n := 27) (1 : Int32) dX8_good_26 cciconst_1 rfl ?_
      refine rf_mask (lc2 := [none]) [false] rfl ?_
      exact pX8_good_K27 hG _ _
    · refine rf_iconst (n := 23) (2 : Int32) dX8_good_22 cciconst_2 rfl ?_
      refine rf_goto (tg := 27) dX8_good_23 rfl ?_
      refine rf_mask (lc2 := [none]) [false] rfl ?_
      exact pX8_good_K27 hG _ _
  · refine rf_iconst (n := 11) (0 : Int32) dX8_good_10 cciconst_0 rfl ?_
    exact rf_retI rfl dX8_good_11
def fX9_isGood_B15 (r15 : Int32 → ax_M → Option (Int32 × ax_M)) (l1 : Int32) (μ : ax_M) : Option (Int32 × ax_M) :=
  (ax_bd (fX9_cells μ) (fun v3 m4 => (if v3 ≤ l1 then (some ((1 : Int32), m4)) else (Option.bind (ax_rl m4 76 10 l1) (fun v5 => (Option.bind (ax_rl m4 77 10 l1) (fun v6 => (ax_bd (fX9_roomOf l1 v5 v6 m4) (fun v7 m8 => (if 0 ≤ (lg_cmp v7 (0 : Int64)) then (r15 (l1 + (1 : Int32)) m8) else (some ((0 : Int32), m8))))))))))))
theorem pX9_isGood_B15 {x : ax_X} {G : ax_G} (hG : ax_ok G) (r15 : Int32 → ax_M → Option (Int32 × ax_M)) (hr15 : ∀ (a1 : Int32) (μ : ax_M), ax_Rf mX9_isGood 5 x (ax_Z ax_jI x G) G 0 0 15 [some (.ref 57), some (.int a1)] [] μ (r15 a1 μ)) (l1 : Int32) (μ : ax_M) : ax_Rf mX9_isGood 5 x (ax_Z ax_jI x G) G 0 0 15 [some (.ref 57), some (.int l1)] [] μ (fX9_isGood_B15 r15 l1 μ) := by
  unfold fX9_isGood_B15
  refine rf_iload_n (n := 16) 1 dX9_isGood_15 rfl rfl rfl ?_
  refine rf_aload_n (n := 17) 0 dX9_isGood_16 rfl rfl rfl ?_
  refine rf_cV0I (n := 20) hG (okX9_cells _) lVX9_233 hhX9_cells kk_57 sS_57 ⟨_, rfl, rfl⟩ dX9_isGood_17 rfl (Nat.le_of_ble_eq_true rfl) (Nat.le_of_ble_eq_true rfl) (fun v3 m4 => ?_)
  refine rf_icmp_ge (tg := 53) (n := 23) dX9_isGood_20 rfl rfl (fun c10 => ?_) (fun c10 => ?_)
  · refine rf_iconst (n := 54) (1 : Int32) dX9_isGood_53 cciconst_1 rfl ?_
    exact rf_retB rfl (Or.inr rfl) dX9_isGood_54
  · refine rf_aload_n (n := 24) 0 dX9_isGood_23 rfl rfl rfl ?_
    refine rf_iload_n (n := 25) 1 dX9_isGood_24 rfl rfl rfl ?_
    refine rf_aload_n (n := 26) 0 dX9_isGood_25 rfl rfl rfl ?_
    refine rf_getR (n := 29) rr_57_32 kk_76 hG dX9_isGood_26 flX9_69 ki_9_32 sS_57 kk_57 rfl ?_
    refine rf_iload_n (n := 30) 1 dX9_isGood_29 rfl rfl rfl ?_
    refine rf_lald (n := 31) hG dX9_isGood_30 sS_76 kk_76 rfl (fun v5 => ?_)
    refine rf_aload_n (n := 32) 0 dX9_isGood_31 rfl rfl rfl ?_
    refine rf_getR (n := 35) rr_57_33 kk_77 hG dX9_isGood_32 flX9_73 ki_9_33 sS_57 kk_57 rfl ?_
    refine rf_iload_n (n := 36) 1 dX9_isGood_35 rfl rfl rfl ?_
    refine rf_lald (n := 37) hG dX9_isGood_36 sS_77 kk_77 rfl (fun v6 => ?_)
    refine rf_cV3L (n := 40) hG (okX9_roomOf _ _ _ _) lVX9_309 hhX9_roomOf kk_57 sS_57 ⟨_, rfl, rfl⟩ dX9_isGood_37 rfl (Nat.le_of_ble_eq_true rfl) (Nat.le_of_ble_eq_true rfl) (fun v7 m8 => ?_)
    refine rf_lconst (n := 41) (0 : Int64) dX9_isGood_40 rfl rfl ?_
    refine rf_lcmp (n := 42) dX9_isGood_41 rfl ?_
    refine rf_if_ge (tg := 47) (n := 45) dX9_isGood_42 rfl rfl (fun c9 => ?_) (fun c9 => ?_)
    · refine rf_iinc (lc2 := [some (.ref 57), some (.int (l1 + (1 : Int32)))]) (n := 50) (w := (1 : Int32)) 1 dX9_isGood_47 rfl rfl rfl (Nat.le_of_ble_eq_true rfl) rfl rfl ?_
      refine rf_goto (tg := 15) dX9_isGood_50 rfl ?_
      exact hr15 _ _
    · refine rf_iconst (n := 46) (0 : Int32) dX9_isGood_45 cciconst_0 rfl ?_
      exact rf_retB rfl (Or.inl rfl) dX9_isGood_46
theorem pX9_isGood_L15 {x : ax_X} {G : ax_G} (hG : ax_ok G) (n : Nat) (a1 : Int32) (μ : ax_M) : ax_Rf mX9_isGood 5 x (ax_Z ax_jI x G) G 0 0 15 [some (.ref 57), some (.int a1)] [] μ (ax_lp1 (fX9_isGood_B15) n a1 μ) :=
  rf_lp1 (P := fun a1 μ t => ax_Rf mX9_isGood 5 x (ax_Z ax_jI x G) G 0 0 15 [some (.ref 57), some (.int a1)] [] μ t) (fun _ _ => rf_none) (fun rc hrc a1 μ => pX9_isGood_B15 hG rc hrc a1 μ) n a1 μ
def fX9_isGood (μ : ax_M) : Option (Int32 × ax_M) :=
  (ax_bd (fX9_settles μ) (fun _ m2 => (if (m2.1 57 35) = 0 then (ax_lp1 (fX9_isGood_B15) ax_FU (0 : Int32) m2) else (some ((0 : Int32), m2)))))
theorem okX9_isGood (μ : ax_M) : ax_Ok mX9_isGood 5 ax_jI [.ref 57] μ (fX9_isGood μ) := by
  refine ax_start (lc := [some (.ref 57), none]) 1 (by decide +kernel) rfl (Nat.le_of_ble_eq_true rfl) (fun x G hG => ?_)
  unfold fX9_isGood
  refine rf_aload_n (n := 1) 0 dX9_isGood_0 rfl rfl rfl ?_
  refine rf_cV0V (n := 4) hG (okX9_settles _) lVX9_306 hhX9_settles kk_57 sS_57 ⟨_, rfl, rfl⟩ dX9_isGood_1 rfl (Nat.le_of_ble_eq_true rfl) (Nat.le_of_ble_eq_true rfl) (fun _ m2 => ?_)
  refine rf_aload_n (n := 5) 0 dX9_isGood_4 rfl rfl rfl ?_
  refine rf_getI (n := 8) hG dX9_isGood_5 flX9_303 ki_9_35 sS_57 kk_57 rfl ?_
  refine rf_if_eq (tg := 13) (n := 11) dX9_isGood_8 rfl rfl (fun c11 => ?_) (fun c11 => ?_)
  · refine rf_iconst (n := 14) (0 : Int32) dX9_isGood_13 cciconst_0 rfl ?_
    refine rf_istore_n (lc2 := [some (.ref 57), some (.int (0 : Int32))]) (n := 15) 1 dX9_isGood_14 rfl rfl (Nat.le_of_ble_eq_true rfl) rfl rfl ?_
    exact pX9_isGood_L15 hG _ _ _
  · refine rf_iconst (n := 12) (0 : Int32) dX9_isGood_11 cciconst_0 rfl ?_
    exact rf_retB rfl (Or.inl rfl) dX9_isGood_12
def fX9_good_K30 (s0 : Int32) (μ : ax_M) : Option (Int32 × ax_M) :=
  (some (s0, μ))
theorem pX9_good_K30 {x : ax_X} {G : ax_G} (hG : ax_ok G) (s0 : Int32) (μ : ax_M) : ax_Rf mX9_good 6 x (ax_Z ax_jI x G) G 0 0 30 [none, none] [.int s0] μ (fX9_good_K30 s0 μ) := by
  unfold fX9_good_K30
  exact rf_retI rfl dX9_good_30
def fX9_good (μ : ax_M) : Option (Int32 × ax_M) :=
  (ax_let (ax_wi μ 57 0 (0 : Int32)) (fun m1 => (ax_bd (fX9_isGood m1) (fun v2 m3 => (if (m3.1 57 35) = 0 then (if v2 = 0 then (fX9_good_K30 (1 : Int32) m3) else (fX9_good_K30 (2 : Int32) m3)) else (fX9_good_K30 (0 : Int32) m3))))))
theorem okX9_good (μ : ax_M) : ax_Ok mX9_good 6 ax_jI [.ref 57] μ (fX9_good μ) := by
  refine ax_start (lc := [some (.ref 57), none]) 1 (by decide +kernel) rfl (Nat.le_of_ble_eq_true rfl) (fun x G hG => ?_)
  unfold fX9_good
  refine rf_aload_n (n := 1) 0 dX9_good_0 rfl rfl rfl ?_
  refine rf_iconst (n := 2) (0 : Int32) dX9_good_1 cciconst_0 rfl ?_
  refine rf_pfI (n := 5) hG rfl dX9_good_2 flX9_103 ki_9_0 nf_9_0 sS_57 kk_57 rfl (fun m1 => ?_)
  refine rf_aload_n (n := 6) 0 dX9_good_5 rfl rfl rfl ?_
  refine rf_cV0I (n := 9) hG (okX9_isGood _) lVX9_328 hhX9_isGood kk_57 sS_57 ⟨_, rfl, rfl⟩ dX9_good_6 rfl (Nat.le_of_ble_eq_true rfl) (Nat.le_of_ble_eq_true rfl) (fun v2 m3 => ?_)
  refine rf_istore_n (lc2 := [some (.ref 57), some (.int v2)]) (n := 10) 1 dX9_good_9 rfl rfl (Nat.le_of_ble_eq_true rfl) rfl rfl ?_
  refine rf_aload_n (n := 11) 0 dX9_good_10 rfl rfl rfl ?_
  refine rf_getI (n := 14) hG dX9_good_11 flX9_303 ki_9_35 sS_57 kk_57 rfl ?_
  refine rf_if_eq (tg := 21) (n := 17) dX9_good_14 rfl rfl (fun c5 => ?_) (fun c5 => ?_)
  · refine rf_iload_n (n := 22) 1 dX9_good_21 rfl rfl rfl ?_
    refine rf_if_eq (tg := 29) (n := 25) dX9_good_22 rfl rfl (fun c4 => ?_) (fun c4 => ?_)
    · refine rf_iconst (n := 30) (1 : Int32) dX9_good_29 cciconst_1 rfl ?_
      refine rf_mask (lc2 := [none, none]) [false, false] rfl ?_
      exact pX9_good_K30 hG _ _
    · refine rf_iconst (n := 26) (2 : Int32) dX9_good_25 cciconst_2 rfl ?_
      refine rf_goto (tg := 30) dX9_good_26 rfl ?_
      refine rf_mask (lc2 := [none, none]) [false, false] rfl ?_
      exact pX9_good_K30 hG _ _
  · refine rf_iconst (n := 18) (0 : Int32) dX9_good_17 cciconst_0 rfl ?_
    refine rf_goto (tg := 30) dX9_good_18 rfl ?_
    refine rf_mask (lc2 := [none, none]) [false, false] rfl ?_
    exact pX9_good_K30 hG _ _
