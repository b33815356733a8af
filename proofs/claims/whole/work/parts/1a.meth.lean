def fX9_flopMany_K26 (l2 : Int32) (s0 : Int32) (s1 : Int32) (r4 : Int32 → Int32 → ax_M → Option (Int32 × ax_M)) (μ : ax_M) : Option (Int32 × ax_M) :=
  (ax_let (s0 + s1) (fun v5 => (r4 v5 (l2 + (1 : Int32)) μ)))
theorem pX9_flopMany_K26 {x : ax_X} {G : ax_G} (hG : ax_ok G) (l2 : Int32) (s0 : Int32) (s1 : Int32) (r4 : Int32 → Int32 → ax_M → Option (Int32 × ax_M)) (hr4 : ∀ (a1 : Int32) (a2 : Int32) (μ : ax_M), ax_Rf mX9_flopMany 1 x (ax_Z ax_jI x G) G 0 0 4 [some (.ref 57), some (.int a1), some (.int a2)] [] μ (r4 a1 a2 μ)) (μ : ax_M) : ax_Rf mX9_flopMany 1 x (ax_Z ax_jI x G) G 0 0 26 [some (.ref 57), none, some (.int l2)] [.int s1, .int s0] μ (fX9_flopMany_K26 l2 s0 s1 r4 μ) := by
  unfold fX9_flopMany_K26
  refine rf_iadd (n := 27) dX9_flopMany_26 rfl ?_
  refine rf_letI (fun v5 => ?_)
  refine rf_istore_n (lc2 := [some (.ref 57), some (.int v5), some (.int l2)]) (n := 28) 1 dX9_flopMany_27 rfl rfl (Nat.le_of_ble_eq_true rfl) rfl rfl ?_
  refine rf_iinc (lc2 := [some (.ref 57), some (.int v5), some (.int (l2 + (1 : Int32)))]) (n := 31) (w := (1 : Int32)) 2 dX9_flopMany_28 rfl rfl rfl (Nat.le_of_ble_eq_true rfl) rfl rfl ?_
  refine rf_goto (tg := 4) dX9_flopMany_31 rfl ?_
  exact hr4 _ _ _
def fX9_flopMany_B4 (r4 : Int32 → Int32 → ax_M → Option (Int32 × ax_M)) (l1 : Int32) (l2 : Int32) (μ : ax_M) : Option (Int32 × ax_M) :=
  (ax_bd (fX9_cells μ) (fun v1 m2 => (if v1 ≤ l2 then (some (l1, m2)) else (ax_bd (fX9_isFlop l2 m2) (fun v3 m4 => (if v3 = 0 then (fX9_flopMany_K26 l2 l1 (0 : Int32) r4 m4) else (fX9_flopMany_K26 l2 l1 (1 : Int32) r4 m4)))))))
theorem pX9_flopMany_B4 {x : ax_X} {G : ax_G} (hG : ax_ok G) (r4 : Int32 → Int32 → ax_M → Option (Int32 × ax_M)) (hr4 : ∀ (a1 : Int32) (a2 : Int32) (μ : ax_M), ax_Rf mX9_flopMany 1 x (ax_Z ax_jI x G) G 0 0 4 [some (.ref 57), some (.int a1), some (.int a2)] [] μ (r4 a1 a2 μ)) (l1 : Int32) (l2 : Int32) (μ : ax_M) : ax_Rf mX9_flopMany 1 x (ax_Z ax_jI x G) G 0 0 4 [some (.ref 57), some (.int l1), some (.int l2)] [] μ (fX9_flopMany_B4 r4 l1 l2 μ) := by
  unfold fX9_flopMany_B4
  refine rf_iload_n (n := 5) 2 dX9_flopMany_4 rfl rfl rfl ?_
  refine rf_aload_n (n := 6) 0 dX9_flopMany_5 rfl rfl rfl ?_
  refine rf_cV0I (n := 9) hG (okX9_cells _) lVX9_233 hhX9_cells kk_57 sS_57 ⟨_, rfl, rfl⟩ dX9_flopMany_6 rfl (Nat.le_of_ble_eq_true rfl) (Nat.le_of_ble_eq_true rfl) (fun v1 m2 => ?_)
  refine rf_icmp_ge (tg := 34) (n := 12) dX9_flopMany_9 rfl rfl (fun c7 => ?_) (fun c7 => ?_)
  · refine rf_iload_n (n := 35) 1 dX9_flopMany_34 rfl rfl rfl ?_
    exact rf_retI rfl dX9_flopMany_35
  · refine rf_iload_n (n := 13) 1 dX9_flopMany_12 rfl rfl rfl ?_
    refine rf_aload_n (n := 14) 0 dX9_flopMany_13 rfl rfl rfl ?_
    refine rf_iload_n (n := 15) 2 dX9_flopMany_14 rfl rfl rfl ?_
    refine rf_cV1I (n := 18) hG (okX9_isFlop _ _) lVX9_281 hhX9_isFlop kk_57 sS_57 ⟨_, rfl, rfl⟩ dX9_flopMany_15 rfl (Nat.le_of_ble_eq_true rfl) (Nat.le_of_ble_eq_true rfl) (fun v3 m4 => ?_)
    refine rf_if_eq (tg := 25) (n := 21) dX9_flopMany_18 rfl rfl (fun c6 => ?_) (fun c6 => ?_)
    · refine rf_iconst (n := 26) (0 : Int32) dX9_flopMany_25 cciconst_0 rfl ?_
      refine rf_mask (lc2 := [some (.ref 57), none, some (.int l2)]) [true, false, true] rfl ?_
      exact pX9_flopMany_K26 hG _ _ _ r4 hr4 _
    · refine rf_iconst (n := 22) (1 : Int32) dX9_flopMany_21 cciconst_1 rfl ?_
      refine rf_goto (tg := 26) dX9_flopMany_22 rfl ?_
      refine rf_mask (lc2 := [some (.ref 57), none, some (.int l2)]) [true, false, true] rfl ?_
      exact pX9_flopMany_K26 hG _ _ _ r4 hr4 _
theorem pX9_flopMany_L4 {x : ax_X} {G : ax_G} (hG : ax_ok G) (n : Nat) (a1 : Int32) (a2 : Int32) (μ : ax_M) : ax_Rf mX9_flopMany 1 x (ax_Z ax_jI x G) G 0 0 4 [some (.ref 57), some (.int a1), some (.int a2)] [] μ (ax_lp2 (fX9_flopMany_B4) n a1 a2 μ) :=
  rf_lp2 (P := fun a1 a2 μ t => ax_Rf mX9_flopMany 1 x (ax_Z ax_jI x G) G 0 0 4 [some (.ref 57), some (.int a1), some (.int a2)] [] μ t) (fun _ _ _ => rf_none) (fun rc hrc a1 a2 μ => pX9_flopMany_B4 hG rc hrc a1 a2 μ) n a1 a2 μ
def fX9_flopMany (μ : ax_M) : Option (Int32 × ax_M) :=
  (ax_lp2 (fX9_flopMany_B4) ax_FU (0 : Int32) (0 : Int32) μ)
theorem okX9_flopMany (μ : ax_M) : ax_Ok mX9_flopMany 1 ax_jI [.ref 57] μ (fX9_flopMany μ) := by
  refine ax_start (lc := [some (.ref 57), none, none]) 2 (by decide +kernel) rfl (Nat.le_of_ble_eq_true rfl) (fun x G hG => ?_)
  unfold fX9_flopMany
  refine rf_iconst (n := 1) (0 : Int32) dX9_flopMany_0 cciconst_0 rfl ?_
  refine rf_istore_n (lc2 := [some (.ref 57), some (.int (0 : Int32)), none]) (n := 2) 1 dX9_flopMany_1 rfl rfl (Nat.le_of_ble_eq_true rfl) rfl rfl ?_
  refine rf_iconst (n := 3) (0 : Int32) dX9_flopMany_2 cciconst_0 rfl ?_
  refine rf_istore_n (lc2 := [some (.ref 57), some (.int (0 : Int32)), some (.int (0 : Int32))]) (n := 4) 2 dX9_flopMany_3 rfl rfl (Nat.le_of_ble_eq_true rfl) rfl rfl ?_
  exact pX9_flopMany_L4 hG _ _ _ _
def fX9_count (p1 : Int32) (μ : ax_M) : Option (Int32 × ax_M) :=
  (ax_let (ax_wi μ 57 0 (0 : Int32)) (fun m1 => (if p1 = (0 : Int32) then (ax_bd (fX9_phases m1) (fun v3 m4 => (some (v3, m4)))) else (if p1 = (1 : Int32) then (ax_bd (fX9_cells m1) (fun v6 m7 => (some (v6, m7)))) else (if p1 = (2 : Int32) then (ax_bd (fX9_paths m1) (fun v9 m10 => (some (v9, m10)))) else (if p1 = (3 : Int32) then (Option.bind (ax_rd m1 74 68 (0 : Int32)) (fun v12 => (some (v12, m1)))) else (if p1 = (4 : Int32) then (ax_bd (fX9_flopMany m1) (fun v14 m15 => (some (v14, m15)))) else (if p1 = (5 : Int32) then (some ((m1.1 57 30), m1)) else (if p1 = (6 : Int32) then (some ((m1.1 57 2), m1)) else (if p1 = (7 : Int32) then (Option.bind (ax_rd m1 74 68 (67 : Int32)) (fun v19 => (some (v19, m1)))) else (if p1 = (8 : Int32) then (ax_bd (fX9_cells m1) (fun v21 m22 => (ax_bd (fX9_flopMany m22) (fun v23 m24 => (some ((v21 - v23), m24)))))) else (some ((-1 : Int32), m1)))))))))))))
theorem okX9_count (p1 : Int32) (μ : ax_M) : ax_Ok mX9_count 2 ax_jI [.ref 57, .int p1] μ (fX9_count p1 μ) := by
  refine ax_start (lc := [some (.ref 57), some (.int p1)]) 0 (by decide +kernel) rfl (Nat.le_of_ble_eq_true rfl) (fun x G hG => ?_)
  unfold fX9_count
  refine rf_aload_n (n := 1) 0 dX9_count_0 rfl rfl rfl ?_
  refine rf_iconst (n := 2) (0 : Int32) dX9_count_1 cciconst_0 rfl ?_
  refine rf_pfI (n := 5) hG rfl dX9_count_2 flX9_103 ki_9_0 nf_9_0 sS_57 kk_57 rfl (fun m1 => ?_)
  refine rf_iload_n (n := 6) 1 dX9_count_5 rfl rfl rfl ?_
  refine rf_split (fun c2 => ?_) (fun c2 => ?_)
  · refine rf_tabIn (tg := 56) (0 : Int32) c2 dX9_count_6 (by decide) rfl rfl ?_
    refine rf_aload_n (n := 57) 0 dX9_count_56 rfl rfl rfl ?_
    refine rf_cV0I (n := 60) hG (okX9_phases _) lVX9_230 hhX9_phases kk_57 sS_57 ⟨_, rfl, rfl⟩ dX9_count_57 rfl (Nat.le_of_ble_eq_true rfl) (Nat.le_of_ble_eq_true rfl) (fun v3 m4 => ?_)
    exact rf_retI rfl dX9_count_60
  · refine rf_split (fun c5 => ?_) (fun c5 => ?_)
    · refine rf_tabIn (tg := 61) (1 : Int32) c5 dX9_count_6 (by decide) rfl rfl ?_
      refine rf_aload_n (n := 62) 0 dX9_count_61 rfl rfl rfl ?_
      refine rf_cV0I (n := 65) hG (okX9_cells _) lVX9_233 hhX9_cells kk_57 sS_57 ⟨_, rfl, rfl⟩ dX9_count_62 rfl (Nat.le_of_ble_eq_true rfl) (Nat.le_of_ble_eq_true rfl) (fun v6 m7 => ?_)
      exact rf_retI rfl dX9_count_65
    · refine rf_split (fun c8 => ?_) (fun c8 => ?_)
      · refine rf_tabIn (tg := 66) (2 : Int32) c8 dX9_count_6 (by decide) rfl rfl ?_
        refine rf_aload_n (n := 67) 0 dX9_count_66 rfl rfl rfl ?_
        refine rf_cV0I (n := 70) hG (okX9_paths _) lVX9_236 hhX9_paths kk_57 sS_57 ⟨_, rfl, rfl⟩ dX9_count_67 rfl (Nat.le_of_ble_eq_true rfl) (Nat.le_of_ble_eq_true rfl) (fun v9 m10 => ?_)
        exact rf_retI rfl dX9_count_70
      · refine rf_split (fun c11 => ?_) (fun c11 => ?_)
        · refine rf_tabIn (tg := 71) (3 : Int32) c11 dX9_count_6 (by decide) rfl rfl ?_
          refine rf_aload_n (n := 72) 0 dX9_count_71 rfl rfl rfl ?_
          refine rf_getR (n := 75) rr_57_28 kk_74 hG dX9_count_72 flX9_63 ki_9_28 sS_57 kk_57 rfl ?_
          refine rf_iconst (n := 76) (0 : Int32) dX9_count_75 cciconst_0 rfl ?_
          refine rf_iald (n := 77) hG dX9_count_76 sS_74 kk_74 rfl (fun v12 => ?_)
          exact rf_retI rfl dX9_count_77
        · refine rf_split (fun c13 => ?_) (fun c13 => ?_)
          · refine rf_tabIn (tg := 78) (4 : Int32) c13 dX9_count_6 (by decide) rfl rfl ?_
            refine rf_aload_n (n := 79) 0 dX9_count_78 rfl rfl rfl ?_
            refine rf_cV0I (n := 82) hG (okX9_flopMany _) lVX9_392 hhX9_flopMany kk_57 sS_57 ⟨_, rfl, rfl⟩ dX9_count_79 rfl (Nat.le_of_ble_eq_true rfl) (Nat.le_of_ble_eq_true rfl) (fun v14 m15 => ?_)
            exact rf_retI rfl dX9_count_82
          · refine rf_split (fun c16 => ?_) (fun c16 => ?_)
            · refine rf_tabIn (tg := 83) (5 : Int32) c16 dX9_count_6 (by decide) rfl rfl ?_
              refine rf_aload_n (n := 84) 0 dX9_count_83 rfl rfl rfl ?_
              refine rf_getI (n := 87) hG dX9_count_84 flX9_223 ki_9_30 sS_57 kk_57 rfl ?_
              exact rf_retI rfl dX9_count_87
            · refine rf_split (fun c17 => ?_) (fun c17 => ?_)
              · refine rf_tabIn (tg := 88) (6 : Int32) c17 dX9_count_6 (by decide) rfl rfl ?_
                refine rf_aload_n (n := 89) 0 dX9_count_88 rfl rfl rfl ?_
                refine rf_getI (n := 92) hG dX9_count_89 flX9_106 ki_9_2 sS_57 kk_57 rfl ?_
                exact rf_retI rfl dX9_count_92
              · refine rf_split (fun c18 => ?_) (fun c18 => ?_)
                · refine rf_tabIn (tg := 93) (7 : Int32) c18 dX9_count_6 (by decide) rfl rfl ?_
                  refine rf_aload_n (n := 94) 0 dX9_count_93 rfl rfl rfl ?_
                  refine rf_getR (n := 97) rr_57_28 kk_74 hG dX9_count_94 flX9_63 ki_9_28 sS_57 kk_57 rfl ?_
                  refine rf_bipush (n := 99) (67 : Int32) dX9_count_97 ccbipush_67 rfl ?_
                  refine rf_iald (n := 100) hG dX9_count_99 sS_74 kk_74 rfl (fun v19 => ?_)
                  exact rf_retI rfl dX9_count_100
                · refine rf_split (fun c20 => ?_) (fun c20 => ?_)
                  · refine rf_tabIn (tg := 101) (8 : Int32) c20 dX9_count_6 (by decide) rfl rfl ?_
                    refine rf_aload_n (n := 102) 0 dX9_count_101 rfl rfl rfl ?_
                    refine rf_cV0I (n := 105) hG (okX9_cells _) lVX9_233 hhX9_cells kk_57 sS_57 ⟨_, rfl, rfl⟩ dX9_count_102 rfl (Nat.le_of_ble_eq_true rfl) (Nat.le_of_ble_eq_true rfl) (fun v21 m22 => ?_)
                    refine rf_aload_n (n := 106) 0 dX9_count_105 rfl rfl rfl ?_
                    refine rf_cV0I (n := 109) hG (okX9_flopMany _) lVX9_392 hhX9_flopMany kk_57 sS_57 ⟨_, rfl, rfl⟩ dX9_count_106 rfl (Nat.le_of_ble_eq_true rfl) (Nat.le_of_ble_eq_true rfl) (fun v23 m24 => ?_)
                    refine rf_isub (n := 110) dX9_count_109 rfl ?_
                    exact rf_retI rfl dX9_count_110
                  · refine rf_tabOut (tg := 111) [(0 : Int32), (1 : Int32), (2 : Int32), (3 : Int32), (4 : Int32), (5 : Int32), (6 : Int32), (7 : Int32), (8 : Int32)] (List.forall_mem_cons.mpr ⟨c2, List.forall_mem_cons.mpr ⟨c5, List.forall_mem_cons.mpr ⟨c8, List.forall_mem_cons.mpr ⟨c11, List.forall_mem_cons.mpr ⟨c13, List.forall_mem_cons.mpr ⟨c16, List.forall_mem_cons.mpr ⟨c17, List.forall_mem_cons.mpr ⟨c18, List.forall_mem_cons.mpr ⟨c20, List.forall_mem_nil _⟩⟩⟩⟩⟩⟩⟩⟩⟩) dX9_count_6 (by decide) rfl ?_
                    refine rf_iconst (n := 112) (-1 : Int32) dX9_count_111 cciconst_m1 rfl ?_
                    exact rf_retI rfl dX9_count_112
