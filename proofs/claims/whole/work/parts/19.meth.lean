def fX9_event_K28 (μ : ax_M) : Option (Int32 × ax_M) :=
  (some ((-1 : Int32), μ))
theorem pX9_event_K28 {x : ax_X} {G : ax_G} (hG : ax_ok G) (μ : ax_M) : ax_Rf mX9_event 1 x (ax_Z ax_jI x G) G 0 0 28 [none, none, none, none, none, none] [] μ (fX9_event_K28 μ) := by
  unfold fX9_event_K28
  refine rf_iconst (n := 29) (-1 : Int32) dX9_event_28 cciconst_m1 rfl ?_
  exact rf_retI rfl dX9_event_29
def fX9_event_K161 (l1 : Int32) (l2 : Int32) (l3 : Int32) (r32 : Int32 → ax_M → Option (Int32 × ax_M)) (μ : ax_M) : Option (Int32 × ax_M) :=
  (r32 (l3 + (1 : Int32)) μ)
theorem pX9_event_K161 {x : ax_X} {G : ax_G} (hG : ax_ok G) (l1 : Int32) (l2 : Int32) (l3 : Int32) (r32 : Int32 → ax_M → Option (Int32 × ax_M)) (hr32 : ∀ (a3 : Int32) (μ : ax_M), ax_Rf mX9_event 1 x (ax_Z ax_jI x G) G 0 0 32 [some (.ref 57), some (.int l1), some (.int l2), some (.int a3), none, none] [] μ (r32 a3 μ)) (μ : ax_M) : ax_Rf mX9_event 1 x (ax_Z ax_jI x G) G 0 0 161 [some (.ref 57), some (.int l1), some (.int l2), some (.int l3), none, none] [] μ (fX9_event_K161 l1 l2 l3 r32 μ) := by
  unfold fX9_event_K161
  refine rf_iinc (lc2 := [some (.ref 57), some (.int l1), some (.int l2), some (.int (l3 + (1 : Int32))), none, none]) (n := 164) (w := (1 : Int32)) 3 dX9_event_161 rfl rfl rfl (Nat.le_of_ble_eq_true rfl) rfl rfl ?_
  refine rf_goto (tg := 32) dX9_event_164 rfl ?_
  exact hr32 _ _
def fX9_event_K160 (s0 : Int32) (μ : ax_M) : Option (Int32 × ax_M) :=
  (some (s0, μ))
theorem pX9_event_K160 {x : ax_X} {G : ax_G} (hG : ax_ok G) (s0 : Int32) (μ : ax_M) : ax_Rf mX9_event 1 x (ax_Z ax_jI x G) G 0 0 160 [none, none, none, none, none, none] [.int s0] μ (fX9_event_K160 s0 μ) := by
  unfold fX9_event_K160
  exact rf_retI rfl dX9_event_160
def fX9_event_K122 (l1 : Int32) (l2 : Int32) (l3 : Int32) (l4 : Int32) (l5 : Int32) (r57 : Int32 → Int32 → ax_M → Option (Int32 × ax_M)) (μ : ax_M) : Option (Int32 × ax_M) :=
  (r57 l4 (l5 + (1 : Int32)) μ)
theorem pX9_event_K122 {x : ax_X} {G : ax_G} (hG : ax_ok G) (l1 : Int32) (l2 : Int32) (l3 : Int32) (l4 : Int32) (l5 : Int32) (r57 : Int32 → Int32 → ax_M → Option (Int32 × ax_M)) (hr57 : ∀ (a4 : Int32) (a5 : Int32) (μ : ax_M), ax_Rf mX9_event 1 x (ax_Z ax_jI x G) G 0 0 57 [some (.ref 57), some (.int l1), some (.int l2), some (.int l3), some (.int a4), some (.int a5)] [] μ (r57 a4 a5 μ)) (μ : ax_M) : ax_Rf mX9_event 1 x (ax_Z ax_jI x G) G 0 0 122 [some (.ref 57), some (.int l1), some (.int l2), some (.int l3), some (.int l4), some (.int l5)] [] μ (fX9_event_K122 l1 l2 l3 l4 l5 r57 μ) := by
  unfold fX9_event_K122
  refine rf_iinc (lc2 := [some (.ref 57), some (.int l1), some (.int l2), some (.int l3), some (.int l4), some (.int (l5 + (1 : Int32)))]) (n := 125) (w := (1 : Int32)) 5 dX9_event_122 rfl rfl rfl (Nat.le_of_ble_eq_true rfl) rfl rfl ?_
  refine rf_goto (tg := 57) dX9_event_125 rfl ?_
  exact hr57 _ _ _
def fX9_event_K119 (l1 : Int32) (l2 : Int32) (l3 : Int32) (l5 : Int32) (s0 : Int32) (s1 : Int32) (r57 : Int32 → Int32 → ax_M → Option (Int32 × ax_M)) (μ : ax_M) : Option (Int32 × ax_M) :=
  (ax_let (s0 + s1) (fun v21 => (fX9_event_K122 l1 l2 l3 v21 l5 r57 μ)))
theorem pX9_event_K119 {x : ax_X} {G : ax_G} (hG : ax_ok G) (l1 : Int32) (l2 : Int32) (l3 : Int32) (l5 : Int32) (s0 : Int32) (s1 : Int32) (r57 : Int32 → Int32 → ax_M → Option (Int32 × ax_M)) (hr57 : ∀ (a4 : Int32) (a5 : Int32) (μ : ax_M), ax_Rf mX9_event 1 x (ax_Z ax_jI x G) G 0 0 57 [some (.ref 57), some (.int l1), some (.int l2), some (.int l3), some (.int a4), some (.int a5)] [] μ (r57 a4 a5 μ)) (μ : ax_M) : ax_Rf mX9_event 1 x (ax_Z ax_jI x G) G 0 0 119 [some (.ref 57), some (.int l1), some (.int l2), some (.int l3), none, some (.int l5)] [.int s1, .int s0] μ (fX9_event_K119 l1 l2 l3 l5 s0 s1 r57 μ) := by
  unfold fX9_event_K119
  refine rf_iadd (n := 120) dX9_event_119 rfl ?_
  refine rf_letI (fun v21 => ?_)
  refine rf_istore (lc2 := [some (.ref 57), some (.int l1), some (.int l2), some (.int l3), some (.int v21), some (.int l5)]) (n := 122) 4 dX9_event_120 rfl (Nat.le_of_ble_eq_true rfl) rfl rfl ?_
  exact pX9_event_K122 hG _ _ _ _ _ r57 hr57 _
def fX9_event_K114 (l1 : Int32) (l2 : Int32) (l3 : Int32) (l5 : Int32) (s0 : Int32) (r57 : Int32 → Int32 → ax_M → Option (Int32 × ax_M)) (μ : ax_M) : Option (Int32 × ax_M) :=
  (fX9_event_K119 l1 l2 l3 l5 s0 (1 : Int32) r57 μ)
theorem pX9_event_K114 {x : ax_X} {G : ax_G} (hG : ax_ok G) (l1 : Int32) (l2 : Int32) (l3 : Int32) (l5 : Int32) (s0 : Int32) (r57 : Int32 → Int32 → ax_M → Option (Int32 × ax_M)) (hr57 : ∀ (a4 : Int32) (a5 : Int32) (μ : ax_M), ax_Rf mX9_event 1 x (ax_Z ax_jI x G) G 0 0 57 [some (.ref 57), some (.int l1), some (.int l2), some (.int l3), some (.int a4), some (.int a5)] [] μ (r57 a4 a5 μ)) (μ : ax_M) : ax_Rf mX9_event 1 x (ax_Z ax_jI x G) G 0 0 114 [some (.ref 57), some (.int l1), some (.int l2), some (.int l3), none, some (.int l5)] [.int s0] μ (fX9_event_K114 l1 l2 l3 l5 s0 r57 μ) := by
  unfold fX9_event_K114
  refine rf_iconst (n := 115) (1 : Int32) dX9_event_114 cciconst_1 rfl ?_
  refine rf_goto (tg := 119) dX9_event_115 rfl ?_
  exact pX9_event_K119 hG _ _ _ _ _ _ r57 hr57 _
def fX9_event_K118 (l1 : Int32) (l2 : Int32) (l3 : Int32) (l5 : Int32) (s0 : Int32) (r57 : Int32 → Int32 → ax_M → Option (Int32 × ax_M)) (μ : ax_M) : Option (Int32 × ax_M) :=
  (fX9_event_K119 l1 l2 l3 l5 s0 (0 : Int32) r57 μ)
theorem pX9_event_K118 {x : ax_X} {G : ax_G} (hG : ax_ok G) (l1 : Int32) (l2 : Int32) (l3 : Int32) (l5 : Int32) (s0 : Int32) (r57 : Int32 → Int32 → ax_M → Option (Int32 × ax_M)) (hr57 : ∀ (a4 : Int32) (a5 : Int32) (μ : ax_M), ax_Rf mX9_event 1 x (ax_Z ax_jI x G) G 0 0 57 [some (.ref 57), some (.int l1), some (.int l2), some (.int l3), some (.int a4), some (.int a5)] [] μ (r57 a4 a5 μ)) (μ : ax_M) : ax_Rf mX9_event 1 x (ax_Z ax_jI x G) G 0 0 118 [some (.ref 57), some (.int l1), some (.int l2), some (.int l3), none, some (.int l5)] [.int s0] μ (fX9_event_K118 l1 l2 l3 l5 s0 r57 μ) := by
  unfold fX9_event_K118
  refine rf_iconst (n := 119) (0 : Int32) dX9_event_118 cciconst_0 rfl ?_
  exact pX9_event_K119 hG _ _ _ _ _ _ r57 hr57 _
def fX9_event_B57 (l1 : Int32) (l2 : Int32) (l3 : Int32) (r32 : Int32 → ax_M → Option (Int32 × ax_M)) (r57 : Int32 → Int32 → ax_M → Option (Int32 × ax_M)) (l4 : Int32) (l5 : Int32) (μ : ax_M) : Option (Int32 × ax_M) :=
  (if (8 : Int32) ≤ l5 then (if l4 = l1 then (if l2 = 0 then (ax_bd (fX9_timeOf l3 μ) (fun v10 m11 => (fX9_event_K160 v10 m11))) else (if l2 = (1 : Int32) then (Option.bind (ax_rm l3 (4 : Int32)) (fun v8 => (fX9_event_K160 v8 μ))) else (Option.bind (ax_dv l3 (4 : Int32)) (fun v7 => (fX9_event_K160 v7 μ))))) else (fX9_event_K161 l1 l2 l3 r32 μ)) else (Option.bind (ax_rm l5 (4 : Int32)) (fun v14 => (ax_bd (fX9_phases μ) (fun v15 m16 => (if v14 < v15 then (ax_bd (fX9_timeOf l5 m16) (fun v17 m18 => (ax_bd (fX9_timeOf l3 m18) (fun v19 m20 => (if v17 < v19 then (fX9_event_K114 l1 l2 l3 l5 l4 r57 m20) else (ax_bd (fX9_timeOf l5 m20) (fun v22 m23 => (ax_bd (fX9_timeOf l3 m23) (fun v24 m25 => (if v22 = v24 then (if l3 ≤ l5 then (fX9_event_K118 l1 l2 l3 l5 l4 r57 m25) else (fX9_event_K114 l1 l2 l3 l5 l4 r57 m25)) else (fX9_event_K118 l1 l2 l3 l5 l4 r57 m25))))))))))) else (fX9_event_K122 l1 l2 l3 l4 l5 r57 m16)))))))
theorem pX9_event_B57 {x : ax_X} {G : ax_G} (hG : ax_ok G) (l1 : Int32) (l2 : Int32) (l3 : Int32) (r32 : Int32 → ax_M → Option (Int32 × ax_M)) (hr32 : ∀ (a3 : Int32) (μ : ax_M), ax_Rf mX9_event 1 x (ax_Z ax_jI x G) G 0 0 32 [some (.ref 57), some (.int l1), some (.int l2), some (.int a3), none, none] [] μ (r32 a3 μ)) (r57 : Int32 → Int32 → ax_M → Option (Int32 × ax_M)) (hr57 : ∀ (a4 : Int32) (a5 : Int32) (μ : ax_M), ax_Rf mX9_event 1 x (ax_Z ax_jI x G) G 0 0 57 [some (.ref 57), some (.int l1), some (.int l2), some (.int l3), some (.int a4), some (.int a5)] [] μ (r57 a4 a5 μ)) (l4 : Int32) (l5 : Int32) (μ : ax_M) : ax_Rf mX9_event 1 x (ax_Z ax_jI x G) G 0 0 57 [some (.ref 57), some (.int l1), some (.int l2), some (.int l3), some (.int l4), some (.int l5)] [] μ (fX9_event_B57 l1 l2 l3 r32 r57 l4 l5 μ) := by
  unfold fX9_event_B57
  refine rf_iload (n := 59) 5 dX9_event_57 rfl rfl ?_
  refine rf_bipush (n := 61) (8 : Int32) dX9_event_59 ccbipush_8 rfl ?_
  refine rf_icmp_ge (tg := 128) (n := 64) dX9_event_61 rfl rfl (fun c30 => ?_) (fun c30 => ?_)
  · refine rf_iload (n := 130) 4 dX9_event_128 rfl rfl ?_
    refine rf_iload_n (n := 131) 1 dX9_event_130 rfl rfl rfl ?_
    refine rf_icmp_ne (tg := 161) (n := 134) dX9_event_131 rfl rfl (fun c13 => ?_) (fun c13 => ?_)
    · refine rf_mask (lc2 := [some (.ref 57), some (.int l1), some (.int l2), some (.int l3), none, none]) [true, true, true, true, false, false] rfl ?_
      exact pX9_event_K161 hG _ _ _ r32 hr32 _
    · refine rf_iload_n (n := 135) 2 dX9_event_134 rfl rfl rfl ?_
      refine rf_if_ne (tg := 146) (n := 138) dX9_event_135 rfl rfl (fun c12 => ?_) (fun c12 => ?_)
      · refine rf_iload_n (n := 147) 2 dX9_event_146 rfl rfl rfl ?_
        refine rf_iconst (n := 148) (1 : Int32) dX9_event_147 cciconst_1 rfl ?_
        refine rf_icmp_ne (tg := 157) (n := 151) dX9_event_148 rfl rfl (fun c9 => ?_) (fun c9 => ?_)
        · refine rf_iload_n (n := 158) 3 dX9_event_157 rfl rfl rfl ?_
          refine rf_iconst (n := 159) (4 : Int32) dX9_event_158 cciconst_4 rfl ?_
          refine rf_idiv (n := 160) dX9_event_159 rfl (fun v7 => ?_)
          refine rf_mask (lc2 := [none, none, none, none, none, none]) [false, false, false, false, false, false] rfl ?_
          exact pX9_event_K160 hG _ _
        · refine rf_iload_n (n := 152) 3 dX9_event_151 rfl rfl rfl ?_
          refine rf_iconst (n := 153) (4 : Int32) dX9_event_152 cciconst_4 rfl ?_
          refine rf_irem (n := 154) dX9_event_153 rfl (fun v8 => ?_)
          refine rf_goto (tg := 160) dX9_event_154 rfl ?_
          refine rf_mask (lc2 := [none, none, none, none, none, none]) [false, false, false, false, false, false] rfl ?_
          exact pX9_event_K160 hG _ _
      · refine rf_aload_n (n := 139) 0 dX9_event_138 rfl rfl rfl ?_
        refine rf_iload_n (n := 140) 3 dX9_event_139 rfl rfl rfl ?_
        refine rf_cV1I (n := 143) hG (okX9_timeOf _ _) lVX9_381 hhX9_timeOf kk_57 sS_57 ⟨_, rfl, rfl⟩ dX9_event_140 rfl (Nat.le_of_ble_eq_true rfl) (Nat.le_of_ble_eq_true rfl) (fun v10 m11 => ?_)
        refine rf_goto (tg := 160) dX9_event_143 rfl ?_
        refine rf_mask (lc2 := [none, none, none, none, none, none]) [false, false, false, false, false, false] rfl ?_
        exact pX9_event_K160 hG _ _
  · refine rf_iload (n := 66) 5 dX9_event_64 rfl rfl ?_
    refine rf_iconst (n := 67) (4 : Int32) dX9_event_66 cciconst_4 rfl ?_
    refine rf_irem (n := 68) dX9_event_67 rfl (fun v14 => ?_)
    refine rf_aload_n (n := 69) 0 dX9_event_68 rfl rfl rfl ?_
    refine rf_cV0I (n := 72) hG (okX9_phases _) lVX9_230 hhX9_phases kk_57 sS_57 ⟨_, rfl, rfl⟩ dX9_event_69 rfl (Nat.le_of_ble_eq_true rfl) (Nat.le_of_ble_eq_true rfl) (fun v15 m16 => ?_)
    refine rf_icmp_lt (tg := 78) (n := 75) dX9_event_72 rfl rfl (fun c29 => ?_) (fun c29 => ?_)
    · refine rf_iload (n := 80) 4 dX9_event_78 rfl rfl ?_
      refine rf_aload_n (n := 81) 0 dX9_event_80 rfl rfl rfl ?_
      refine rf_iload (n := 83) 5 dX9_event_81 rfl rfl ?_
      refine rf_cV1I (n := 86) hG (okX9_timeOf _ _) lVX9_381 hhX9_timeOf kk_57 sS_57 ⟨_, rfl, rfl⟩ dX9_event_83 rfl (Nat.le_of_ble_eq_true rfl) (Nat.le_of_ble_eq_true rfl) (fun v17 m18 => ?_)
      refine rf_aload_n (n := 87) 0 dX9_event_86 rfl rfl rfl ?_
      refine rf_iload_n (n := 88) 3 dX9_event_87 rfl rfl rfl ?_
      refine rf_cV1I (n := 91) hG (okX9_timeOf _ _) lVX9_381 hhX9_timeOf kk_57 sS_57 ⟨_, rfl, rfl⟩ dX9_event_88 rfl (Nat.le_of_ble_eq_true rfl) (Nat.le_of_ble_eq_true rfl) (fun v19 m20 => ?_)
      refine rf_icmp_lt (tg := 114) (n := 94) dX9_event_91 rfl rfl (fun c28 => ?_) (fun c28 => ?_)
      · refine rf_mask (lc2 := [some (.ref 57), some (.int l1), some (.int l2), some (.int l3), none, some (.int l5)]) [true, true, true, true, false, true] rfl ?_
        exact pX9_event_K114 hG _ _ _ _ _ r57 hr57 _
      · refine rf_aload_n (n := 95) 0 dX9_event_94 rfl rfl rfl ?_
        refine rf_iload (n := 97) 5 dX9_event_95 rfl rfl ?_
        refine rf_cV1I (n := 100) hG (okX9_timeOf _ _) lVX9_381 hhX9_timeOf kk_57 sS_57 ⟨_, rfl, rfl⟩ dX9_event_97 rfl (Nat.le_of_ble_eq_true rfl) (Nat.le_of_ble_eq_true rfl) (fun v22 m23 => ?_)
        refine rf_aload_n (n := 101) 0 dX9_event_100 rfl rfl rfl ?_
        refine rf_iload_n (n := 102) 3 dX9_event_101 rfl rfl rfl ?_
        refine rf_cV1I (n := 105) hG (okX9_timeOf _ _) lVX9_381 hhX9_timeOf kk_57 sS_57 ⟨_, rfl, rfl⟩ dX9_event_102 rfl (Nat.le_of_ble_eq_true rfl) (Nat.le_of_ble_eq_true rfl) (fun v24 m25 => ?_)
        refine rf_icmp_ne (tg := 118) (n := 108) dX9_event_105 rfl rfl (fun c27 => ?_) (fun c27 => ?_)
        · refine rf_mask (lc2 := [some (.ref 57), some (.int l1), some (.int l2), some (.int l3), none, some (.int l5)]) [true, true, true, true, false, true] rfl ?_
          exact pX9_event_K118 hG _ _ _ _ _ r57 hr57 _
        · refine rf_iload (n := 110) 5 dX9_event_108 rfl rfl ?_
          refine rf_iload_n (n := 111) 3 dX9_event_110 rfl rfl rfl ?_
          refine rf_icmp_ge (tg := 118) (n := 114) dX9_event_111 rfl rfl (fun c26 => ?_) (fun c26 => ?_)
          · refine rf_mask (lc2 := [some (.ref 57), some (.int l1), some (.int l2), some (.int l3), none, some (.int l5)]) [true, true, true, true, false, true] rfl ?_
            exact pX9_event_K118 hG _ _ _ _ _ r57 hr57 _
          · refine rf_mask (lc2 := [some (.ref 57), some (.int l1), some (.int l2), some (.int l3), none, some (.int l5)]) [true, true, true, true, false, true] rfl ?_
            exact pX9_event_K114 hG _ _ _ _ _ r57 hr57 _
    · refine rf_goto (tg := 122) dX9_event_75 rfl ?_
      exact pX9_event_K122 hG _ _ _ _ _ r57 hr57 _
theorem pX9_event_L57 {x : ax_X} {G : ax_G} (hG : ax_ok G) (l1 : Int32) (l2 : Int32) (l3 : Int32) (r32 : Int32 → ax_M → Option (Int32 × ax_M)) (hr32 : ∀ (a3 : Int32) (μ : ax_M), ax_Rf mX9_event 1 x (ax_Z ax_jI x G) G 0 0 32 [some (.ref 57), some (.int l1), some (.int l2), some (.int a3), none, none] [] μ (r32 a3 μ)) (n : Nat) (a4 : Int32) (a5 : Int32) (μ : ax_M) : ax_Rf mX9_event 1 x (ax_Z ax_jI x G) G 0 0 57 [some (.ref 57), some (.int l1), some (.int l2), some (.int l3), some (.int a4), some (.int a5)] [] μ (ax_lp2 (fX9_event_B57 l1 l2 l3 r32) n a4 a5 μ) :=
  rf_lp2 (P := fun a4 a5 μ t => ax_Rf mX9_event 1 x (ax_Z ax_jI x G) G 0 0 57 [some (.ref 57), some (.int l1), some (.int l2), some (.int l3), some (.int a4), some (.int a5)] [] μ t) (fun _ _ _ => rf_none) (fun rc hrc a4 a5 μ => pX9_event_B57 hG l1 l2 l3 r32 hr32 rc hrc a4 a5 μ) n a4 a5 μ
def fX9_event_B32 (l1 : Int32) (l2 : Int32) (r32 : Int32 → ax_M → Option (Int32 × ax_M)) (l3 : Int32) (μ : ax_M) : Option (Int32 × ax_M) :=
  (if (8 : Int32) ≤ l3 then (some ((-1 : Int32), μ)) else (Option.bind (ax_rm l3 (4 : Int32)) (fun v4 => (ax_bd (fX9_phases μ) (fun v5 m6 => (if v4 < v5 then (ax_lp2 (fX9_event_B57 l1 l2 l3 r32) ax_FU (0 : Int32) (0 : Int32) m6) else (fX9_event_K161 l1 l2 l3 r32 m6)))))))
theorem pX9_event_B32 {x : ax_X} {G : ax_G} (hG : ax_ok G) (l1 : Int32) (l2 : Int32) (r32 : Int32 → ax_M → Option (Int32 × ax_M)) (hr32 : ∀ (a3 : Int32) (μ : ax_M), ax_Rf mX9_event 1 x (ax_Z ax_jI x G) G 0 0 32 [some (.ref 57), some (.int l1), some (.int l2), some (.int a3), none, none] [] μ (r32 a3 μ)) (l3 : Int32) (μ : ax_M) : ax_Rf mX9_event 1 x (ax_Z ax_jI x G) G 0 0 32 [some (.ref 57), some (.int l1), some (.int l2), some (.int l3), none, none] [] μ (fX9_event_B32 l1 l2 r32 l3 μ) := by
  unfold fX9_event_B32
  refine rf_iload_n (n := 33) 3 dX9_event_32 rfl rfl rfl ?_
  refine rf_bipush (n := 35) (8 : Int32) dX9_event_33 ccbipush_8 rfl ?_
  refine rf_icmp_ge (tg := 167) (n := 38) dX9_event_35 rfl rfl (fun c32 => ?_) (fun c32 => ?_)
  · refine rf_iconst (n := 168) (-1 : Int32) dX9_event_167 cciconst_m1 rfl ?_
    exact rf_retI rfl dX9_event_168
  · refine rf_iload_n (n := 39) 3 dX9_event_38 rfl rfl rfl ?_
    refine rf_iconst (n := 40) (4 : Int32) dX9_event_39 cciconst_4 rfl ?_
    refine rf_irem (n := 41) dX9_event_40 rfl (fun v4 => ?_)
    refine rf_aload_n (n := 42) 0 dX9_event_41 rfl rfl rfl ?_
    refine rf_cV0I (n := 45) hG (okX9_phases _) lVX9_230 hhX9_phases kk_57 sS_57 ⟨_, rfl, rfl⟩ dX9_event_42 rfl (Nat.le_of_ble_eq_true rfl) (Nat.le_of_ble_eq_true rfl) (fun v5 m6 => ?_)
    refine rf_icmp_lt (tg := 51) (n := 48) dX9_event_45 rfl rfl (fun c31 => ?_) (fun c31 => ?_)
    · refine rf_iconst (n := 52) (0 : Int32) dX9_event_51 cciconst_0 rfl ?_
      refine rf_istore (lc2 := [some (.ref 57), some (.int l1), some (.int l2), some (.int l3), some (.int (0 : Int32)), none]) (n := 54) 4 dX9_event_52 rfl (Nat.le_of_ble_eq_true rfl) rfl rfl ?_
      refine rf_iconst (n := 55) (0 : Int32) dX9_event_54 cciconst_0 rfl ?_
      refine rf_istore (lc2 := [some (.ref 57), some (.int l1), some (.int l2), some (.int l3), some (.int (0 : Int32)), some (.int (0 : Int32))]) (n := 57) 5 dX9_event_55 rfl (Nat.le_of_ble_eq_true rfl) rfl rfl ?_
      exact pX9_event_L57 hG _ _ _ r32 hr32 _ _ _ _
    · refine rf_goto (tg := 161) dX9_event_48 rfl ?_
      exact pX9_event_K161 hG _ _ _ r32 hr32 _
theorem pX9_event_L32 {x : ax_X} {G : ax_G} (hG : ax_ok G) (l1 : Int32) (l2 : Int32) (n : Nat) (a3 : Int32) (μ : ax_M) : ax_Rf mX9_event 1 x (ax_Z ax_jI x G) G 0 0 32 [some (.ref 57), some (.int l1), some (.int l2), some (.int a3), none, none] [] μ (ax_lp1 (fX9_event_B32 l1 l2) n a3 μ) :=
  rf_lp1 (P := fun a3 μ t => ax_Rf mX9_event 1 x (ax_Z ax_jI x G) G 0 0 32 [some (.ref 57), some (.int l1), some (.int l2), some (.int a3), none, none] [] μ t) (fun _ _ => rf_none) (fun rc hrc a3 μ => pX9_event_B32 hG l1 l2 rc hrc a3 μ) n a3 μ
def fX9_event (p1 : Int32) (p2 : Int32) (μ : ax_M) : Option (Int32 × ax_M) :=
  (ax_let (ax_wi μ 57 0 (0 : Int32)) (fun m1 => (if p1 < 0 then (fX9_event_K28 m1) else (ax_bd (fX9_phases m1) (fun v2 m3 => (if ((2 : Int32) * v2) ≤ p1 then (fX9_event_K28 m3) else (if p2 < 0 then (fX9_event_K28 m3) else (if p2 ≤ (2 : Int32) then (ax_lp1 (fX9_event_B32 p1 p2) ax_FU (0 : Int32) m3) else (fX9_event_K28 m3)))))))))
theorem okX9_event (p1 : Int32) (p2 : Int32) (μ : ax_M) : ax_Ok mX9_event 1 ax_jI [.ref 57, .int p1, .int p2] μ (fX9_event p1 p2 μ) := by
  refine ax_start (lc := [some (.ref 57), some (.int p1), some (.int p2), none, none, none]) 3 (by decide +kernel) rfl (Nat.le_of_ble_eq_true rfl) (fun x G hG => ?_)
  unfold fX9_event
  refine rf_aload_n (n := 1) 0 dX9_event_0 rfl rfl rfl ?_
  refine rf_iconst (n := 2) (0 : Int32) dX9_event_1 cciconst_0 rfl ?_
  refine rf_pfI (n := 5) hG rfl dX9_event_2 flX9_103 ki_9_0 nf_9_0 sS_57 kk_57 rfl (fun m1 => ?_)
  refine rf_iload_n (n := 6) 1 dX9_event_5 rfl rfl rfl ?_
  refine rf_if_lt (tg := 28) (n := 9) dX9_event_6 rfl rfl (fun c36 => ?_) (fun c36 => ?_)
  · refine rf_mask (lc2 := [none, none, none, none, none, none]) [false, false, false, true, true, true] rfl ?_
    exact pX9_event_K28 hG _
  · refine rf_iload_n (n := 10) 1 dX9_event_9 rfl rfl rfl ?_
    refine rf_iconst (n := 11) (2 : Int32) dX9_event_10 cciconst_2 rfl ?_
    refine rf_aload_n (n := 12) 0 dX9_event_11 rfl rfl rfl ?_
    refine rf_cV0I (n := 15) hG (okX9_phases _) lVX9_230 hhX9_phases kk_57 sS_57 ⟨_, rfl, rfl⟩ dX9_event_12 rfl (Nat.le_of_ble_eq_true rfl) (Nat.le_of_ble_eq_true rfl) (fun v2 m3 => ?_)
    refine rf_imul (n := 16) dX9_event_15 rfl ?_
    refine rf_icmp_ge (tg := 28) (n := 19) dX9_event_16 rfl rfl (fun c35 => ?_) (fun c35 => ?_)
    · refine rf_mask (lc2 := [none, none, none, none, none, none]) [false, false, false, true, true, true] rfl ?_
      exact pX9_event_K28 hG _
    · refine rf_iload_n (n := 20) 2 dX9_event_19 rfl rfl rfl ?_
      refine rf_if_lt (tg := 28) (n := 23) dX9_event_20 rfl rfl (fun c34 => ?_) (fun c34 => ?_)
      · refine rf_mask (lc2 := [none, none, none, none, none, none]) [false, false, false, true, true, true] rfl ?_
        exact pX9_event_K28 hG _
      · refine rf_iload_n (n := 24) 2 dX9_event_23 rfl rfl rfl ?_
        refine rf_iconst (n := 25) (2 : Int32) dX9_event_24 cciconst_2 rfl ?_
        refine rf_icmp_le (tg := 30) (n := 28) dX9_event_25 rfl rfl (fun c33 => ?_) (fun c33 => ?_)
        · refine rf_iconst (n := 31) (0 : Int32) dX9_event_30 cciconst_0 rfl ?_
          refine rf_istore_n (lc2 := [some (.ref 57), some (.int p1), some (.int p2), some (.int (0 : Int32)), none, none]) (n := 32) 3 dX9_event_31 rfl rfl (Nat.le_of_ble_eq_true rfl) rfl rfl ?_
          exact pX9_event_L32 hG _ _ _ _ _
        · refine rf_mask (lc2 := [none, none, none, none, none, none]) [false, false, false, true, true, true] rfl ?_
          exact pX9_event_K28 hG _
def fJ9_floorMod_7cf53_K18 (l2 : Int32) (μ : ax_M) : Option (Int32 × ax_M) :=
  (some (l2, μ))
theorem pJ9_floorMod_7cf53_K18 {x : ax_X} {G : ax_G} (hG : ax_ok G) (l2 : Int32) (μ : ax_M) : ax_Rf mJ9_floorMod_7cf53 0 x (ax_Z ax_jI x G) G 0 0 18 [none, none, some (.int l2)] [] μ (fJ9_floorMod_7cf53_K18 l2 μ) := by
  unfold fJ9_floorMod_7cf53_K18
  refine rf_iload_n (n := 19) 2 dJ9_floorMod_7cf53_18 rfl rfl rfl ?_
  exact rf_retI rfl dJ9_floorMod_7cf53_19
def fJ9_floorMod_7cf53 (p0 : Int32) (p1 : Int32) (μ : ax_M) : Option (Int32 × ax_M) :=
  (Option.bind (ax_rm p0 p1) (fun v1 => (if 0 ≤ (p0 ^^^ p1) then (fJ9_floorMod_7cf53_K18 v1 μ) else (if v1 = 0 then (fJ9_floorMod_7cf53_K18 v1 μ) else (some ((v1 + p1), μ))))))
theorem okJ9_floorMod_7cf53 (p0 : Int32) (p1 : Int32) (μ : ax_M) : ax_Ok mJ9_floorMod_7cf53 0 ax_jI [.int p0, .int p1] μ (fJ9_floorMod_7cf53 p0 p1 μ) := by
  refine ax_startF (lc := [some (.int p0), some (.int p1), none]) 1 (by decide +kernel) rfl (Nat.le_of_ble_eq_true rfl) (fun x G hG => ?_)
  unfold fJ9_floorMod_7cf53
  refine rf_iload_n (n := 1) 0 dJ9_floorMod_7cf53_0 rfl rfl rfl ?_
  refine rf_iload_n (n := 2) 1 dJ9_floorMod_7cf53_1 rfl rfl rfl ?_
  refine rf_irem (n := 3) dJ9_floorMod_7cf53_2 rfl (fun v1 => ?_)
  refine rf_istore_n (lc2 := [some (.int p0), some (.int p1), some (.int v1)]) (n := 4) 2 dJ9_floorMod_7cf53_3 rfl rfl (Nat.le_of_ble_eq_true rfl) rfl rfl ?_
  refine rf_iload_n (n := 5) 0 dJ9_floorMod_7cf53_4 rfl rfl rfl ?_
  refine rf_iload_n (n := 6) 1 dJ9_floorMod_7cf53_5 rfl rfl rfl ?_
  refine rf_ixor (n := 7) dJ9_floorMod_7cf53_6 rfl ?_
  refine rf_if_ge (tg := 18) (n := 10) dJ9_floorMod_7cf53_7 rfl rfl (fun c3 => ?_) (fun c3 => ?_)
  · refine rf_mask (lc2 := [none, none, some (.int v1)]) [false, false, true] rfl ?_
    exact pJ9_floorMod_7cf53_K18 hG _ _
  · refine rf_iload_n (n := 11) 2 dJ9_floorMod_7cf53_10 rfl rfl rfl ?_
    refine rf_if_eq (tg := 18) (n := 14) dJ9_floorMod_7cf53_11 rfl rfl (fun c2 => ?_) (fun c2 => ?_)
    · refine rf_mask (lc2 := [none, none, some (.int v1)]) [false, false, true] rfl ?_
      exact pJ9_floorMod_7cf53_K18 hG _ _
    · refine rf_iload_n (n := 15) 2 dJ9_floorMod_7cf53_14 rfl rfl rfl ?_
      refine rf_iload_n (n := 16) 1 dJ9_floorMod_7cf53_15 rfl rfl rfl ?_
      refine rf_iadd (n := 17) dJ9_floorMod_7cf53_16 rfl ?_
      exact rf_retI rfl dJ9_floorMod_7cf53_17
def fX1_openAt_K60 (l1 : Int32) (l2 : Int32) (l3 : Int32) (r4 : Int32 → Int32 → ax_M → Option (Int32 × ax_M)) (μ : ax_M) : Option (Int32 × ax_M) :=
  (r4 l2 (l3 + (1 : Int32)) μ)
theorem pX1_openAt_K60 {x : ax_X} {G : ax_G} (hG : ax_ok G) (l1 : Int32) (l2 : Int32) (l3 : Int32) (r4 : Int32 → Int32 → ax_M → Option (Int32 × ax_M)) (hr4 : ∀ (a2 : Int32) (a3 : Int32) (μ : ax_M), ax_Rf mX1_openAt 1 x (ax_Z ax_jI x G) G 0 0 4 [some (.ref 2), some (.int l1), some (.int a2), some (.int a3), none] [] μ (r4 a2 a3 μ)) (μ : ax_M) : ax_Rf mX1_openAt 1 x (ax_Z ax_jI x G) G 0 0 60 [some (.ref 2), some (.int l1), some (.int l2), some (.int l3), none] [] μ (fX1_openAt_K60 l1 l2 l3 r4 μ) := by
  unfold fX1_openAt_K60
  refine rf_iinc (lc2 := [some (.ref 2), some (.int l1), some (.int l2), some (.int (l3 + (1 : Int32))), none]) (n := 63) (w := (1 : Int32)) 3 dX1_openAt_60 rfl rfl rfl (Nat.le_of_ble_eq_true rfl) rfl rfl ?_
  refine rf_goto (tg := 4) dX1_openAt_63 rfl ?_
  exact hr4 _ _ _
def fX1_openAt_B4 (l1 : Int32) (r4 : Int32 → Int32 → ax_M → Option (Int32 × ax_M)) (l2 : Int32) (l3 : Int32) (μ : ax_M) : Option (Int32 × ax_M) :=
  (if (μ.1 2 12) ≤ l3 then (some (l2, μ)) else (Option.bind (ax_rd μ 4 4 l3) (fun v1 => (ax_bd (fJ9_floorMod_7cf53 (l1 - (v1 * (μ.1 2 16))) (ax_mx ((64 : Int32) * (μ.1 2 16)) (1 : Int32)) μ) (fun v2 m3 => (Option.bind (ax_rd m3 5 4 l3) (fun v4 => (if (v4 * (m3.1 2 16)) ≤ v2 then (fX1_openAt_K60 l1 l2 l3 r4 m3) else (fX1_openAt_K60 l1 (l2 + (1 : Int32)) l3 r4 m3)))))))))
theorem pX1_openAt_B4 {x : ax_X} {G : ax_G} (hG : ax_ok G) (l1 : Int32) (r4 : Int32 → Int32 → ax_M → Option (Int32 × ax_M)) (hr4 : ∀ (a2 : Int32) (a3 : Int32) (μ : ax_M), ax_Rf mX1_openAt 1 x (ax_Z ax_jI x G) G 0 0 4 [some (.ref 2), some (.int l1), some (.int a2), some (.int a3), none] [] μ (r4 a2 a3 μ)) (l2 : Int32) (l3 : Int32) (μ : ax_M) : ax_Rf mX1_openAt 1 x (ax_Z ax_jI x G) G 0 0 4 [some (.ref 2), some (.int l1), some (.int l2), some (.int l3), none] [] μ (fX1_openAt_B4 l1 r4 l2 l3 μ) := by
  unfold fX1_openAt_B4
  refine rf_iload_n (n := 5) 3 dX1_openAt_4 rfl rfl rfl ?_
  refine rf_aload_n (n := 6) 0 dX1_openAt_5 rfl rfl rfl ?_
  refine rf_getI (n := 9) hG dX1_openAt_6 flX1_52 ki_1_12 sS_2 kk_2 rfl ?_
  refine rf_icmp_ge (tg := 66) (n := 12) dX1_openAt_9 rfl rfl (fun c6 => ?_) (fun c6 => ?_)
  · refine rf_iload_n (n := 67) 2 dX1_openAt_66 rfl rfl rfl ?_
    exact rf_retI rfl dX1_openAt_67
  · refine rf_iload_n (n := 13) 1 dX1_openAt_12 rfl rfl rfl ?_
    refine rf_aload_n (n := 14) 0 dX1_openAt_13 rfl rfl rfl ?_
    refine rf_getR (n := 17) rr_2_1 kk_4 hG dX1_openAt_14 flX1_15 ki_1_1 sS_2 kk_2 rfl ?_
    refine rf_iload_n (n := 18) 3 dX1_openAt_17 rfl rfl rfl ?_
    refine rf_iald (n := 19) hG dX1_openAt_18 sS_4 kk_4 rfl (fun v1 => ?_)
    refine rf_aload_n (n := 20) 0 dX1_openAt_19 rfl rfl rfl ?_
    refine rf_getI (n := 23) hG dX1_openAt_20 flX1_48 ki_1_16 sS_2 kk_2 rfl ?_
    refine rf_imul (n := 24) dX1_openAt_23 rfl ?_
    refine rf_isub (n := 25) dX1_openAt_24 rfl ?_
    refine rf_bipush (n := 27) (64 : Int32) dX1_openAt_25 ccbipush_64 rfl ?_
    refine rf_aload_n (n := 28) 0 dX1_openAt_27 rfl rfl rfl ?_
    refine rf_getI (n := 31) hG dX1_openAt_28 flX1_48 ki_1_16 sS_2 kk_2 rfl ?_
    refine rf_imul (n := 32) dX1_openAt_31 rfl ?_
    refine rf_iconst (n := 33) (1 : Int32) dX1_openAt_32 cciconst_1 rfl ?_
    refine rf_max (n := 36) dX1_openAt_33 mxX1_90 ax_maxw (Nat.le_of_ble_eq_true rfl) (Nat.le_of_ble_eq_true rfl) rfl ?_
    refine rf_cS2I (n := 39) hG (okJ9_floorMod_7cf53 _ _ _) lSX1_115 hhJ9_floorMod_7cf53 dX1_openAt_36 rfl (Nat.le_of_ble_eq_true rfl) (Nat.le_of_ble_eq_true rfl) (fun v2 m3 => ?_)
    refine rf_istore (lc2 := [some (.ref 2), some (.int l1), some (.int l2), some (.int l3), some (.int v2)]) (n := 41) 4 dX1_openAt_39 rfl (Nat.le_of_ble_eq_true rfl) rfl rfl ?_
    refine rf_iload (n := 43) 4 dX1_openAt_41 rfl rfl ?_
    refine rf_aload_n (n := 44) 0 dX1_openAt_43 rfl rfl rfl ?_
    refine rf_getR (n := 47) rr_2_2 kk_5 hG dX1_openAt_44 flX1_18 ki_1_2 sS_2 kk_2 rfl ?_
    refine rf_iload_n (n := 48) 3 dX1_openAt_47 rfl rfl rfl ?_
    refine rf_iald (n := 49) hG dX1_openAt_48 sS_5 kk_5 rfl (fun v4 => ?_)
    refine rf_aload_n (n := 50) 0 dX1_openAt_49 rfl rfl rfl ?_
    refine rf_getI (n := 53) hG dX1_openAt_50 flX1_48 ki_1_16 sS_2 kk_2 rfl ?_
    refine rf_imul (n := 54) dX1_openAt_53 rfl ?_
    refine rf_icmp_ge (tg := 60) (n := 57) dX1_openAt_54 rfl rfl (fun c5 => ?_) (fun c5 => ?_)
    · refine rf_mask (lc2 := [some (.ref 2), some (.int l1), some (.int l2), some (.int l3), none]) [true, true, true, true, false] rfl ?_
      exact pX1_openAt_K60 hG _ _ _ r4 hr4 _
    · refine rf_iinc (lc2 := [some (.ref 2), some (.int l1), some (.int (l2 + (1 : Int32))), some (.int l3), some (.int v2)]) (n := 60) (w := (1 : Int32)) 2 dX1_openAt_57 rfl rfl rfl (Nat.le_of_ble_eq_true rfl) rfl rfl ?_
      refine rf_mask (lc2 := [some (.ref 2), some (.int l1), some (.int (l2 + (1 : Int32))), some (.int l3), none]) [true, true, true, true, false] rfl ?_
      exact pX1_openAt_K60 hG _ _ _ r4 hr4 _
theorem pX1_openAt_L4 {x : ax_X} {G : ax_G} (hG : ax_ok G) (l1 : Int32) (n : Nat) (a2 : Int32) (a3 : Int32) (μ : ax_M) : ax_Rf mX1_openAt 1 x (ax_Z ax_jI x G) G 0 0 4 [some (.ref 2), some (.int l1), some (.int a2), some (.int a3), none] [] μ (ax_lp2 (fX1_openAt_B4 l1) n a2 a3 μ) :=
  rf_lp2 (P := fun a2 a3 μ t => ax_Rf mX1_openAt 1 x (ax_Z ax_jI x G) G 0 0 4 [some (.ref 2), some (.int l1), some (.int a2), some (.int a3), none] [] μ t) (fun _ _ _ => rf_none) (fun rc hrc a2 a3 μ => pX1_openAt_B4 hG l1 rc hrc a2 a3 μ) n a2 a3 μ
def fX1_openAt (p1 : Int32) (μ : ax_M) : Option (Int32 × ax_M) :=
  (ax_lp2 (fX1_openAt_B4 p1) ax_FU (0 : Int32) (0 : Int32) μ)
theorem okX1_openAt (p1 : Int32) (μ : ax_M) : ax_Ok mX1_openAt 1 ax_jI [.ref 2, .int p1] μ (fX1_openAt p1 μ) := by
  refine ax_start (lc := [some (.ref 2), some (.int p1), none, none, none]) 3 (by decide +kernel) rfl (Nat.le_of_ble_eq_true rfl) (fun x G hG => ?_)
  unfold fX1_openAt
  refine rf_iconst (n := 1) (0 : Int32) dX1_openAt_0 cciconst_0 rfl ?_
  refine rf_istore_n (lc2 := [some (.ref 2), some (.int p1), some (.int (0 : Int32)), none, none]) (n := 2) 2 dX1_openAt_1 rfl rfl (Nat.le_of_ble_eq_true rfl) rfl rfl ?_
  refine rf_iconst (n := 3) (0 : Int32) dX1_openAt_2 cciconst_0 rfl ?_
  refine rf_istore_n (lc2 := [some (.ref 2), some (.int p1), some (.int (0 : Int32)), some (.int (0 : Int32)), none]) (n := 4) 3 dX1_openAt_3 rfl rfl (Nat.le_of_ble_eq_true rfl) rfl rfl ?_
  exact pX1_openAt_L4 hG _ _ _ _ _
def fX8_open_K30 (s0 : Int32) (μ : ax_M) : Option (Int32 × ax_M) :=
  (some (s0, μ))
theorem pX8_open_K30 {x : ax_X} {G : ax_G} (hG : ax_ok G) (s0 : Int32) (μ : ax_M) : ax_Rf mX8_open 2 x (ax_Z ax_jI x G) G 0 0 30 [none, none] [.int s0] μ (fX8_open_K30 s0 μ) := by
  unfold fX8_open_K30
  exact rf_retI rfl dX8_open_30
def fX8_open_K18 (μ : ax_M) : Option (Int32 × ax_M) :=
  (fX8_open_K30 (-1 : Int32) μ)
theorem pX8_open_K18 {x : ax_X} {G : ax_G} (hG : ax_ok G) (μ : ax_M) : ax_Rf mX8_open 2 x (ax_Z ax_jI x G) G 0 0 18 [none, none] [] μ (fX8_open_K18 μ) := by
  unfold fX8_open_K18
  refine rf_iconst (n := 19) (-1 : Int32) dX8_open_18 cciconst_m1 rfl ?_
  refine rf_goto (tg := 30) dX8_open_19 rfl ?_
  exact pX8_open_K30 hG _ _
def fX8_open (p1 : Int32) (μ : ax_M) : Option (Int32 × ax_M) :=
  (if p1 < 0 then (fX8_open_K18 μ) else (if p1 < ((64 : Int32) * (μ.1 2 16)) then (ax_bd (fX1_openAt p1 μ) (fun v1 m2 => (fX8_open_K30 v1 m2))) else (fX8_open_K18 μ)))
theorem okX8_open (p1 : Int32) (μ : ax_M) : ax_Ok mX8_open 2 ax_jI [.ref 0, .int p1] μ (fX8_open p1 μ) := by
  refine ax_start (lc := [some (.ref 0), some (.int p1)]) 0 (by decide +kernel) rfl (Nat.le_of_ble_eq_true rfl) (fun x G hG => ?_)
  unfold fX8_open
  refine rf_iload_n (n := 1) 1 dX8_open_0 rfl rfl rfl ?_
  refine rf_if_lt (tg := 18) (n := 4) dX8_open_1 rfl rfl (fun c4 => ?_) (fun c4 => ?_)
  · refine rf_mask (lc2 := [none, none]) [false, false] rfl ?_
    exact pX8_open_K18 hG _
  · refine rf_iload_n (n := 5) 1 dX8_open_4 rfl rfl rfl ?_
    refine rf_bipush (n := 7) (64 : Int32) dX8_open_5 ccbipush_64 rfl ?_
    refine rf_aload_n (n := 8) 0 dX8_open_7 rfl rfl rfl ?_
    refine rf_getR (n := 11) rr_0_2 kk_2 hG dX8_open_8 flX8_16 ki_8_2 sS_0 kk_0 rfl ?_
    refine rf_getI (n := 14) hG dX8_open_11 flX8_128 ki_1_16 sS_2 kk_2 rfl ?_
    refine rf_imul (n := 15) dX8_open_14 rfl ?_
    refine rf_icmp_lt (tg := 22) (n := 18) dX8_open_15 rfl rfl (fun c3 => ?_) (fun c3 => ?_)
    · refine rf_aload_n (n := 23) 0 dX8_open_22 rfl rfl rfl ?_
      refine rf_getR (n := 26) rr_0_2 kk_2 hG dX8_open_23 flX8_16 ki_8_2 sS_0 kk_0 rfl ?_
      refine rf_iload_n (n := 27) 1 dX8_open_26 rfl rfl rfl ?_
      refine rf_cV1I (n := 30) hG (okX1_openAt _ _) lVX8_308 hhX1_openAt kk_2 sS_2 ⟨_, rfl, rfl⟩ dX8_open_27 rfl (Nat.le_of_ble_eq_true rfl) (Nat.le_of_ble_eq_true rfl) (fun v1 m2 => ?_)
      refine rf_mask (lc2 := [none, none]) [false, false] rfl ?_
      exact pX8_open_K30 hG _ _
    · refine rf_mask (lc2 := [none, none]) [false, false] rfl ?_
      exact pX8_open_K18 hG _
def fX9_open_K24 (μ : ax_M) : Option (Int32 × ax_M) :=
  (some ((-1 : Int32), μ))
theorem pX9_open_K24 {x : ax_X} {G : ax_G} (hG : ax_ok G) (μ : ax_M) : ax_Rf mX9_open 1 x (ax_Z ax_jI x G) G 0 0 24 [none, none, none, none, none, none] [] μ (fX9_open_K24 μ) := by
  unfold fX9_open_K24
  refine rf_iconst (n := 25) (-1 : Int32) dX9_open_24 cciconst_m1 rfl ?_
  exact rf_retI rfl dX9_open_25
def fX9_open_K98 (l1 : Int32) (l2 : Int32) (l4 : Int32) (s0 : Int32) (s1 : Int32) (r31 : Int32 → Int32 → ax_M → Option (Int32 × ax_M)) (μ : ax_M) : Option (Int32 × ax_M) :=
  (ax_let (s0 + s1) (fun v11 => (r31 v11 (l4 + (1 : Int32)) μ)))
theorem pX9_open_K98 {x : ax_X} {G : ax_G} (hG : ax_ok G) (l1 : Int32) (l2 : Int32) (l4 : Int32) (s0 : Int32) (s1 : Int32) (r31 : Int32 → Int32 → ax_M → Option (Int32 × ax_M)) (hr31 : ∀ (a3 : Int32) (a4 : Int32) (μ : ax_M), ax_Rf mX9_open 1 x (ax_Z ax_jI x G) G 0 0 31 [some (.ref 57), some (.int l1), some (.int l2), some (.int a3), some (.int a4), none] [] μ (r31 a3 a4 μ)) (μ : ax_M) : ax_Rf mX9_open 1 x (ax_Z ax_jI x G) G 0 0 98 [some (.ref 57), some (.int l1), some (.int l2), none, some (.int l4), none] [.int s1, .int s0] μ (fX9_open_K98 l1 l2 l4 s0 s1 r31 μ) := by
  unfold fX9_open_K98
  refine rf_iadd (n := 99) dX9_open_98 rfl ?_
  refine rf_letI (fun v11 => ?_)
  refine rf_istore_n (lc2 := [some (.ref 57), some (.int l1), some (.int l2), some (.int v11), some (.int l4), none]) (n := 100) 3 dX9_open_99 rfl rfl (Nat.le_of_ble_eq_true rfl) rfl rfl ?_
  refine rf_iinc (lc2 := [some (.ref 57), some (.int l1), some (.int l2), some (.int v11), some (.int (l4 + (1 : Int32))), none]) (n := 103) (w := (1 : Int32)) 4 dX9_open_100 rfl rfl rfl (Nat.le_of_ble_eq_true rfl) rfl rfl ?_
  refine rf_goto (tg := 31) dX9_open_103 rfl ?_
  exact hr31 _ _ _
def fX9_open_K71 (l1 : Int32) (l2 : Int32) (l3 : Int32) (l4 : Int32) (l5 : Int32) (r31 : Int32 → Int32 → ax_M → Option (Int32 × ax_M)) (μ : ax_M) : Option (Int32 × ax_M) :=
  (Option.bind (ax_rd μ 74 68 ((5 : Int32) + l4)) (fun v9 => (Option.bind (ax_rd μ 74 68 (0 : Int32)) (fun v10 => (if (v9 * v10) ≤ l5 then (fX9_open_K98 l1 l2 l4 l3 (0 : Int32) r31 μ) else (fX9_open_K98 l1 l2 l4 l3 (1 : Int32) r31 μ))))))
theorem pX9_open_K71 {x : ax_X} {G : ax_G} (hG : ax_ok G) (l1 : Int32) (l2 : Int32) (l3 : Int32) (l4 : Int32) (l5 : Int32) (r31 : Int32 → Int32 → ax_M → Option (Int32 × ax_M)) (hr31 : ∀ (a3 : Int32) (a4 : Int32) (μ : ax_M), ax_Rf mX9_open 1 x (ax_Z ax_jI x G) G 0 0 31 [some (.ref 57), some (.int l1), some (.int l2), some (.int a3), some (.int a4), none] [] μ (r31 a3 a4 μ)) (μ : ax_M) : ax_Rf mX9_open 1 x (ax_Z ax_jI x G) G 0 0 71 [some (.ref 57), some (.int l1), some (.int l2), some (.int l3), some (.int l4), some (.int l5)] [] μ (fX9_open_K71 l1 l2 l3 l4 l5 r31 μ) := by
  unfold fX9_open_K71
  refine rf_iload_n (n := 72) 3 dX9_open_71 rfl rfl rfl ?_
  refine rf_iload (n := 74) 5 dX9_open_72 rfl rfl ?_
  refine rf_aload_n (n := 75) 0 dX9_open_74 rfl rfl rfl ?_
  refine rf_getR (n := 78) rr_57_28 kk_74 hG dX9_open_75 flX9_63 ki_9_28 sS_57 kk_57 rfl ?_
  refine rf_iconst (n := 79) (5 : Int32) dX9_open_78 cciconst_5 rfl ?_
  refine rf_iload (n := 81) 4 dX9_open_79 rfl rfl ?_
  refine rf_iadd (n := 82) dX9_open_81 rfl ?_
  refine rf_iald (n := 83) hG dX9_open_82 sS_74 kk_74 rfl (fun v9 => ?_)
  refine rf_aload_n (n := 84) 0 dX9_open_83 rfl rfl rfl ?_
  refine rf_getR (n := 87) rr_57_28 kk_74 hG dX9_open_84 flX9_63 ki_9_28 sS_57 kk_57 rfl ?_
  refine rf_iconst (n := 88) (0 : Int32) dX9_open_87 cciconst_0 rfl ?_
  refine rf_iald (n := 89) hG dX9_open_88 sS_74 kk_74 rfl (fun v10 => ?_)
  refine rf_imul (n := 90) dX9_open_89 rfl ?_
  refine rf_icmp_ge (tg := 97) (n := 93) dX9_open_90 rfl rfl (fun c12 => ?_) (fun c12 => ?_)
  · refine rf_iconst (n := 98) (0 : Int32) dX9_open_97 cciconst_0 rfl ?_
    refine rf_mask (lc2 := [some (.ref 57), some (.int l1), some (.int l2), none, some (.int l4), none]) [true, true, true, false, true, false] rfl ?_
    exact pX9_open_K98 hG _ _ _ _ _ r31 hr31 _
  · refine rf_iconst (n := 94) (1 : Int32) dX9_open_93 cciconst_1 rfl ?_
    refine rf_goto (tg := 98) dX9_open_94 rfl ?_
    refine rf_mask (lc2 := [some (.ref 57), some (.int l1), some (.int l2), none, some (.int l4), none]) [true, true, true, false, true, false] rfl ?_
    exact pX9_open_K98 hG _ _ _ _ _ r31 hr31 _
def fX9_open_B31 (l1 : Int32) (l2 : Int32) (r31 : Int32 → Int32 → ax_M → Option (Int32 × ax_M)) (l3 : Int32) (l4 : Int32) (μ : ax_M) : Option (Int32 × ax_M) :=
  (ax_bd (fX9_phases μ) (fun v4 m5 => (if v4 ≤ l4 then (some (l3, m5)) else (Option.bind (ax_rd m5 74 68 ((1 : Int32) + l4)) (fun v6 => (Option.bind (ax_rd m5 74 68 (0 : Int32)) (fun v7 => (ax_let (l1 - (v6 * v7)) (fun v8 => (if 0 ≤ v8 then (fX9_open_K71 l1 l2 l3 l4 v8 r31 m5) else (ax_let (v8 + l2) (fun v13 => (fX9_open_K71 l1 l2 l3 l4 v13 r31 m5)))))))))))))
theorem pX9_open_B31 {x : ax_X} {G : ax_G} (hG : ax_ok G) (l1 : Int32) (l2 : Int32) (r31 : Int32 → Int32 → ax_M → Option (Int32 × ax_M)) (hr31 : ∀ (a3 : Int32) (a4 : Int32) (μ : ax_M), ax_Rf mX9_open 1 x (ax_Z ax_jI x G) G 0 0 31 [some (.ref 57), some (.int l1), some (.int l2), some (.int a3), some (.int a4), none] [] μ (r31 a3 a4 μ)) (l3 : Int32) (l4 : Int32) (μ : ax_M) : ax_Rf mX9_open 1 x (ax_Z ax_jI x G) G 0 0 31 [some (.ref 57), some (.int l1), some (.int l2), some (.int l3), some (.int l4), none] [] μ (fX9_open_B31 l1 l2 r31 l3 l4 μ) := by
  unfold fX9_open_B31
  refine rf_iload (n := 33) 4 dX9_open_31 rfl rfl ?_
  refine rf_aload_n (n := 34) 0 dX9_open_33 rfl rfl rfl ?_
  refine rf_cV0I (n := 37) hG (okX9_phases _) lVX9_230 hhX9_phases kk_57 sS_57 ⟨_, rfl, rfl⟩ dX9_open_34 rfl (Nat.le_of_ble_eq_true rfl) (Nat.le_of_ble_eq_true rfl) (fun v4 m5 => ?_)
  refine rf_icmp_ge (tg := 106) (n := 40) dX9_open_37 rfl rfl (fun c15 => ?_) (fun c15 => ?_)
  · refine rf_iload_n (n := 107) 3 dX9_open_106 rfl rfl rfl ?_
    exact rf_retI rfl dX9_open_107
  · refine rf_iload_n (n := 41) 1 dX9_open_40 rfl rfl rfl ?_
    refine rf_aload_n (n := 42) 0 dX9_open_41 rfl rfl rfl ?_
    refine rf_getR (n := 45) rr_57_28 kk_74 hG dX9_open_42 flX9_63 ki_9_28 sS_57 kk_57 rfl ?_
    refine rf_iconst (n := 46) (1 : Int32) dX9_open_45 cciconst_1 rfl ?_
    refine rf_iload (n := 48) 4 dX9_open_46 rfl rfl ?_
    refine rf_iadd (n := 49) dX9_open_48 rfl ?_
    refine rf_iald (n := 50) hG dX9_open_49 sS_74 kk_74 rfl (fun v6 => ?_)
    refine rf_aload_n (n := 51) 0 dX9_open_50 rfl rfl rfl ?_
    refine rf_getR (n := 54) rr_57_28 kk_74 hG dX9_open_51 flX9_63 ki_9_28 sS_57 kk_57 rfl ?_
    refine rf_iconst (n := 55) (0 : Int32) dX9_open_54 cciconst_0 rfl ?_
    refine rf_iald (n := 56) hG dX9_open_55 sS_74 kk_74 rfl (fun v7 => ?_)
    refine rf_imul (n := 57) dX9_open_56 rfl ?_
    refine rf_isub (n := 58) dX9_open_57 rfl ?_
    refine rf_letI (fun v8 => ?_)
    refine rf_istore (lc2 := [some (.ref 57), some (.int l1), some (.int l2), some (.int l3), some (.int l4), some (.int v8)]) (n := 60) 5 dX9_open_58 rfl (Nat.le_of_ble_eq_true rfl) rfl rfl ?_
    refine rf_iload (n := 62) 5 dX9_open_60 rfl rfl ?_
    refine rf_if_ge (tg := 71) (n := 65) dX9_open_62 rfl rfl (fun c14 => ?_) (fun c14 => ?_)
    · exact pX9_open_K71 hG _ _ _ _ _ r31 hr31 _
    · refine rf_iload (n := 67) 5 dX9_open_65 rfl rfl ?_
      refine rf_iload_n (n := 68) 2 dX9_open_67 rfl rfl rfl ?_
      refine rf_iadd (n := 69) dX9_open_68 rfl ?_
      refine rf_letI (fun v13 => ?_)
      refine rf_istore (lc2 := [some (.ref 57), some (.int l1), some (.int l2), some (.int l3), some (.int l4), some (.int v13)]) (n := 71) 5 dX9_open_69 rfl (Nat.le_of_ble_eq_true rfl) rfl rfl ?_
      exact pX9_open_K71 hG _ _ _ _ _ r31 hr31 _
theorem pX9_open_L31 {x : ax_X} {G : ax_G} (hG : ax_ok G) (l1 : Int32) (l2 : Int32) (n : Nat) (a3 : Int32) (a4 : Int32) (μ : ax_M) : ax_Rf mX9_open 1 x (ax_Z ax_jI x G) G 0 0 31 [some (.ref 57), some (.int l1), some (.int l2), some (.int a3), some (.int a4), none] [] μ (ax_lp2 (fX9_open_B31 l1 l2) n a3 a4 μ) :=
  rf_lp2 (P := fun a3 a4 μ t => ax_Rf mX9_open 1 x (ax_Z ax_jI x G) G 0 0 31 [some (.ref 57), some (.int l1), some (.int l2), some (.int a3), some (.int a4), none] [] μ t) (fun _ _ _ => rf_none) (fun rc hrc a3 a4 μ => pX9_open_B31 hG l1 l2 rc hrc a3 a4 μ) n a3 a4 μ
def fX9_open (p1 : Int32) (μ : ax_M) : Option (Int32 × ax_M) :=
  (ax_let (ax_wi μ 57 0 (0 : Int32)) (fun m1 => (Option.bind (ax_rd m1 74 68 (0 : Int32)) (fun v2 => (ax_let ((64 : Int32) * v2) (fun v3 => (if p1 < 0 then (fX9_open_K24 m1) else (if p1 < v3 then (ax_lp2 (fX9_open_B31 p1 v3) ax_FU (0 : Int32) (0 : Int32) m1) else (fX9_open_K24 m1)))))))))
theorem okX9_open (p1 : Int32) (μ : ax_M) : ax_Ok mX9_open 1 ax_jI [.ref 57, .int p1] μ (fX9_open p1 μ) := by
  refine ax_start (lc := [some (.ref 57), some (.int p1), none, none, none, none]) 4 (by decide +kernel) rfl (Nat.le_of_ble_eq_true rfl) (fun x G hG => ?_)
  unfold fX9_open
  refine rf_aload_n (n := 1) 0 dX9_open_0 rfl rfl rfl ?_
  refine rf_iconst (n := 2) (0 : Int32) dX9_open_1 cciconst_0 rfl ?_
  refine rf_pfI (n := 5) hG rfl dX9_open_2 flX9_103 ki_9_0 nf_9_0 sS_57 kk_57 rfl (fun m1 => ?_)
  refine rf_bipush (n := 7) (64 : Int32) dX9_open_5 ccbipush_64 rfl ?_
  refine rf_aload_n (n := 8) 0 dX9_open_7 rfl rfl rfl ?_
  refine rf_getR (n := 11) rr_57_28 kk_74 hG dX9_open_8 flX9_63 ki_9_28 sS_57 kk_57 rfl ?_
  refine rf_iconst (n := 12) (0 : Int32) dX9_open_11 cciconst_0 rfl ?_
  refine rf_iald (n := 13) hG dX9_open_12 sS_74 kk_74 rfl (fun v2 => ?_)
  refine rf_imul (n := 14) dX9_open_13 rfl ?_
  refine rf_letI (fun v3 => ?_)
  refine rf_istore_n (lc2 := [some (.ref 57), some (.int p1), some (.int v3), none, none, none]) (n := 15) 2 dX9_open_14 rfl rfl (Nat.le_of_ble_eq_true rfl) rfl rfl ?_
  refine rf_iload_n (n := 16) 1 dX9_open_15 rfl rfl rfl ?_
  refine rf_if_lt (tg := 24) (n := 19) dX9_open_16 rfl rfl (fun c17 => ?_) (fun c17 => ?_)
  · refine rf_mask (lc2 := [none, none, none, none, none, none]) [false, false, false, true, true, true] rfl ?_
    exact pX9_open_K24 hG _
  · refine rf_iload_n (n := 20) 1 dX9_open_19 rfl rfl rfl ?_
    refine rf_iload_n (n := 21) 2 dX9_open_20 rfl rfl rfl ?_
    refine rf_icmp_lt (tg := 26) (n := 24) dX9_open_21 rfl rfl (fun c16 => ?_) (fun c16 => ?_)
    · refine rf_iconst (n := 27) (0 : Int32) dX9_open_26 cciconst_0 rfl ?_
      refine rf_istore_n (lc2 := [some (.ref 57), some (.int p1), some (.int v3), some (.int (0 : Int32)), none, none]) (n := 28) 3 dX9_open_27 rfl rfl (Nat.le_of_ble_eq_true rfl) rfl rfl ?_
      refine rf_iconst (n := 29) (0 : Int32) dX9_open_28 cciconst_0 rfl ?_
      refine rf_istore (lc2 := [some (.ref 57), some (.int p1), some (.int v3), some (.int (0 : Int32)), some (.int (0 : Int32)), none]) (n := 31) 4 dX9_open_29 rfl (Nat.le_of_ble_eq_true rfl) rfl rfl ?_
      exact pX9_open_L31 hG _ _ _ _ _ _
    · refine rf_mask (lc2 := [none, none, none, none, none, none]) [false, false, false, true, true, true] rfl ?_
      exact pX9_open_K24 hG _
def fX4_drawDelays_B4 (r4 : Int32 → Int32 → ax_M → Option (Int32 × ax_M)) (l2 : Int32) (l3 : Int32) (μ : ax_M) : Option (Int32 × ax_M) :=
  (if (μ.1 2 14) ≤ l3 then (some (l2, μ)) else (ax_let (((l2 * (1103515245 : Int32)) + (12345 : Int32)) &&& (2147483647 : Int32)) (fun v1 => (Option.bind (ax_rd μ 47 24 l3) (fun v2 => (Option.bind (ax_rd μ 14 24 l3) (fun v3 => (ax_let (ax_mx ((v2 - v3) + (1 : Int32)) (1 : Int32)) (fun v4 => (Option.bind (ax_rd μ 14 24 l3) (fun v5 => (Option.bind (ax_rm (v1 >>> ((16 : Int32) &&& 31)) v4) (fun v6 => (Option.bind (ax_wr μ 13 24 l3 (v5 + v6)) (fun m7 => (r4 v1 (l3 + (1 : Int32)) m7))))))))))))))))
theorem pX4_drawDelays_B4 {x : ax_X} {G : ax_G} (hG : ax_ok G) (r4 : Int32 → Int32 → ax_M → Option (Int32 × ax_M)) (hr4 : ∀ (a2 : Int32) (a3 : Int32) (μ : ax_M), ax_Rf mX4_drawDelays 1 x (ax_Z ax_jI x G) G 0 0 4 [some (.ref 46), none, some (.int a2), some (.int a3), none] [] μ (r4 a2 a3 μ)) (l2 : Int32) (l3 : Int32) (μ : ax_M) : ax_Rf mX4_drawDelays 1 x (ax_Z ax_jI x G) G 0 0 4 [some (.ref 46), none, some (.int l2), some (.int l3), none] [] μ (fX4_drawDelays_B4 r4 l2 l3 μ) := by
  unfold fX4_drawDelays_B4
  refine rf_iload_n (n := 5) 3 dX4_drawDelays_4 rfl rfl rfl ?_
  refine rf_aload_n (n := 6) 0 dX4_drawDelays_5 rfl rfl rfl ?_
  refine rf_getR (n := 9) rr_46_0 kk_2 hG dX4_drawDelays_6 flX4_18 ki_4_0 sS_46 kk_46 rfl ?_
  refine rf_getI (n := 12) hG dX4_drawDelays_9 flX4_139 ki_1_14 sS_2 kk_2 rfl ?_
  refine rf_icmp_ge (tg := 83) (n := 15) dX4_drawDelays_12 rfl rfl (fun c8 => ?_) (fun c8 => ?_)
  · refine rf_iload_n (n := 84) 2 dX4_drawDelays_83 rfl rfl rfl ?_
    exact rf_retI rfl dX4_drawDelays_84
  · refine rf_iload_n (n := 16) 2 dX4_drawDelays_15 rfl rfl rfl ?_
    refine rf_ldc (n := 18) dX4_drawDelays_16 ctX4_142 rfl ?_
    refine rf_imul (n := 19) dX4_drawDelays_18 rfl ?_
    refine rf_sipush (n := 22) (12345 : Int32) dX4_drawDelays_19 ccsipush_12345 rfl ?_
    refine rf_iadd (n := 23) dX4_drawDelays_22 rfl ?_
    refine rf_ldc (n := 25) dX4_drawDelays_23 ctX4_143 rfl ?_
    refine rf_iand (n := 26) dX4_drawDelays_25 rfl ?_
    refine rf_letI (fun v1 => ?_)
    refine rf_istore_n (lc2 := [some (.ref 46), none, some (.int v1), some (.int l3), none]) (n := 27) 2 dX4_drawDelays_26 rfl rfl (Nat.le_of_ble_eq_true rfl) rfl rfl ?_
    refine rf_aload_n (n := 28) 0 dX4_drawDelays_27 rfl rfl rfl ?_
    refine rf_getR (n := 31) rr_46_3 kk_47 hG dX4_drawDelays_28 flX4_9 ki_4_3 sS_46 kk_46 rfl ?_
    refine rf_iload_n (n := 32) 3 dX4_drawDelays_31 rfl rfl rfl ?_
    refine rf_iald (n := 33) hG dX4_drawDelays_32 sS_47 kk_47 rfl (fun v2 => ?_)
    refine rf_aload_n (n := 34) 0 dX4_drawDelays_33 rfl rfl rfl ?_
    refine rf_getR (n := 37) rr_46_0 kk_2 hG dX4_drawDelays_34 flX4_18 ki_4_0 sS_46 kk_46 rfl ?_
    refine rf_getR (n := 40) rr_2_11 kk_14 hG dX4_drawDelays_37 flX4_47 ki_1_11 sS_2 kk_2 rfl ?_
    refine rf_iload_n (n := 41) 3 dX4_drawDelays_40 rfl rfl rfl ?_
    refine rf_iald (n := 42) hG dX4_drawDelays_41 sS_14 kk_14 rfl (fun v3 => ?_)
    refine rf_isub (n := 43) dX4_drawDelays_42 rfl ?_
    refine rf_iconst (n := 44) (1 : Int32) dX4_drawDelays_43 cciconst_1 rfl ?_
    refine rf_iadd (n := 45) dX4_drawDelays_44 rfl ?_
    refine rf_iconst (n := 46) (1 : Int32) dX4_drawDelays_45 cciconst_1 rfl ?_
    refine rf_max (n := 49) dX4_drawDelays_46 mxX4_68 ax_maxw (Nat.le_of_ble_eq_true rfl) (Nat.le_of_ble_eq_true rfl) rfl ?_
    refine rf_letI (fun v4 => ?_)
    refine rf_istore (lc2 := [some (.ref 46), none, some (.int v1), some (.int l3), some (.int v4)]) (n := 51) 4 dX4_drawDelays_49 rfl (Nat.le_of_ble_eq_true rfl) rfl rfl ?_
    refine rf_aload_n (n := 52) 0 dX4_drawDelays_51 rfl rfl rfl ?_
    refine rf_getR (n := 55) rr_46_0 kk_2 hG dX4_drawDelays_52 flX4_18 ki_4_0 sS_46 kk_46 rfl ?_
    refine rf_getR (n := 58) rr_2_10 kk_13 hG dX4_drawDelays_55 flX4_42 ki_1_10 sS_2 kk_2 rfl ?_
    refine rf_iload_n (n := 59) 3 dX4_drawDelays_58 rfl rfl rfl ?_
    refine rf_aload_n (n := 60) 0 dX4_drawDelays_59 rfl rfl rfl ?_
    refine rf_getR (n := 63) rr_46_0 kk_2 hG dX4_drawDelays_60 flX4_18 ki_4_0 sS_46 kk_46 rfl ?_
    refine rf_getR (n := 66) rr_2_11 kk_14 hG dX4_drawDelays_63 flX4_47 ki_1_11 sS_2 kk_2 rfl ?_
    refine rf_iload_n (n := 67) 3 dX4_drawDelays_66 rfl rfl rfl ?_
    refine rf_iald (n := 68) hG dX4_drawDelays_67 sS_14 kk_14 rfl (fun v5 => ?_)
    refine rf_iload_n (n := 69) 2 dX4_drawDelays_68 rfl rfl rfl ?_
    refine rf_bipush (n := 71) (16 : Int32) dX4_drawDelays_69 ccbipush_16 rfl ?_
    refine rf_ishr (n := 72) dX4_drawDelays_71 rfl ?_
    refine rf_iload (n := 74) 4 dX4_drawDelays_72 rfl rfl ?_
    refine rf_irem (n := 75) dX4_drawDelays_74 rfl (fun v6 => ?_)
    refine rf_iadd (n := 76) dX4_drawDelays_75 rfl ?_
    refine rf_iast (n := 77) hG dX4_drawDelays_76 sS_13 kk_13 rfl (fun m7 => ?_)
    refine rf_iinc (lc2 := [some (.ref 46), none, some (.int v1), some (.int (l3 + (1 : Int32))), some (.int v4)]) (n := 80) (w := (1 : Int32)) 3 dX4_drawDelays_77 rfl rfl rfl (Nat.le_of_ble_eq_true rfl) rfl rfl ?_
    refine rf_goto (tg := 4) dX4_drawDelays_80 rfl ?_
    refine rf_mask (lc2 := [some (.ref 46), none, some (.int v1), some (.int (l3 + (1 : Int32))), none]) [true, true, true, true, false] rfl ?_
    exact hr4 _ _ _
theorem pX4_drawDelays_L4 {x : ax_X} {G : ax_G} (hG : ax_ok G) (n : Nat) (a2 : Int32) (a3 : Int32) (μ : ax_M) : ax_Rf mX4_drawDelays 1 x (ax_Z ax_jI x G) G 0 0 4 [some (.ref 46), none, some (.int a2), some (.int a3), none] [] μ (ax_lp2 (fX4_drawDelays_B4) n a2 a3 μ) :=
  rf_lp2 (P := fun a2 a3 μ t => ax_Rf mX4_drawDelays 1 x (ax_Z ax_jI x G) G 0 0 4 [some (.ref 46), none, some (.int a2), some (.int a3), none] [] μ t) (fun _ _ _ => rf_none) (fun rc hrc a2 a3 μ => pX4_drawDelays_B4 hG rc hrc a2 a3 μ) n a2 a3 μ
def fX4_drawDelays (p1 : Int32) (μ : ax_M) : Option (Int32 × ax_M) :=
  (ax_lp2 (fX4_drawDelays_B4) ax_FU p1 (0 : Int32) μ)
theorem okX4_drawDelays (p1 : Int32) (μ : ax_M) : ax_Ok mX4_drawDelays 1 ax_jI [.ref 46, .int p1] μ (fX4_drawDelays p1 μ) := by
  refine ax_start (lc := [some (.ref 46), some (.int p1), none, none, none]) 3 (by decide +kernel) rfl (Nat.le_of_ble_eq_true rfl) (fun x G hG => ?_)
  unfold fX4_drawDelays
  refine rf_iload_n (n := 1) 1 dX4_drawDelays_0 rfl rfl rfl ?_
  refine rf_istore_n (lc2 := [some (.ref 46), some (.int p1), some (.int p1), none, none]) (n := 2) 2 dX4_drawDelays_1 rfl rfl (Nat.le_of_ble_eq_true rfl) rfl rfl ?_
  refine rf_iconst (n := 3) (0 : Int32) dX4_drawDelays_2 cciconst_0 rfl ?_
  refine rf_istore_n (lc2 := [some (.ref 46), some (.int p1), some (.int p1), some (.int (0 : Int32)), none]) (n := 4) 3 dX4_drawDelays_3 rfl rfl (Nat.le_of_ble_eq_true rfl) rfl rfl ?_
  refine rf_mask (lc2 := [some (.ref 46), none, some (.int p1), some (.int (0 : Int32)), none]) [true, false, true, true, true] rfl ?_
  exact pX4_drawDelays_L4 hG _ _ _ _
def fX4_drawnIsForever (μ : ax_M) : Option (Int32 × ax_M) :=
  (ax_let (ax_wi μ 32 5 (0 : Int32)) (fun m1 => (ax_bd (fX5_isForever m1) (fun v2 m3 => (some (vp_nar .boolean v2, m3))))))
theorem okX4_drawnIsForever (μ : ax_M) : ax_Ok mX4_drawnIsForever 4 ax_jI [.ref 46] μ (fX4_drawnIsForever μ) := by
  refine ax_start (lc := [some (.ref 46)]) 0 (by decide +kernel) rfl (Nat.le_of_ble_eq_true rfl) (fun x G hG => ?_)
  unfold fX4_drawnIsForever
  refine rf_aload_n (n := 1) 0 dX4_drawnIsForever_0 rfl rfl rfl ?_
  refine rf_getR (n := 4) rr_46_1 kk_32 hG dX4_drawnIsForever_1 flX4_22 ki_4_1 sS_46 kk_46 rfl ?_
  refine rf_iconst (n := 5) (0 : Int32) dX4_drawnIsForever_4 cciconst_0 rfl ?_
  refine rf_pfZ (n := 8) hG rfl (Or.inl rfl) dX4_drawnIsForever_5 flX4_133 ki_5_5 nf_5_5 sS_32 kk_32 rfl (fun m1 => ?_)
  refine rf_aload_n (n := 9) 0 dX4_drawnIsForever_8 rfl rfl rfl ?_
  refine rf_getR (n := 12) rr_46_1 kk_32 hG dX4_drawnIsForever_9 flX4_22 ki_4_1 sS_46 kk_46 rfl ?_
  refine rf_cV0I (n := 15) hG (okX5_isForever _) lVX4_144 hhX5_isForever kk_32 sS_32 ⟨_, rfl, rfl⟩ dX4_drawnIsForever_12 rfl (Nat.le_of_ble_eq_true rfl) (Nat.le_of_ble_eq_true rfl) (fun v2 m3 => ?_)
  exact rf_retZ rfl dX4_drawnIsForever_15
def fX4_drawnIsGood (μ : ax_M) : Option (Int32 × ax_M) :=
  (ax_bd (fX6_load μ) (fun _ m2 => (ax_bd (fX6_holds (m2.1 2 16) m2) (fun v3 m4 => (some (vp_nar .boolean v3, m4))))))
theorem okX4_drawnIsGood (μ : ax_M) : ax_Ok mX4_drawnIsGood 4 ax_jI [.ref 46] μ (fX4_drawnIsGood μ) := by
  refine ax_start (lc := [some (.ref 46)]) 0 (by decide +kernel) rfl (Nat.le_of_ble_eq_true rfl) (fun x G hG => ?_)
  unfold fX4_drawnIsGood
  refine rf_aload_n (n := 1) 0 dX4_drawnIsGood_0 rfl rfl rfl ?_
  refine rf_getR (n := 4) rr_46_2 kk_49 hG dX4_drawnIsGood_1 flX4_31 ki_4_2 sS_46 kk_46 rfl ?_
  refine rf_cV0V (n := 7) hG (okX6_load _) lVX4_35 hhX6_load kk_49 sS_49 ⟨_, rfl, rfl⟩ dX4_drawnIsGood_4 rfl (Nat.le_of_ble_eq_true rfl) (Nat.le_of_ble_eq_true rfl) (fun _ m2 => ?_)
  refine rf_aload_n (n := 8) 0 dX4_drawnIsGood_7 rfl rfl rfl ?_
  refine rf_getR (n := 11) rr_46_2 kk_49 hG dX4_drawnIsGood_8 flX4_31 ki_4_2 sS_46 kk_46 rfl ?_
  refine rf_aload_n (n := 12) 0 dX4_drawnIsGood_11 rfl rfl rfl ?_
  refine rf_getR (n := 15) rr_46_0 kk_2 hG dX4_drawnIsGood_12 flX4_18 ki_4_0 sS_46 kk_46 rfl ?_
  refine rf_getI (n := 18) hG dX4_drawnIsGood_15 flX4_50 ki_1_16 sS_2 kk_2 rfl ?_
  refine rf_cV1I (n := 21) hG (okX6_holds _ _) lVX4_54 hhX6_holds kk_49 sS_49 ⟨_, rfl, rfl⟩ dX4_drawnIsGood_18 rfl (Nat.le_of_ble_eq_true rfl) (Nat.le_of_ble_eq_true rfl) (fun v3 m4 => ?_)
  exact rf_retZ rfl dX4_drawnIsGood_21
def fX4_periodFrom (p1 : Int32) (μ : ax_M) : Option (Int32 × ax_M) :=
  (ax_bd (fX6_load μ) (fun _ m2 => (ax_bd (fX6_firstGood (ax_mx p1 (1 : Int32)) (9999 : Int32) m2) (fun v3 m4 => (some (v3, m4))))))
theorem okX4_periodFrom (p1 : Int32) (μ : ax_M) : ax_Ok mX4_periodFrom 5 ax_jI [.ref 46, .int p1] μ (fX4_periodFrom p1 μ) := by
  refine ax_start (lc := [some (.ref 46), some (.int p1)]) 0 (by decide +kernel) rfl (Nat.le_of_ble_eq_true rfl) (fun x G hG => ?_)
  unfold fX4_periodFrom
  refine rf_aload_n (n := 1) 0 dX4_periodFrom_0 rfl rfl rfl ?_
  refine rf_getR (n := 4) rr_46_2 kk_49 hG dX4_periodFrom_1 flX4_31 ki_4_2 sS_46 kk_46 rfl ?_
  refine rf_cV0V (n := 7) hG (okX6_load _) lVX4_35 hhX6_load kk_49 sS_49 ⟨_, rfl, rfl⟩ dX4_periodFrom_4 rfl (Nat.le_of_ble_eq_true rfl) (Nat.le_of_ble_eq_true rfl) (fun _ m2 => ?_)
  refine rf_aload_n (n := 8) 0 dX4_periodFrom_7 rfl rfl rfl ?_
  refine rf_getR (n := 11) rr_46_2 kk_49 hG dX4_periodFrom_8 flX4_31 ki_4_2 sS_46 kk_46 rfl ?_
  refine rf_iload_n (n := 12) 1 dX4_periodFrom_11 rfl rfl rfl ?_
  refine rf_iconst (n := 13) (1 : Int32) dX4_periodFrom_12 cciconst_1 rfl ?_
  refine rf_max (n := 16) dX4_periodFrom_13 mxX4_68 ax_maxw (Nat.le_of_ble_eq_true rfl) (Nat.le_of_ble_eq_true rfl) rfl ?_
  refine rf_sipush (n := 19) (9999 : Int32) dX4_periodFrom_16 ccsipush_9999 rfl ?_
  refine rf_cV2I (n := 22) hG (okX6_firstGood _ _ _) lVX4_38 hhX6_firstGood kk_49 sS_49 ⟨_, rfl, rfl⟩ dX4_periodFrom_19 rfl (Nat.le_of_ble_eq_true rfl) (Nat.le_of_ble_eq_true rfl) (fun v3 m4 => ?_)
  exact rf_retI rfl dX4_periodFrom_22
def fX4_byChance_K86 (l2 : Int32) (l3 : Int32) (l4 : Int32) (l5 : Int32) (l6 : Int32) (r27 : Int32 → Int32 → Int32 → ax_M → Option (Int32 × ax_M)) (μ : ax_M) : Option (Int32 × ax_M) :=
  (r27 l4 l5 (l6 + (1 : Int32)) μ)
theorem pX4_byChance_K86 {x : ax_X} {G : ax_G} (hG : ax_ok G) (l2 : Int32) (l3 : Int32) (l4 : Int32) (l5 : Int32) (l6 : Int32) (r27 : Int32 → Int32 → Int32 → ax_M → Option (Int32 × ax_M)) (hr27 : ∀ (a4 : Int32) (a5 : Int32) (a6 : Int32) (μ : ax_M), ax_Rf mX4_byChance 6 x (ax_Z ax_jI x G) G 0 0 27 [some (.ref 46), none, some (.int l2), some (.int l3), some (.int a4), some (.int a5), some (.int a6)] [] μ (r27 a4 a5 a6 μ)) (μ : ax_M) : ax_Rf mX4_byChance 6 x (ax_Z ax_jI x G) G 0 0 86 [some (.ref 46), none, some (.int l2), some (.int l3), some (.int l4), some (.int l5), some (.int l6)] [] μ (fX4_byChance_K86 l2 l3 l4 l5 l6 r27 μ) := by
  unfold fX4_byChance_K86
  refine rf_iinc (lc2 := [some (.ref 46), none, some (.int l2), some (.int l3), some (.int l4), some (.int l5), some (.int (l6 + (1 : Int32)))]) (n := 89) (w := (1 : Int32)) 6 dX4_byChance_86 rfl rfl rfl (Nat.le_of_ble_eq_true rfl) rfl rfl ?_
  refine rf_goto (tg := 27) dX4_byChance_89 rfl ?_
  exact hr27 _ _ _ _
def fX4_byChance_K83 (l2 : Int32) (l3 : Int32) (l4 : Int32) (l5 : Int32) (l6 : Int32) (r27 : Int32 → Int32 → Int32 → ax_M → Option (Int32 × ax_M)) (μ : ax_M) : Option (Int32 × ax_M) :=
  (fX4_byChance_K86 l2 l3 l4 (l5 + (1 : Int32)) l6 r27 μ)
theorem pX4_byChance_K83 {x : ax_X} {G : ax_G} (hG : ax_ok G) (l2 : Int32) (l3 : Int32) (l4 : Int32) (l5 : Int32) (l6 : Int32) (r27 : Int32 → Int32 → Int32 → ax_M → Option (Int32 × ax_M)) (hr27 : ∀ (a4 : Int32) (a5 : Int32) (a6 : Int32) (μ : ax_M), ax_Rf mX4_byChance 6 x (ax_Z ax_jI x G) G 0 0 27 [some (.ref 46), none, some (.int l2), some (.int l3), some (.int a4), some (.int a5), some (.int a6)] [] μ (r27 a4 a5 a6 μ)) (μ : ax_M) : ax_Rf mX4_byChance 6 x (ax_Z ax_jI x G) G 0 0 83 [some (.ref 46), none, some (.int l2), some (.int l3), some (.int l4), some (.int l5), some (.int l6)] [] μ (fX4_byChance_K83 l2 l3 l4 l5 l6 r27 μ) := by
  unfold fX4_byChance_K83
  refine rf_iinc (lc2 := [some (.ref 46), none, some (.int l2), some (.int l3), some (.int l4), some (.int (l5 + (1 : Int32))), some (.int l6)]) (n := 86) (w := (1 : Int32)) 5 dX4_byChance_83 rfl rfl rfl (Nat.le_of_ble_eq_true rfl) rfl rfl ?_
  exact pX4_byChance_K86 hG _ _ _ _ _ r27 hr27 _
def fX4_byChance_B27 (l2 : Int32) (l3 : Int32) (r27 : Int32 → Int32 → Int32 → ax_M → Option (Int32 × ax_M)) (l4 : Int32) (l5 : Int32) (l6 : Int32) (μ : ax_M) : Option (Int32 × ax_M) :=
  (if l2 ≤ l6 then (Option.bind (ax_cp μ 47 24 (0 : Int32) 13 24 (0 : Int32) (24 : Int32)) (fun m2 => (ax_let (ax_wi m2 32 5 (0 : Int32)) (fun m3 => (some (l5, m3)))))) else (ax_bd (fX4_drawDelays l4 μ) (fun v4 m5 => (if l3 = (2 : Int32) then (ax_bd (fX4_periodFrom l5 m5) (fun v13 m14 => (ax_let (ax_mx l5 v13) (fun v15 => (fX4_byChance_K86 l2 l3 v4 v15 l6 r27 m14))))) else (if l3 = 0 then (ax_bd (fX4_drawnIsGood m5) (fun v9 m10 => (if v9 = 0 then (fX4_byChance_K86 l2 l3 v4 l5 l6 r27 m10) else (fX4_byChance_K83 l2 l3 v4 l5 l6 r27 m10)))) else (ax_bd (fX4_drawnIsForever m5) (fun v6 m7 => (if v6 = 0 then (fX4_byChance_K86 l2 l3 v4 l5 l6 r27 m7) else (fX4_byChance_K83 l2 l3 v4 l5 l6 r27 m7)))))))))
theorem pX4_byChance_B27 {x : ax_X} {G : ax_G} (hG : ax_ok G) (l2 : Int32) (l3 : Int32) (r27 : Int32 → Int32 → Int32 → ax_M → Option (Int32 × ax_M)) (hr27 : ∀ (a4 : Int32) (a5 : Int32) (a6 : Int32) (μ : ax_M), ax_Rf mX4_byChance 6 x (ax_Z ax_jI x G) G 0 0 27 [some (.ref 46), none, some (.int l2), some (.int l3), some (.int a4), some (.int a5), some (.int a6)] [] μ (r27 a4 a5 a6 μ)) (l4 : Int32) (l5 : Int32) (l6 : Int32) (μ : ax_M) : ax_Rf mX4_byChance 6 x (ax_Z ax_jI x G) G 0 0 27 [some (.ref 46), none, some (.int l2), some (.int l3), some (.int l4), some (.int l5), some (.int l6)] [] μ (fX4_byChance_B27 l2 l3 r27 l4 l5 l6 μ) := by
  unfold fX4_byChance_B27
  refine rf_iload (n := 29) 6 dX4_byChance_27 rfl rfl ?_
  refine rf_iload_n (n := 30) 2 dX4_byChance_29 rfl rfl rfl ?_
  refine rf_icmp_ge (tg := 92) (n := 33) dX4_byChance_30 rfl rfl (fun c17 => ?_) (fun c17 => ?_)
  · refine rf_aload_n (n := 93) 0 dX4_byChance_92 rfl rfl rfl ?_
    refine rf_getR (n := 96) rr_46_3 kk_47 hG dX4_byChance_93 flX4_9 ki_4_3 sS_46 kk_46 rfl ?_
    refine rf_iconst (n := 97) (0 : Int32) dX4_byChance_96 cciconst_0 rfl ?_
    refine rf_aload_n (n := 98) 0 dX4_byChance_97 rfl rfl rfl ?_
    refine rf_getR (n := 101) rr_46_0 kk_2 hG dX4_byChance_98 flX4_18 ki_4_0 sS_46 kk_46 rfl ?_
    refine rf_getR (n := 104) rr_2_10 kk_13 hG dX4_byChance_101 flX4_42 ki_1_10 sS_2 kk_2 rfl ?_
    refine rf_iconst (n := 105) (0 : Int32) dX4_byChance_104 cciconst_0 rfl ?_
    refine rf_bipush (n := 107) (24 : Int32) dX4_byChance_105 ccbipush_24 rfl ?_
    refine rf_copy (n := 110) hG dX4_byChance_107 cpX4_83 ax_cpw (Nat.le_of_ble_eq_true rfl) (Nat.le_of_ble_eq_true rfl) sS_47 sS_13 kk_47 kk_13 rfl (fun m2 => ?_)
    refine rf_aload_n (n := 111) 0 dX4_byChance_110 rfl rfl rfl ?_
    refine rf_getR (n := 114) rr_46_1 kk_32 hG dX4_byChance_111 flX4_22 ki_4_1 sS_46 kk_46 rfl ?_
    refine rf_iconst (n := 115) (0 : Int32) dX4_byChance_114 cciconst_0 rfl ?_
    refine rf_pfZ (n := 118) hG rfl (Or.inl rfl) dX4_byChance_115 flX4_133 ki_5_5 nf_5_5 sS_32 kk_32 rfl (fun m3 => ?_)
    refine rf_iload (n := 120) 5 dX4_byChance_118 rfl rfl ?_
    exact rf_retI rfl dX4_byChance_120
  · refine rf_aload_n (n := 34) 0 dX4_byChance_33 rfl rfl rfl ?_
    refine rf_iload (n := 36) 4 dX4_byChance_34 rfl rfl ?_
    refine rf_cV1I (n := 39) hG (okX4_drawDelays _ _) lVX4_120 hhX4_drawDelays kk_46 sS_46 ⟨_, rfl, rfl⟩ dX4_byChance_36 rfl (Nat.le_of_ble_eq_true rfl) (Nat.le_of_ble_eq_true rfl) (fun v4 m5 => ?_)
    refine rf_istore (lc2 := [some (.ref 46), none, some (.int l2), some (.int l3), some (.int v4), some (.int l5), some (.int l6)]) (n := 41) 4 dX4_byChance_39 rfl (Nat.le_of_ble_eq_true rfl) rfl rfl ?_
    refine rf_iload_n (n := 42) 3 dX4_byChance_41 rfl rfl rfl ?_
    refine rf_iconst (n := 43) (2 : Int32) dX4_byChance_42 cciconst_2 rfl ?_
    refine rf_icmp_ne (tg := 62) (n := 46) dX4_byChance_43 rfl rfl (fun c16 => ?_) (fun c16 => ?_)
    · refine rf_iload_n (n := 63) 3 dX4_byChance_62 rfl rfl rfl ?_
      refine rf_if_ne (tg := 76) (n := 66) dX4_byChance_63 rfl rfl (fun c12 => ?_) (fun c12 => ?_)
      · refine rf_aload_n (n := 77) 0 dX4_byChance_76 rfl rfl rfl ?_
        refine rf_cV0I (n := 80) hG (okX4_drawnIsForever _) lVX4_130 hhX4_drawnIsForever kk_46 sS_46 ⟨_, rfl, rfl⟩ dX4_byChance_77 rfl (Nat.le_of_ble_eq_true rfl) (Nat.le_of_ble_eq_true rfl) (fun v6 m7 => ?_)
        refine rf_if_eq (tg := 86) (n := 83) dX4_byChance_80 rfl rfl (fun c8 => ?_) (fun c8 => ?_)
        · exact pX4_byChance_K86 hG _ _ _ _ _ r27 hr27 _
        · exact pX4_byChance_K83 hG _ _ _ _ _ r27 hr27 _
      · refine rf_aload_n (n := 67) 0 dX4_byChance_66 rfl rfl rfl ?_
        refine rf_cV0I (n := 70) hG (okX4_drawnIsGood _) lVX4_126 hhX4_drawnIsGood kk_46 sS_46 ⟨_, rfl, rfl⟩ dX4_byChance_67 rfl (Nat.le_of_ble_eq_true rfl) (Nat.le_of_ble_eq_true rfl) (fun v9 m10 => ?_)
        refine rf_if_eq (tg := 86) (n := 73) dX4_byChance_70 rfl rfl (fun c11 => ?_) (fun c11 => ?_)
        · exact pX4_byChance_K86 hG _ _ _ _ _ r27 hr27 _
        · refine rf_goto (tg := 83) dX4_byChance_73 rfl ?_
          exact pX4_byChance_K83 hG _ _ _ _ _ r27 hr27 _
    · refine rf_iload (n := 48) 5 dX4_byChance_46 rfl rfl ?_
      refine rf_aload_n (n := 49) 0 dX4_byChance_48 rfl rfl rfl ?_
      refine rf_iload (n := 51) 5 dX4_byChance_49 rfl rfl ?_
      refine rf_cV1I (n := 54) hG (okX4_periodFrom _ _) lVX4_123 hhX4_periodFrom kk_46 sS_46 ⟨_, rfl, rfl⟩ dX4_byChance_51 rfl (Nat.le_of_ble_eq_true rfl) (Nat.le_of_ble_eq_true rfl) (fun v13 m14 => ?_)
      refine rf_max (n := 57) dX4_byChance_54 mxX4_68 ax_maxw (Nat.le_of_ble_eq_true rfl) (Nat.le_of_ble_eq_true rfl) rfl ?_
      refine rf_letI (fun v15 => ?_)
      refine rf_istore (lc2 := [some (.ref 46), none, some (.int l2), some (.int l3), some (.int v4), some (.int v15), some (.int l6)]) (n := 59) 5 dX4_byChance_57 rfl (Nat.le_of_ble_eq_true rfl) rfl rfl ?_
      refine rf_goto (tg := 86) dX4_byChance_59 rfl ?_
      exact pX4_byChance_K86 hG _ _ _ _ _ r27 hr27 _
theorem pX4_byChance_L27 {x : ax_X} {G : ax_G} (hG : ax_ok G) (l2 : Int32) (l3 : Int32) (n : Nat) (a4 : Int32) (a5 : Int32) (a6 : Int32) (μ : ax_M) : ax_Rf mX4_byChance 6 x (ax_Z ax_jI x G) G 0 0 27 [some (.ref 46), none, some (.int l2), some (.int l3), some (.int a4), some (.int a5), some (.int a6)] [] μ (ax_lp3 (fX4_byChance_B27 l2 l3) n a4 a5 a6 μ) :=
  rf_lp3 (P := fun a4 a5 a6 μ t => ax_Rf mX4_byChance 6 x (ax_Z ax_jI x G) G 0 0 27 [some (.ref 46), none, some (.int l2), some (.int l3), some (.int a4), some (.int a5), some (.int a6)] [] μ t) (fun _ _ _ _ => rf_none) (fun rc hrc a4 a5 a6 μ => pX4_byChance_B27 hG l2 l3 rc hrc a4 a5 a6 μ) n a4 a5 a6 μ
def fX4_byChance (p1 : Int32) (p2 : Int32) (p3 : Int32) (μ : ax_M) : Option (Int32 × ax_M) :=
  (Option.bind (ax_cp μ 13 24 (0 : Int32) 47 24 (0 : Int32) (24 : Int32)) (fun m1 => (ax_lp3 (fX4_byChance_B27 p2 p3) ax_FU p1 (0 : Int32) (0 : Int32) m1)))
theorem okX4_byChance (p1 : Int32) (p2 : Int32) (p3 : Int32) (μ : ax_M) : ax_Ok mX4_byChance 6 ax_jI [.ref 46, .int p1, .int p2, .int p3] μ (fX4_byChance p1 p2 p3 μ) := by
  refine ax_start (lc := [some (.ref 46), some (.int p1), some (.int p2), some (.int p3), none, none, none]) 3 (by decide +kernel) rfl (Nat.le_of_ble_eq_true rfl) (fun x G hG => ?_)
  unfold fX4_byChance
  refine rf_aload_n (n := 1) 0 dX4_byChance_0 rfl rfl rfl ?_
  refine rf_getR (n := 4) rr_46_0 kk_2 hG dX4_byChance_1 flX4_18 ki_4_0 sS_46 kk_46 rfl ?_
  refine rf_getR (n := 7) rr_2_10 kk_13 hG dX4_byChance_4 flX4_42 ki_1_10 sS_2 kk_2 rfl ?_
  refine rf_iconst (n := 8) (0 : Int32) dX4_byChance_7 cciconst_0 rfl ?_
  refine rf_aload_n (n := 9) 0 dX4_byChance_8 rfl rfl rfl ?_
  refine rf_getR (n := 12) rr_46_3 kk_47 hG dX4_byChance_9 flX4_9 ki_4_3 sS_46 kk_46 rfl ?_
  refine rf_iconst (n := 13) (0 : Int32) dX4_byChance_12 cciconst_0 rfl ?_
  refine rf_bipush (n := 15) (24 : Int32) dX4_byChance_13 ccbipush_24 rfl ?_
  refine rf_copy (n := 18) hG dX4_byChance_15 cpX4_83 ax_cpw (Nat.le_of_ble_eq_true rfl) (Nat.le_of_ble_eq_true rfl) sS_13 sS_47 kk_13 kk_47 rfl (fun m1 => ?_)
  refine rf_iload_n (n := 19) 1 dX4_byChance_18 rfl rfl rfl ?_
  refine rf_istore (lc2 := [some (.ref 46), some (.int p1), some (.int p2), some (.int p3), some (.int p1), none, none]) (n := 21) 4 dX4_byChance_19 rfl (Nat.le_of_ble_eq_true rfl) rfl rfl ?_
  refine rf_iconst (n := 22) (0 : Int32) dX4_byChance_21 cciconst_0 rfl ?_
  refine rf_istore (lc2 := [some (.ref 46), some (.int p1), some (.int p2), some (.int p3), some (.int p1), some (.int (0 : Int32)), none]) (n := 24) 5 dX4_byChance_22 rfl (Nat.le_of_ble_eq_true rfl) rfl rfl ?_
  refine rf_iconst (n := 25) (0 : Int32) dX4_byChance_24 cciconst_0 rfl ?_
  refine rf_istore (lc2 := [some (.ref 46), some (.int p1), some (.int p2), some (.int p3), some (.int p1), some (.int (0 : Int32)), some (.int (0 : Int32))]) (n := 27) 6 dX4_byChance_25 rfl (Nat.le_of_ble_eq_true rfl) rfl rfl ?_
  refine rf_mask (lc2 := [some (.ref 46), none, some (.int p2), some (.int p3), some (.int p1), some (.int (0 : Int32)), some (.int (0 : Int32))]) [true, false, true, true, true, true, true] rfl ?_
  exact pX4_byChance_L27 hG _ _ _ _ _ _ _
def fX8_chance_K25 (μ : ax_M) : Option (Int32 × ax_M) :=
  (some ((-1 : Int32), μ))
theorem pX8_chance_K25 {x : ax_X} {G : ax_G} (hG : ax_ok G) (μ : ax_M) : ax_Rf mX8_chance 7 x (ax_Z ax_jI x G) G 0 0 25 [none, none, none, none] [] μ (fX8_chance_K25 μ) := by
  unfold fX8_chance_K25
  refine rf_iconst (n := 26) (-1 : Int32) dX8_chance_25 cciconst_m1 rfl ?_
  exact rf_retI rfl dX8_chance_26
def fX8_chance_K47 (l2 : Int32) (l3 : Int32) (s1 : Int32) (μ : ax_M) : Option (Int32 × ax_M) :=
  (ax_bd (fX4_byChance s1 l2 l3 μ) (fun v1 m2 => (some (v1, m2))))
theorem pX8_chance_K47 {x : ax_X} {G : ax_G} (hG : ax_ok G) (l2 : Int32) (l3 : Int32) (s1 : Int32) (μ : ax_M) : ax_Rf mX8_chance 7 x (ax_Z ax_jI x G) G 0 0 47 [none, none, some (.int l2), some (.int l3)] [.int s1, .ref 46] μ (fX8_chance_K47 l2 l3 s1 μ) := by
  unfold fX8_chance_K47
  refine rf_iload_n (n := 48) 2 dX8_chance_47 rfl rfl rfl ?_
  refine rf_iload_n (n := 49) 3 dX8_chance_48 rfl rfl rfl ?_
  refine rf_cV3I (n := 52) hG (okX4_byChance _ _ _ _) lVX8_314 hhX4_byChance kk_46 sS_46 ⟨_, rfl, rfl⟩ dX8_chance_49 rfl (Nat.le_of_ble_eq_true rfl) (Nat.le_of_ble_eq_true rfl) (fun v1 m2 => ?_)
  exact rf_retI rfl dX8_chance_52
def fX8_chance (p1 : Int32) (p2 : Int32) (p3 : Int32) (μ : ax_M) : Option (Int32 × ax_M) :=
  (if p1 < (-1 : Int32) then (fX8_chance_K25 μ) else (if p2 < (1 : Int32) then (fX8_chance_K25 μ) else (if (40 : Int32) < p2 then (fX8_chance_K25 μ) else (if p3 < 0 then (fX8_chance_K25 μ) else (if p3 ≤ (2 : Int32) then (if p1 = (-1 : Int32) then (fX8_chance_K47 p2 p3 (μ.1 2 18) μ) else (fX8_chance_K47 p2 p3 p1 μ)) else (fX8_chance_K25 μ))))))
theorem okX8_chance (p1 : Int32) (p2 : Int32) (p3 : Int32) (μ : ax_M) : ax_Ok mX8_chance 7 ax_jI [.ref 0, .int p1, .int p2, .int p3] μ (fX8_chance p1 p2 p3 μ) := by
  refine ax_start (lc := [some (.ref 0), some (.int p1), some (.int p2), some (.int p3)]) 0 (by decide +kernel) rfl (Nat.le_of_ble_eq_true rfl) (fun x G hG => ?_)
  unfold fX8_chance
  refine rf_iload_n (n := 1) 1 dX8_chance_0 rfl rfl rfl ?_
  refine rf_iconst (n := 2) (-1 : Int32) dX8_chance_1 cciconst_m1 rfl ?_
  refine rf_icmp_lt (tg := 25) (n := 5) dX8_chance_2 rfl rfl (fun c8 => ?_) (fun c8 => ?_)
  · refine rf_mask (lc2 := [none, none, none, none]) [false, false, false, false] rfl ?_
    exact pX8_chance_K25 hG _
  · refine rf_iload_n (n := 6) 2 dX8_chance_5 rfl rfl rfl ?_
    refine rf_iconst (n := 7) (1 : Int32) dX8_chance_6 cciconst_1 rfl ?_
    refine rf_icmp_lt (tg := 25) (n := 10) dX8_chance_7 rfl rfl (fun c7 => ?_) (fun c7 => ?_)
    · refine rf_mask (lc2 := [none, none, none, none]) [false, false, false, false] rfl ?_
      exact pX8_chance_K25 hG _
    · refine rf_iload_n (n := 11) 2 dX8_chance_10 rfl rfl rfl ?_
      refine rf_bipush (n := 13) (40 : Int32) dX8_chance_11 ccbipush_40 rfl ?_
      refine rf_icmp_gt (tg := 25) (n := 16) dX8_chance_13 rfl rfl (fun c6 => ?_) (fun c6 => ?_)
      · refine rf_mask (lc2 := [none, none, none, none]) [false, false, false, false] rfl ?_
        exact pX8_chance_K25 hG _
      · refine rf_iload_n (n := 17) 3 dX8_chance_16 rfl rfl rfl ?_
        refine rf_if_lt (tg := 25) (n := 20) dX8_chance_17 rfl rfl (fun c5 => ?_) (fun c5 => ?_)
        · refine rf_mask (lc2 := [none, none, none, none]) [false, false, false, false] rfl ?_
          exact pX8_chance_K25 hG _
        · refine rf_iload_n (n := 21) 3 dX8_chance_20 rfl rfl rfl ?_
          refine rf_iconst (n := 22) (2 : Int32) dX8_chance_21 cciconst_2 rfl ?_
          refine rf_icmp_le (tg := 27) (n := 25) dX8_chance_22 rfl rfl (fun c4 => ?_) (fun c4 => ?_)
          · refine rf_aload_n (n := 28) 0 dX8_chance_27 rfl rfl rfl ?_
            refine rf_getR (n := 31) rr_0_8 kk_46 hG dX8_chance_28 flX8_64 ki_8_8 sS_0 kk_0 rfl ?_
            refine rf_iload_n (n := 32) 1 dX8_chance_31 rfl rfl rfl ?_
            refine rf_iconst (n := 33) (-1 : Int32) dX8_chance_32 cciconst_m1 rfl ?_
            refine rf_icmp_ne (tg := 46) (n := 36) dX8_chance_33 rfl rfl (fun c3 => ?_) (fun c3 => ?_)
            · refine rf_iload_n (n := 47) 1 dX8_chance_46 rfl rfl rfl ?_
              refine rf_mask (lc2 := [none, none, some (.int p2), some (.int p3)]) [false, false, true, true] rfl ?_
              exact pX8_chance_K47 hG _ _ _ _
            · refine rf_aload_n (n := 37) 0 dX8_chance_36 rfl rfl rfl ?_
              refine rf_getR (n := 40) rr_0_2 kk_2 hG dX8_chance_37 flX8_16 ki_8_2 sS_0 kk_0 rfl ?_
              refine rf_getI (n := 43) hG dX8_chance_40 flX8_311 ki_1_18 sS_2 kk_2 rfl ?_
              refine rf_goto (tg := 47) dX8_chance_43 rfl ?_
              refine rf_mask (lc2 := [none, none, some (.int p2), some (.int p3)]) [false, false, true, true] rfl ?_
              exact pX8_chance_K47 hG _ _ _ _
          · refine rf_mask (lc2 := [none, none, none, none]) [false, false, false, false] rfl ?_
            exact pX8_chance_K25 hG _
def fX9_draw (p1 : Int32) (μ : ax_M) : Option (Int32 × ax_M) :=
  (ax_let (ax_wi μ 57 44 ((((μ.1 57 44) * (1103515245 : Int32)) + (12345 : Int32)) &&& (2147483647 : Int32))) (fun m1 => (Option.bind (ax_rm ((m1.1 57 44) >>> ((16 : Int32) &&& 31)) p1) (fun v2 => (some (v2, m1))))))
theorem okX9_draw (p1 : Int32) (μ : ax_M) : ax_Ok mX9_draw 0 ax_jI [.ref 57, .int p1] μ (fX9_draw p1 μ) := by
  refine ax_start (lc := [some (.ref 57), some (.int p1)]) 0 (by decide +kernel) rfl (Nat.le_of_ble_eq_true rfl) (fun x G hG => ?_)
  unfold fX9_draw
  refine rf_aload_n (n := 1) 0 dX9_draw_0 rfl rfl rfl ?_
  refine rf_aload_n (n := 2) 0 dX9_draw_1 rfl rfl rfl ?_
  refine rf_getI (n := 5) hG dX9_draw_2 flX9_384 ki_9_44 sS_57 kk_57 rfl ?_
  refine rf_ldcw (n := 8) dX9_draw_5 ctX9_387 rfl ?_
  refine rf_imul (n := 9) dX9_draw_8 rfl ?_
  refine rf_sipush (n := 12) (12345 : Int32) dX9_draw_9 ccsipush_12345 rfl ?_
  refine rf_iadd (n := 13) dX9_draw_12 rfl ?_
  refine rf_ldcw (n := 16) dX9_draw_13 ctX9_388 rfl ?_
  refine rf_iand (n := 17) dX9_draw_16 rfl ?_
  refine rf_pfI (n := 20) hG rfl dX9_draw_17 flX9_384 ki_9_44 nf_9_44 sS_57 kk_57 rfl (fun m1 => ?_)
  refine rf_aload_n (n := 21) 0 dX9_draw_20 rfl rfl rfl ?_
  refine rf_getI (n := 24) hG dX9_draw_21 flX9_384 ki_9_44 sS_57 kk_57 rfl ?_
  refine rf_bipush (n := 26) (16 : Int32) dX9_draw_24 ccbipush_16 rfl ?_
  refine rf_ishr (n := 27) dX9_draw_26 rfl ?_
  refine rf_iload_n (n := 28) 1 dX9_draw_27 rfl rfl rfl ?_
  refine rf_irem (n := 29) dX9_draw_28 rfl (fun v2 => ?_)
  exact rf_retI rfl dX9_draw_29
def fX9_chance_K30 (μ : ax_M) : Option (Int32 × ax_M) :=
  (some ((-1 : Int32), μ))
theorem pX9_chance_K30 {x : ax_X} {G : ax_G} (hG : ax_ok G) (μ : ax_M) : ax_Rf mX9_chance 7 x (ax_Z ax_jI x G) G 0 0 30 [none, none, none, none, none, none, none, none, none] [] μ (fX9_chance_K30 μ) := by
  unfold fX9_chance_K30
  refine rf_iconst (n := 31) (-1 : Int32) dX9_chance_30 cciconst_m1 rfl ?_
  exact rf_retI rfl dX9_chance_31
def fX9_chance_K294 (s0 : Int32) (μ : ax_M) : Option (Int32 × ax_M) :=
  (some (s0, μ))
theorem pX9_chance_K294 {x : ax_X} {G : ax_G} (hG : ax_ok G) (s0 : Int32) (μ : ax_M) : ax_Rf mX9_chance 7 x (ax_Z ax_jI x G) G 0 0 294 [none, none, none, none, none, none, none, none, none] [.int s0] μ (fX9_chance_K294 s0 μ) := by
  unfold fX9_chance_K294
  exact rf_retI rfl dX9_chance_294
def fX9_chance_B241 (l3 : Int32) (l4 : Int32) (l5 : Int32) (l6 : Int32) (r241 : Int32 → ax_M → Option (Int32 × ax_M)) (l7 : Int32) (μ : ax_M) : Option (Int32 × ax_M) :=
  (ax_bd (fX9_paths μ) (fun v5 m6 => (if v5 ≤ l7 then (if l3 = 0 then (fX9_chance_K294 l4 m6) else (if l3 = (1 : Int32) then (fX9_chance_K294 l5 m6) else (fX9_chance_K294 l6 m6))) else (Option.bind (ax_rd m6 83 24 l7) (fun v9 => (Option.bind (ax_wr m6 74 68 ((19 : Int32) + l7) v9) (fun m10 => (r241 (l7 + (1 : Int32)) m10))))))))
theorem pX9_chance_B241 {x : ax_X} {G : ax_G} (hG : ax_ok G) (l3 : Int32) (l4 : Int32) (l5 : Int32) (l6 : Int32) (r241 : Int32 → ax_M → Option (Int32 × ax_M)) (hr241 : ∀ (a7 : Int32) (μ : ax_M), ax_Rf mX9_chance 7 x (ax_Z ax_jI x G) G 0 0 241 [some (.ref 57), none, none, some (.int l3), some (.int l4), some (.int l5), some (.int l6), some (.int a7), none] [] μ (r241 a7 μ)) (l7 : Int32) (μ : ax_M) : ax_Rf mX9_chance 7 x (ax_Z ax_jI x G) G 0 0 241 [some (.ref 57), none, none, some (.int l3), some (.int l4), some (.int l5), some (.int l6), some (.int l7), none] [] μ (fX9_chance_B241 l3 l4 l5 l6 r241 l7 μ) := by
  unfold fX9_chance_B241
  refine rf_iload (n := 243) 7 dX9_chance_241 rfl rfl ?_
  refine rf_aload_n (n := 244) 0 dX9_chance_243 rfl rfl rfl ?_
  refine rf_cV0I (n := 247) hG (okX9_paths _) lVX9_236 hhX9_paths kk_57 sS_57 ⟨_, rfl, rfl⟩ dX9_chance_244 rfl (Nat.le_of_ble_eq_true rfl) (Nat.le_of_ble_eq_true rfl) (fun v5 m6 => ?_)
  refine rf_icmp_ge (tg := 273) (n := 250) dX9_chance_247 rfl rfl (fun c11 => ?_) (fun c11 => ?_)
  · refine rf_iload_n (n := 274) 3 dX9_chance_273 rfl rfl rfl ?_
    refine rf_if_ne (tg := 282) (n := 277) dX9_chance_274 rfl rfl (fun c8 => ?_) (fun c8 => ?_)
    · refine rf_iload_n (n := 283) 3 dX9_chance_282 rfl rfl rfl ?_
      refine rf_iconst (n := 284) (1 : Int32) dX9_chance_283 cciconst_1 rfl ?_
      refine rf_icmp_ne (tg := 292) (n := 287) dX9_chance_284 rfl rfl (fun c7 => ?_) (fun c7 => ?_)
      · refine rf_iload (n := 294) 6 dX9_chance_292 rfl rfl ?_
        refine rf_mask (lc2 := [none, none, none, none, none, none, none, none, none]) [false, true, true, false, false, false, false, false, true] rfl ?_
        exact pX9_chance_K294 hG _ _
      · refine rf_iload (n := 289) 5 dX9_chance_287 rfl rfl ?_
        refine rf_goto (tg := 294) dX9_chance_289 rfl ?_
        refine rf_mask (lc2 := [none, none, none, none, none, none, none, none, none]) [false, true, true, false, false, false, false, false, true] rfl ?_
        exact pX9_chance_K294 hG _ _
    · refine rf_iload (n := 279) 4 dX9_chance_277 rfl rfl ?_
      refine rf_goto (tg := 294) dX9_chance_279 rfl ?_
      refine rf_mask (lc2 := [none, none, none, none, none, none, none, none, none]) [false, true, true, false, false, false, false, false, true] rfl ?_
      exact pX9_chance_K294 hG _ _
  · refine rf_aload_n (n := 251) 0 dX9_chance_250 rfl rfl rfl ?_
    refine rf_getR (n := 254) rr_57_28 kk_74 hG dX9_chance_251 flX9_63 ki_9_28 sS_57 kk_57 rfl ?_
    refine rf_bipush (n := 256) (19 : Int32) dX9_chance_254 ccbipush_19 rfl ?_
    refine rf_iload (n := 258) 7 dX9_chance_256 rfl rfl ?_
    refine rf_iadd (n := 259) dX9_chance_258 rfl ?_
    refine rf_aload_n (n := 260) 0 dX9_chance_259 rfl rfl rfl ?_
    refine rf_getR (n := 263) rr_57_45 kk_83 hG dX9_chance_260 flX9_91 ki_9_45 sS_57 kk_57 rfl ?_
    refine rf_iload (n := 265) 7 dX9_chance_263 rfl rfl ?_
    refine rf_iald (n := 266) hG dX9_chance_265 sS_83 kk_83 rfl (fun v9 => ?_)
    refine rf_iast (n := 267) hG dX9_chance_266 sS_74 kk_74 rfl (fun m10 => ?_)
    refine rf_iinc (lc2 := [some (.ref 57), none, none, some (.int l3), some (.int l4), some (.int l5), some (.int l6), some (.int (l7 + (1 : Int32))), none]) (n := 270) (w := (1 : Int32)) 7 dX9_chance_267 rfl rfl rfl (Nat.le_of_ble_eq_true rfl) rfl rfl ?_
    refine rf_goto (tg := 241) dX9_chance_270 rfl ?_
    exact hr241 _ _
theorem pX9_chance_L241 {x : ax_X} {G : ax_G} (hG : ax_ok G) (l3 : Int32) (l4 : Int32) (l5 : Int32) (l6 : Int32) (n : Nat) (a7 : Int32) (μ : ax_M) : ax_Rf mX9_chance 7 x (ax_Z ax_jI x G) G 0 0 241 [some (.ref 57), none, none, some (.int l3), some (.int l4), some (.int l5), some (.int l6), some (.int a7), none] [] μ (ax_lp1 (fX9_chance_B241 l3 l4 l5 l6) n a7 μ) :=
  rf_lp1 (P := fun a7 μ t => ax_Rf mX9_chance 7 x (ax_Z ax_jI x G) G 0 0 241 [some (.ref 57), none, none, some (.int l3), some (.int l4), some (.int l5), some (.int l6), some (.int a7), none] [] μ t) (fun _ _ => rf_none) (fun rc hrc a7 μ => pX9_chance_B241 hG l3 l4 l5 l6 rc hrc a7 μ) n a7 μ
def fX9_chance_K230 (l2 : Int32) (l3 : Int32) (l4 : Int32) (l5 : Int32) (l7 : Int32) (s0 : Int32) (r98 : Int32 → Int32 → Int32 → Int32 → ax_M → Option (Int32 × ax_M)) (μ : ax_M) : Option (Int32 × ax_M) :=
  (r98 l4 l5 s0 (l7 + (1 : Int32)) μ)
theorem pX9_chance_K230 {x : ax_X} {G : ax_G} (hG : ax_ok G) (l2 : Int32) (l3 : Int32) (l4 : Int32) (l5 : Int32) (l7 : Int32) (s0 : Int32) (r98 : Int32 → Int32 → Int32 → Int32 → ax_M → Option (Int32 × ax_M)) (hr98 : ∀ (a4 : Int32) (a5 : Int32) (a6 : Int32) (a7 : Int32) (μ : ax_M), ax_Rf mX9_chance 7 x (ax_Z ax_jI x G) G 0 0 98 [some (.ref 57), none, some (.int l2), some (.int l3), some (.int a4), some (.int a5), some (.int a6), some (.int a7), none] [] μ (r98 a4 a5 a6 a7 μ)) (μ : ax_M) : ax_Rf mX9_chance 7 x (ax_Z ax_jI x G) G 0 0 230 [some (.ref 57), none, some (.int l2), some (.int l3), some (.int l4), some (.int l5), none, some (.int l7), none] [.int s0] μ (fX9_chance_K230 l2 l3 l4 l5 l7 s0 r98 μ) := by
  unfold fX9_chance_K230
  refine rf_istore (lc2 := [some (.ref 57), none, some (.int l2), some (.int l3), some (.int l4), some (.int l5), some (.int s0), some (.int l7), none]) (n := 232) 6 dX9_chance_230 rfl (Nat.le_of_ble_eq_true rfl) rfl rfl ?_
  refine rf_iinc (lc2 := [some (.ref 57), none, some (.int l2), some (.int l3), some (.int l4), some (.int l5), some (.int s0), some (.int (l7 + (1 : Int32))), none]) (n := 235) (w := (1 : Int32)) 7 dX9_chance_232 rfl rfl rfl (Nat.le_of_ble_eq_true rfl) rfl rfl ?_
  refine rf_goto (tg := 98) dX9_chance_235 rfl ?_
  exact hr98 _ _ _ _ _
def fX9_chance_K214 (l2 : Int32) (l3 : Int32) (l4 : Int32) (l5 : Int32) (l6 : Int32) (l7 : Int32) (s0 : Int32) (r98 : Int32 → Int32 → Int32 → Int32 → ax_M → Option (Int32 × ax_M)) (μ : ax_M) : Option (Int32 × ax_M) :=
  (if s0 ≤ l6 then (fX9_chance_K230 l2 l3 l4 l5 l7 l6 r98 μ) else (fX9_chance_K230 l2 l3 l4 l5 l7 s0 r98 μ))
theorem pX9_chance_K214 {x : ax_X} {G : ax_G} (hG : ax_ok G) (l2 : Int32) (l3 : Int32) (l4 : Int32) (l5 : Int32) (l6 : Int32) (l7 : Int32) (s0 : Int32) (r98 : Int32 → Int32 → Int32 → Int32 → ax_M → Option (Int32 × ax_M)) (hr98 : ∀ (a4 : Int32) (a5 : Int32) (a6 : Int32) (a7 : Int32) (μ : ax_M), ax_Rf mX9_chance 7 x (ax_Z ax_jI x G) G 0 0 98 [some (.ref 57), none, some (.int l2), some (.int l3), some (.int a4), some (.int a5), some (.int a6), some (.int a7), none] [] μ (r98 a4 a5 a6 a7 μ)) (μ : ax_M) : ax_Rf mX9_chance 7 x (ax_Z ax_jI x G) G 0 0 214 [some (.ref 57), none, some (.int l2), some (.int l3), some (.int l4), some (.int l5), some (.int l6), some (.int l7), none] [.int s0] μ (fX9_chance_K214 l2 l3 l4 l5 l6 l7 s0 r98 μ) := by
  unfold fX9_chance_K214
  refine rf_istore (lc2 := [some (.ref 57), none, some (.int l2), some (.int l3), some (.int l4), some (.int l5), some (.int l6), some (.int l7), some (.int s0)]) (n := 216) 8 dX9_chance_214 rfl (Nat.le_of_ble_eq_true rfl) rfl rfl ?_
  refine rf_iload (n := 218) 8 dX9_chance_216 rfl rfl ?_
  refine rf_iload (n := 220) 6 dX9_chance_218 rfl rfl ?_
  refine rf_icmp_le (tg := 228) (n := 223) dX9_chance_220 rfl rfl (fun c18 => ?_) (fun c18 => ?_)
  · refine rf_iload (n := 230) 6 dX9_chance_228 rfl rfl ?_
    refine rf_mask (lc2 := [some (.ref 57), none, some (.int l2), some (.int l3), some (.int l4), some (.int l5), none, some (.int l7), none]) [true, true, true, true, true, true, false, true, false] rfl ?_
    exact pX9_chance_K230 hG _ _ _ _ _ _ r98 hr98 _
  · refine rf_iload (n := 225) 8 dX9_chance_223 rfl rfl ?_
    refine rf_goto (tg := 230) dX9_chance_225 rfl ?_
    refine rf_mask (lc2 := [some (.ref 57), none, some (.int l2), some (.int l3), some (.int l4), some (.int l5), none, some (.int l7), none]) [true, true, true, true, true, true, false, true, false] rfl ?_
    exact pX9_chance_K230 hG _ _ _ _ _ _ r98 hr98 _
def fX9_chance_K198 (l2 : Int32) (l3 : Int32) (l4 : Int32) (l6 : Int32) (l7 : Int32) (s0 : Int32) (s1 : Int32) (r98 : Int32 → Int32 → Int32 → Int32 → ax_M → Option (Int32 × ax_M)) (μ : ax_M) : Option (Int32 × ax_M) :=
  (ax_let (s0 + s1) (fun v17 => (if l3 = (2 : Int32) then (ax_bd (fX9_leastNow μ) (fun v19 m20 => (fX9_chance_K214 l2 l3 l4 v17 l6 l7 v19 r98 m20))) else (fX9_chance_K214 l2 l3 l4 v17 l6 l7 (0 : Int32) r98 μ))))
theorem pX9_chance_K198 {x : ax_X} {G : ax_G} (hG : ax_ok G) (l2 : Int32) (l3 : Int32) (l4 : Int32) (l6 : Int32) (l7 : Int32) (s0 : Int32) (s1 : Int32) (r98 : Int32 → Int32 → Int32 → Int32 → ax_M → Option (Int32 × ax_M)) (hr98 : ∀ (a4 : Int32) (a5 : Int32) (a6 : Int32) (a7 : Int32) (μ : ax_M), ax_Rf mX9_chance 7 x (ax_Z ax_jI x G) G 0 0 98 [some (.ref 57), none, some (.int l2), some (.int l3), some (.int a4), some (.int a5), some (.int a6), some (.int a7), none] [] μ (r98 a4 a5 a6 a7 μ)) (μ : ax_M) : ax_Rf mX9_chance 7 x (ax_Z ax_jI x G) G 0 0 198 [some (.ref 57), none, some (.int l2), some (.int l3), some (.int l4), none, some (.int l6), some (.int l7), none] [.int s1, .int s0] μ (fX9_chance_K198 l2 l3 l4 l6 l7 s0 s1 r98 μ) := by
  unfold fX9_chance_K198
  refine rf_iadd (n := 199) dX9_chance_198 rfl ?_
  refine rf_letI (fun v17 => ?_)
  refine rf_istore (lc2 := [some (.ref 57), none, some (.int l2), some (.int l3), some (.int l4), some (.int v17), some (.int l6), some (.int l7), none]) (n := 201) 5 dX9_chance_199 rfl (Nat.le_of_ble_eq_true rfl) rfl rfl ?_
  refine rf_iload_n (n := 202) 3 dX9_chance_201 rfl rfl rfl ?_
  refine rf_iconst (n := 203) (2 : Int32) dX9_chance_202 cciconst_2 rfl ?_
  refine rf_icmp_ne (tg := 213) (n := 206) dX9_chance_203 rfl rfl (fun c21 => ?_) (fun c21 => ?_)
  · refine rf_iconst (n := 214) (0 : Int32) dX9_chance_213 cciconst_0 rfl ?_
    exact pX9_chance_K214 hG _ _ _ _ _ _ _ r98 hr98 _
  · refine rf_aload_n (n := 207) 0 dX9_chance_206 rfl rfl rfl ?_
    refine rf_cV0I (n := 210) hG (okX9_leastNow _) lVX9_366 hhX9_leastNow kk_57 sS_57 ⟨_, rfl, rfl⟩ dX9_chance_207 rfl (Nat.le_of_ble_eq_true rfl) (Nat.le_of_ble_eq_true rfl) (fun v19 m20 => ?_)
    refine rf_goto (tg := 214) dX9_chance_210 rfl ?_
    exact pX9_chance_K214 hG _ _ _ _ _ _ _ r98 hr98 _
def fX9_chance_K181 (l2 : Int32) (l3 : Int32) (l5 : Int32) (l6 : Int32) (l7 : Int32) (s0 : Int32) (s1 : Int32) (r98 : Int32 → Int32 → Int32 → Int32 → ax_M → Option (Int32 × ax_M)) (μ : ax_M) : Option (Int32 × ax_M) :=
  (ax_let (s0 + s1) (fun v16 => (if (μ.1 57 35) = 0 then (fX9_chance_K198 l2 l3 v16 l6 l7 l5 (0 : Int32) r98 μ) else (fX9_chance_K198 l2 l3 v16 l6 l7 l5 (1 : Int32) r98 μ))))
theorem pX9_chance_K181 {x : ax_X} {G : ax_G} (hG : ax_ok G) (l2 : Int32) (l3 : Int32) (l5 : Int32) (l6 : Int32) (l7 : Int32) (s0 : Int32) (s1 : Int32) (r98 : Int32 → Int32 → Int32 → Int32 → ax_M → Option (Int32 × ax_M)) (hr98 : ∀ (a4 : Int32) (a5 : Int32) (a6 : Int32) (a7 : Int32) (μ : ax_M), ax_Rf mX9_chance 7 x (ax_Z ax_jI x G) G 0 0 98 [some (.ref 57), none, some (.int l2), some (.int l3), some (.int a4), some (.int a5), some (.int a6), some (.int a7), none] [] μ (r98 a4 a5 a6 a7 μ)) (μ : ax_M) : ax_Rf mX9_chance 7 x (ax_Z ax_jI x G) G 0 0 181 [some (.ref 57), none, some (.int l2), some (.int l3), none, some (.int l5), some (.int l6), some (.int l7), none] [.int s1, .int s0] μ (fX9_chance_K181 l2 l3 l5 l6 l7 s0 s1 r98 μ) := by
  unfold fX9_chance_K181
  refine rf_iadd (n := 182) dX9_chance_181 rfl ?_
  refine rf_letI (fun v16 => ?_)
  refine rf_istore (lc2 := [some (.ref 57), none, some (.int l2), some (.int l3), some (.int v16), some (.int l5), some (.int l6), some (.int l7), none]) (n := 184) 4 dX9_chance_182 rfl (Nat.le_of_ble_eq_true rfl) rfl rfl ?_
  refine rf_iload (n := 186) 5 dX9_chance_184 rfl rfl ?_
  refine rf_aload_n (n := 187) 0 dX9_chance_186 rfl rfl rfl ?_
  refine rf_getI (n := 190) hG dX9_chance_187 flX9_303 ki_9_35 sS_57 kk_57 rfl ?_
  refine rf_if_eq (tg := 197) (n := 193) dX9_chance_190 rfl rfl (fun c22 => ?_) (fun c22 => ?_)
  · refine rf_iconst (n := 198) (0 : Int32) dX9_chance_197 cciconst_0 rfl ?_
    refine rf_mask (lc2 := [some (.ref 57), none, some (.int l2), some (.int l3), some (.int v16), none, some (.int l6), some (.int l7), none]) [true, true, true, true, true, false, true, true, true] rfl ?_
    exact pX9_chance_K198 hG _ _ _ _ _ _ _ r98 hr98 _
  · refine rf_iconst (n := 194) (1 : Int32) dX9_chance_193 cciconst_1 rfl ?_
    refine rf_goto (tg := 198) dX9_chance_194 rfl ?_
    refine rf_mask (lc2 := [some (.ref 57), none, some (.int l2), some (.int l3), some (.int v16), none, some (.int l6), some (.int l7), none]) [true, true, true, true, true, false, true, true, true] rfl ?_
    exact pX9_chance_K198 hG _ _ _ _ _ _ _ r98 hr98 _
def fX9_chance_B107 (l2 : Int32) (l3 : Int32) (l4 : Int32) (l5 : Int32) (l6 : Int32) (l7 : Int32) (r98 : Int32 → Int32 → Int32 → Int32 → ax_M → Option (Int32 × ax_M)) (r107 : Int32 → ax_M → Option (Int32 × ax_M)) (l8 : Int32) (μ : ax_M) : Option (Int32 × ax_M) :=
  (ax_bd (fX9_paths μ) (fun v12 m13 => (if v12 ≤ l8 then (ax_bd (fX9_isGood m13) (fun v14 m15 => (if v14 = 0 then (fX9_chance_K181 l2 l3 l5 l6 l7 l4 (0 : Int32) r98 m15) else (fX9_chance_K181 l2 l3 l5 l6 l7 l4 (1 : Int32) r98 m15)))) else (Option.bind (ax_rd m13 74 68 ((43 : Int32) + l8)) (fun v24 => (Option.bind (ax_rd m13 83 24 l8) (fun v25 => (Option.bind (ax_rd m13 74 68 ((43 : Int32) + l8)) (fun v26 => (ax_bd (fX9_draw ((v25 - v26) + (1 : Int32)) m13) (fun v27 m28 => (Option.bind (ax_wr m28 74 68 ((19 : Int32) + l8) (v24 + v27)) (fun m29 => (r107 (l8 + (1 : Int32)) m29))))))))))))))
theorem pX9_chance_B107 {x : ax_X} {G : ax_G} (hG : ax_ok G) (l2 : Int32) (l3 : Int32) (l4 : Int32) (l5 : Int32) (l6 : Int32) (l7 : Int32) (r98 : Int32 → Int32 → Int32 → Int32 → ax_M → Option (Int32 × ax_M)) (hr98 : ∀ (a4 : Int32) (a5 : Int32) (a6 : Int32) (a7 : Int32) (μ : ax_M), ax_Rf mX9_chance 7 x (ax_Z ax_jI x G) G 0 0 98 [some (.ref 57), none, some (.int l2), some (.int l3), some (.int a4), some (.int a5), some (.int a6), some (.int a7), none] [] μ (r98 a4 a5 a6 a7 μ)) (r107 : Int32 → ax_M → Option (Int32 × ax_M)) (hr107 : ∀ (a8 : Int32) (μ : ax_M), ax_Rf mX9_chance 7 x (ax_Z ax_jI x G) G 0 0 107 [some (.ref 57), none, some (.int l2), some (.int l3), some (.int l4), some (.int l5), some (.int l6), some (.int l7), some (.int a8)] [] μ (r107 a8 μ)) (l8 : Int32) (μ : ax_M) : ax_Rf mX9_chance 7 x (ax_Z ax_jI x G) G 0 0 107 [some (.ref 57), none, some (.int l2), some (.int l3), some (.int l4), some (.int l5), some (.int l6), some (.int l7), some (.int l8)] [] μ (fX9_chance_B107 l2 l3 l4 l5 l6 l7 r98 r107 l8 μ) := by
  unfold fX9_chance_B107
  refine rf_iload (n := 109) 8 dX9_chance_107 rfl rfl ?_
  refine rf_aload_n (n := 110) 0 dX9_chance_109 rfl rfl rfl ?_
  refine rf_cV0I (n := 113) hG (okX9_paths _) lVX9_236 hhX9_paths kk_57 sS_57 ⟨_, rfl, rfl⟩ dX9_chance_110 rfl (Nat.le_of_ble_eq_true rfl) (Nat.le_of_ble_eq_true rfl) (fun v12 m13 => ?_)
  refine rf_icmp_ge (tg := 167) (n := 116) dX9_chance_113 rfl rfl (fun c30 => ?_) (fun c30 => ?_)
  · refine rf_iload (n := 169) 4 dX9_chance_167 rfl rfl ?_
    refine rf_aload_n (n := 170) 0 dX9_chance_169 rfl rfl rfl ?_
    refine rf_cV0I (n := 173) hG (okX9_isGood _) lVX9_328 hhX9_isGood kk_57 sS_57 ⟨_, rfl, rfl⟩ dX9_chance_170 rfl (Nat.le_of_ble_eq_true rfl) (Nat.le_of_ble_eq_true rfl) (fun v14 m15 => ?_)
    refine rf_if_eq (tg := 180) (n := 176) dX9_chance_173 rfl rfl (fun c23 => ?_) (fun c23 => ?_)
    · refine rf_iconst (n := 181) (0 : Int32) dX9_chance_180 cciconst_0 rfl ?_
      refine rf_mask (lc2 := [some (.ref 57), none, some (.int l2), some (.int l3), none, some (.int l5), some (.int l6), some (.int l7), none]) [true, true, true, true, false, true, true, true, false] rfl ?_
      exact pX9_chance_K181 hG _ _ _ _ _ _ _ r98 hr98 _
    · refine rf_iconst (n := 177) (1 : Int32) dX9_chance_176 cciconst_1 rfl ?_
      refine rf_goto (tg := 181) dX9_chance_177 rfl ?_
      refine rf_mask (lc2 := [some (.ref 57), none, some (.int l2), some (.int l3), none, some (.int l5), some (.int l6), some (.int l7), none]) [true, true, true, true, false, true, true, true, false] rfl ?_
      exact pX9_chance_K181 hG _ _ _ _ _ _ _ r98 hr98 _
  · refine rf_aload_n (n := 117) 0 dX9_chance_116 rfl rfl rfl ?_
    refine rf_getR (n := 120) rr_57_28 kk_74 hG dX9_chance_117 flX9_63 ki_9_28 sS_57 kk_57 rfl ?_
    refine rf_bipush (n := 122) (19 : Int32) dX9_chance_120 ccbipush_19 rfl ?_
    refine rf_iload (n := 124) 8 dX9_chance_122 rfl rfl ?_
    refine rf_iadd (n := 125) dX9_chance_124 rfl ?_
    refine rf_aload_n (n := 126) 0 dX9_chance_125 rfl rfl rfl ?_
    refine rf_getR (n := 129) rr_57_28 kk_74 hG dX9_chance_126 flX9_63 ki_9_28 sS_57 kk_57 rfl ?_
    refine rf_bipush (n := 131) (43 : Int32) dX9_chance_129 ccbipush_43 rfl ?_
    refine rf_iload (n := 133) 8 dX9_chance_131 rfl rfl ?_
    refine rf_iadd (n := 134) dX9_chance_133 rfl ?_
    refine rf_iald (n := 135) hG dX9_chance_134 sS_74 kk_74 rfl (fun v24 => ?_)
    refine rf_aload_n (n := 136) 0 dX9_chance_135 rfl rfl rfl ?_
    refine rf_aload_n (n := 137) 0 dX9_chance_136 rfl rfl rfl ?_
    refine rf_getR (n := 140) rr_57_45 kk_83 hG dX9_chance_137 flX9_91 ki_9_45 sS_57 kk_57 rfl ?_
    refine rf_iload (n := 142) 8 dX9_chance_140 rfl rfl ?_
    refine rf_iald (n := 143) hG dX9_chance_142 sS_83 kk_83 rfl (fun v25 => ?_)
    refine rf_aload_n (n := 144) 0 dX9_chance_143 rfl rfl rfl ?_
    refine rf_getR (n := 147) rr_57_28 kk_74 hG dX9_chance_144 flX9_63 ki_9_28 sS_57 kk_57 rfl ?_
    refine rf_bipush (n := 149) (43 : Int32) dX9_chance_147 ccbipush_43 rfl ?_
    refine rf_iload (n := 151) 8 dX9_chance_149 rfl rfl ?_
    refine rf_iadd (n := 152) dX9_chance_151 rfl ?_
    refine rf_iald (n := 153) hG dX9_chance_152 sS_74 kk_74 rfl (fun v26 => ?_)
    refine rf_isub (n := 154) dX9_chance_153 rfl ?_
    refine rf_iconst (n := 155) (1 : Int32) dX9_chance_154 cciconst_1 rfl ?_
    refine rf_iadd (n := 156) dX9_chance_155 rfl ?_
    refine rf_cV1I (n := 159) hG (okX9_draw _ _) lVX9_389 hhX9_draw kk_57 sS_57 ⟨_, rfl, rfl⟩ dX9_chance_156 rfl (Nat.le_of_ble_eq_true rfl) (Nat.le_of_ble_eq_true rfl) (fun v27 m28 => ?_)
    refine rf_iadd (n := 160) dX9_chance_159 rfl ?_
    refine rf_iast (n := 161) hG dX9_chance_160 sS_74 kk_74 rfl (fun m29 => ?_)
    refine rf_iinc (lc2 := [some (.ref 57), none, some (.int l2), some (.int l3), some (.int l4), some (.int l5), some (.int l6), some (.int l7), some (.int (l8 + (1 : Int32)))]) (n := 164) (w := (1 : Int32)) 8 dX9_chance_161 rfl rfl rfl (Nat.le_of_ble_eq_true rfl) rfl rfl ?_
    refine rf_goto (tg := 107) dX9_chance_164 rfl ?_
    exact hr107 _ _
theorem pX9_chance_L107 {x : ax_X} {G : ax_G} (hG : ax_ok G) (l2 : Int32) (l3 : Int32) (l4 : Int32) (l5 : Int32) (l6 : Int32) (l7 : Int32) (r98 : Int32 → Int32 → Int32 → Int32 → ax_M → Option (Int32 × ax_M)) (hr98 : ∀ (a4 : Int32) (a5 : Int32) (a6 : Int32) (a7 : Int32) (μ : ax_M), ax_Rf mX9_chance 7 x (ax_Z ax_jI x G) G 0 0 98 [some (.ref 57), none, some (.int l2), some (.int l3), some (.int a4), some (.int a5), some (.int a6), some (.int a7), none] [] μ (r98 a4 a5 a6 a7 μ)) (n : Nat) (a8 : Int32) (μ : ax_M) : ax_Rf mX9_chance 7 x (ax_Z ax_jI x G) G 0 0 107 [some (.ref 57), none, some (.int l2), some (.int l3), some (.int l4), some (.int l5), some (.int l6), some (.int l7), some (.int a8)] [] μ (ax_lp1 (fX9_chance_B107 l2 l3 l4 l5 l6 l7 r98) n a8 μ) :=
  rf_lp1 (P := fun a8 μ t => ax_Rf mX9_chance 7 x (ax_Z ax_jI x G) G 0 0 107 [some (.ref 57), none, some (.int l2), some (.int l3), some (.int l4), some (.int l5), some (.int l6), some (.int l7), some (.int a8)] [] μ t) (fun _ _ => rf_none) (fun rc hrc a8 μ => pX9_chance_B107 hG l2 l3 l4 l5 l6 l7 r98 hr98 rc hrc a8 μ) n a8 μ
def fX9_chance_B98 (l2 : Int32) (l3 : Int32) (r98 : Int32 → Int32 → Int32 → Int32 → ax_M → Option (Int32 × ax_M)) (l4 : Int32) (l5 : Int32) (l6 : Int32) (l7 : Int32) (μ : ax_M) : Option (Int32 × ax_M) :=
  (if l2 ≤ l7 then (ax_lp1 (fX9_chance_B241 l3 l4 l5 l6) ax_FU (0 : Int32) μ) else (ax_lp1 (fX9_chance_B107 l2 l3 l4 l5 l6 l7 r98) ax_FU (0 : Int32) μ))
theorem pX9_chance_B98 {x : ax_X} {G : ax_G} (hG : ax_ok G) (l2 : Int32) (l3 : Int32) (r98 : Int32 → Int32 → Int32 → Int32 → ax_M → Option (Int32 × ax_M)) (hr98 : ∀ (a4 : Int32) (a5 : Int32) (a6 : Int32) (a7 : Int32) (μ : ax_M), ax_Rf mX9_chance 7 x (ax_Z ax_jI x G) G 0 0 98 [some (.ref 57), none, some (.int l2), some (.int l3), some (.int a4), some (.int a5), some (.int a6), some (.int a7), none] [] μ (r98 a4 a5 a6 a7 μ)) (l4 : Int32) (l5 : Int32) (l6 : Int32) (l7 : Int32) (μ : ax_M) : ax_Rf mX9_chance 7 x (ax_Z ax_jI x G) G 0 0 98 [some (.ref 57), none, some (.int l2), some (.int l3), some (.int l4), some (.int l5), some (.int l6), some (.int l7), none] [] μ (fX9_chance_B98 l2 l3 r98 l4 l5 l6 l7 μ) := by
  unfold fX9_chance_B98
  refine rf_iload (n := 100) 7 dX9_chance_98 rfl rfl ?_
  refine rf_iload_n (n := 101) 2 dX9_chance_100 rfl rfl rfl ?_
  refine rf_icmp_ge (tg := 238) (n := 104) dX9_chance_101 rfl rfl (fun c31 => ?_) (fun c31 => ?_)
  · refine rf_iconst (n := 239) (0 : Int32) dX9_chance_238 cciconst_0 rfl ?_
    refine rf_istore (lc2 := [some (.ref 57), none, some (.int l2), some (.int l3), some (.int l4), some (.int l5), some (.int l6), some (.int (0 : Int32)), none]) (n := 241) 7 dX9_chance_239 rfl (Nat.le_of_ble_eq_true rfl) rfl rfl ?_
    refine rf_mask (lc2 := [some (.ref 57), none, none, some (.int l3), some (.int l4), some (.int l5), some (.int l6), some (.int (0 : Int32)), none]) [true, true, false, true, true, true, true, true, true] rfl ?_
    exact pX9_chance_L241 hG _ _ _ _ _ _ _
  · refine rf_iconst (n := 105) (0 : Int32) dX9_chance_104 cciconst_0 rfl ?_
    refine rf_istore (lc2 := [some (.ref 57), none, some (.int l2), some (.int l3), some (.int l4), some (.int l5), some (.int l6), some (.int l7), some (.int (0 : Int32))]) (n := 107) 8 dX9_chance_105 rfl (Nat.le_of_ble_eq_true rfl) rfl rfl ?_
    exact pX9_chance_L107 hG _ _ _ _ _ _ r98 hr98 _ _ _
theorem pX9_chance_L98 {x : ax_X} {G : ax_G} (hG : ax_ok G) (l2 : Int32) (l3 : Int32) (n : Nat) (a4 : Int32) (a5 : Int32) (a6 : Int32) (a7 : Int32) (μ : ax_M) : ax_Rf mX9_chance 7 x (ax_Z ax_jI x G) G 0 0 98 [some (.ref 57), none, some (.int l2), some (.int l3), some (.int a4), some (.int a5), some (.int a6), some (.int a7), none] [] μ (ax_lp4 (fX9_chance_B98 l2 l3) n a4 a5 a6 a7 μ) :=
  rf_lp4 (P := fun a4 a5 a6 a7 μ t => ax_Rf mX9_chance 7 x (ax_Z ax_jI x G) G 0 0 98 [some (.ref 57), none, some (.int l2), some (.int l3), some (.int a4), some (.int a5), some (.int a6), some (.int a7), none] [] μ t) (fun _ _ _ _ _ => rf_none) (fun rc hrc a4 a5 a6 a7 μ => pX9_chance_B98 hG l2 l3 rc hrc a4 a5 a6 a7 μ) n a4 a5 a6 a7 μ
def fX9_chance_B54 (l2 : Int32) (l3 : Int32) (r54 : Int32 → ax_M → Option (Int32 × ax_M)) (l4 : Int32) (μ : ax_M) : Option (Int32 × ax_M) :=
  (ax_bd (fX9_paths μ) (fun v3 m4 => (if v3 ≤ l4 then (ax_lp4 (fX9_chance_B98 l2 l3) ax_FU (0 : Int32) (0 : Int32) (0 : Int32) (0 : Int32) m4) else (Option.bind (ax_rd m4 74 68 ((19 : Int32) + l4)) (fun v32 => (Option.bind (ax_wr m4 83 24 l4 v32) (fun m33 => (r54 (l4 + (1 : Int32)) m33))))))))
theorem pX9_chance_B54 {x : ax_X} {G : ax_G} (hG : ax_ok G) (l2 : Int32) (l3 : Int32) (r54 : Int32 → ax_M → Option (Int32 × ax_M)) (hr54 : ∀ (a4 : Int32) (μ : ax_M), ax_Rf mX9_chance 7 x (ax_Z ax_jI x G) G 0 0 54 [some (.ref 57), none, some (.int l2), some (.int l3), some (.int a4), none, none, none, none] [] μ (r54 a4 μ)) (l4 : Int32) (μ : ax_M) : ax_Rf mX9_chance 7 x (ax_Z ax_jI x G) G 0 0 54 [some (.ref 57), none, some (.int l2), some (.int l3), some (.int l4), none, none, none, none] [] μ (fX9_chance_B54 l2 l3 r54 l4 μ) := by
  unfold fX9_chance_B54
  refine rf_iload (n := 56) 4 dX9_chance_54 rfl rfl ?_
  refine rf_aload_n (n := 57) 0 dX9_chance_56 rfl rfl rfl ?_
  refine rf_cV0I (n := 60) hG (okX9_paths _) lVX9_236 hhX9_paths kk_57 sS_57 ⟨_, rfl, rfl⟩ dX9_chance_57 rfl (Nat.le_of_ble_eq_true rfl) (Nat.le_of_ble_eq_true rfl) (fun v3 m4 => ?_)
  refine rf_icmp_ge (tg := 86) (n := 63) dX9_chance_60 rfl rfl (fun c34 => ?_) (fun c34 => ?_)
  · refine rf_iconst (n := 87) (0 : Int32) dX9_chance_86 cciconst_0 rfl ?_
    refine rf_istore (lc2 := [some (.ref 57), none, some (.int l2), some (.int l3), some (.int (0 : Int32)), none, none, none, none]) (n := 89) 4 dX9_chance_87 rfl (Nat.le_of_ble_eq_true rfl) rfl rfl ?_
    refine rf_iconst (n := 90) (0 : Int32) dX9_chance_89 cciconst_0 rfl ?_
    refine rf_istore (lc2 := [some (.ref 57), none, some (.int l2), some (.int l3), some (.int (0 : Int32)), some (.int (0 : Int32)), none, none, none]) (n := 92) 5 dX9_chance_90 rfl (Nat.le_of_ble_eq_true rfl) rfl rfl ?_
    refine rf_iconst (n := 93) (0 : Int32) dX9_chance_92 cciconst_0 rfl ?_
    refine rf_istore (lc2 := [some (.ref 57), none, some (.int l2), some (.int l3), some (.int (0 : Int32)), some (.int (0 : Int32)), some (.int (0 : Int32)), none, none]) (n := 95) 6 dX9_chance_93 rfl (Nat.le_of_ble_eq_true rfl) rfl rfl ?_
    refine rf_iconst (n := 96) (0 : Int32) dX9_chance_95 cciconst_0 rfl ?_
    refine rf_istore (lc2 := [some (.ref 57), none, some (.int l2), some (.int l3), some (.int (0 : Int32)), some (.int (0 : Int32)), some (.int (0 : Int32)), some (.int (0 : Int32)), none]) (n := 98) 7 dX9_chance_96 rfl (Nat.le_of_ble_eq_true rfl) rfl rfl ?_
    exact pX9_chance_L98 hG _ _ _ _ _ _ _ _
  · refine rf_aload_n (n := 64) 0 dX9_chance_63 rfl rfl rfl ?_
    refine rf_getR (n := 67) rr_57_45 kk_83 hG dX9_chance_64 flX9_91 ki_9_45 sS_57 kk_57 rfl ?_
    refine rf_iload (n := 69) 4 dX9_chance_67 rfl rfl ?_
    refine rf_aload_n (n := 70) 0 dX9_chance_69 rfl rfl rfl ?_
    refine rf_getR (n := 73) rr_57_28 kk_74 hG dX9_chance_70 flX9_63 ki_9_28 sS_57 kk_57 rfl ?_
    refine rf_bipush (n := 75) (19 : Int32) dX9_chance_73 ccbipush_19 rfl ?_
    refine rf_iload (n := 77) 4 dX9_chance_75 rfl rfl ?_
    refine rf_iadd (n := 78) dX9_chance_77 rfl ?_
    refine rf_iald (n := 79) hG dX9_chance_78 sS_74 kk_74 rfl (fun v32 => ?_)
    refine rf_iast (n := 80) hG dX9_chance_79 sS_83 kk_83 rfl (fun m33 => ?_)
    refine rf_iinc (lc2 := [some (.ref 57), none, some (.int l2), some (.int l3), some (.int (l4 + (1 : Int32))), none, none, none, none]) (n := 83) (w := (1 : Int32)) 4 dX9_chance_80 rfl rfl rfl (Nat.le_of_ble_eq_true rfl) rfl rfl ?_
    refine rf_goto (tg := 54) dX9_chance_83 rfl ?_
    exact hr54 _ _
theorem pX9_chance_L54 {x : ax_X} {G : ax_G} (hG : ax_ok G) (l2 : Int32) (l3 : Int32) (n : Nat) (a4 : Int32) (μ : ax_M) : ax_Rf mX9_chance 7 x (ax_Z ax_jI x G) G 0 0 54 [some (.ref 57), none, some (.int l2), some (.int l3), some (.int a4), none, none, none, none] [] μ (ax_lp1 (fX9_chance_B54 l2 l3) n a4 μ) :=
  rf_lp1 (P := fun a4 μ t => ax_Rf mX9_chance 7 x (ax_Z ax_jI x G) G 0 0 54 [some (.ref 57), none, some (.int l2), some (.int l3), some (.int a4), none, none, none, none] [] μ t) (fun _ _ => rf_none) (fun rc hrc a4 μ => pX9_chance_B54 hG l2 l3 rc hrc a4 μ) n a4 μ
def fX9_chance_K48 (l2 : Int32) (l3 : Int32) (s1 : Int32) (μ : ax_M) : Option (Int32 × ax_M) :=
  (ax_let (ax_wi μ 57 44 s1) (fun m2 => (ax_lp1 (fX9_chance_B54 l2 l3) ax_FU (0 : Int32) m2)))
theorem pX9_chance_K48 {x : ax_X} {G : ax_G} (hG : ax_ok G) (l2 : Int32) (l3 : Int32) (s1 : Int32) (μ : ax_M) : ax_Rf mX9_chance 7 x (ax_Z ax_jI x G) G 0 0 48 [some (.ref 57), none, some (.int l2), some (.int l3), none, none, none, none, none] [.int s1, .ref 57] μ (fX9_chance_K48 l2 l3 s1 μ) := by
  unfold fX9_chance_K48
  refine rf_pfI (n := 51) hG rfl dX9_chance_48 flX9_384 ki_9_44 nf_9_44 sS_57 kk_57 rfl (fun m2 => ?_)
  refine rf_iconst (n := 52) (0 : Int32) dX9_chance_51 cciconst_0 rfl ?_
  refine rf_istore (lc2 := [some (.ref 57), none, some (.int l2), some (.int l3), some (.int (0 : Int32)), none, none, none, none]) (n := 54) 4 dX9_chance_52 rfl (Nat.le_of_ble_eq_true rfl) rfl rfl ?_
  exact pX9_chance_L54 hG _ _ _ _ _
def fX9_chance (p1 : Int32) (p2 : Int32) (p3 : Int32) (μ : ax_M) : Option (Int32 × ax_M) :=
  (ax_let (ax_wi μ 57 0 (0 : Int32)) (fun m1 => (if p1 < (-1 : Int32) then (fX9_chance_K30 m1) else (if p2 < (1 : Int32) then (fX9_chance_K30 m1) else (if (40 : Int32) < p2 then (fX9_chance_K30 m1) else (if p3 < 0 then (fX9_chance_K30 m1) else (if p3 ≤ (2 : Int32) then (if p1 = (-1 : Int32) then (Option.bind (ax_rd m1 59 12 (4 : Int32)) (fun v35 => (fX9_chance_K48 p2 p3 v35 m1))) else (fX9_chance_K48 p2 p3 p1 m1)) else (fX9_chance_K30 m1))))))))
theorem okX9_chance (p1 : Int32) (p2 : Int32) (p3 : Int32) (μ : ax_M) : ax_Ok mX9_chance 7 ax_jI [.ref 57, .int p1, .int p2, .int p3] μ (fX9_chance p1 p2 p3 μ) := by
  refine ax_start (lc := [some (.ref 57), some (.int p1), some (.int p2), some (.int p3), none, none, none, none, none]) 5 (by decide +kernel) rfl (Nat.le_of_ble_eq_true rfl) (fun x G hG => ?_)
  unfold fX9_chance
  refine rf_aload_n (n := 1) 0 dX9_chance_0 rfl rfl rfl ?_
  refine rf_iconst (n := 2) (0 : Int32) dX9_chance_1 cciconst_0 rfl ?_
  refine rf_pfI (n := 5) hG rfl dX9_chance_2 flX9_103 ki_9_0 nf_9_0 sS_57 kk_57 rfl (fun m1 => ?_)
  refine rf_iload_n (n := 6) 1 dX9_chance_5 rfl rfl rfl ?_
  refine rf_iconst (n := 7) (-1 : Int32) dX9_chance_6 cciconst_m1 rfl ?_
  refine rf_icmp_lt (tg := 30) (n := 10) dX9_chance_7 rfl rfl (fun c41 => ?_) (fun c41 => ?_)
  · refine rf_mask (lc2 := [none, none, none, none, none, none, none, none, none]) [false, false, false, false, true, true, true, true, true] rfl ?_
    exact pX9_chance_K30 hG _
  · refine rf_iload_n (n := 11) 2 dX9_chance_10 rfl rfl rfl ?_
    refine rf_iconst (n := 12) (1 : Int32) dX9_chance_11 cciconst_1 rfl ?_
    refine rf_icmp_lt (tg := 30) (n := 15) dX9_chance_12 rfl rfl (fun c40 => ?_) (fun c40 => ?_)
    · refine rf_mask (lc2 := [none, none, none, none, none, none, none, none, none]) [false, false, false, false, true, true, true, true, true] rfl ?_
      exact pX9_chance_K30 hG _
    · refine rf_iload_n (n := 16) 2 dX9_chance_15 rfl rfl rfl ?_
      refine rf_bipush (n := 18) (40 : Int32) dX9_chance_16 ccbipush_40 rfl ?_
      refine rf_icmp_gt (tg := 30) (n := 21) dX9_chance_18 rfl rfl (fun c39 => ?_) (fun c39 => ?_)
      · refine rf_mask (lc2 := [none, none, none, none, none, none, none, none, none]) [false, false, false, false, true, true, true, true, true] rfl ?_
        exact pX9_chance_K30 hG _
      · refine rf_iload_n (n := 22) 3 dX9_chance_21 rfl rfl rfl ?_
        refine rf_if_lt (tg := 30) (n := 25) dX9_chance_22 rfl rfl (fun c38 => ?_) (fun c38 => ?_)
        · refine rf_mask (lc2 := [none, none, none, none, none, none, none, none, none]) [false, false, false, false, true, true, true, true, true] rfl ?_
          exact pX9_chance_K30 hG _
        · refine rf_iload_n (n := 26) 3 dX9_chance_25 rfl rfl rfl ?_
          refine rf_iconst (n := 27) (2 : Int32) dX9_chance_26 cciconst_2 rfl ?_
          refine rf_icmp_le (tg := 32) (n := 30) dX9_chance_27 rfl rfl (fun c37 => ?_) (fun c37 => ?_)
          · refine rf_aload_n (n := 33) 0 dX9_chance_32 rfl rfl rfl ?_
            refine rf_iload_n (n := 34) 1 dX9_chance_33 rfl rfl rfl ?_
            refine rf_iconst (n := 35) (-1 : Int32) dX9_chance_34 cciconst_m1 rfl ?_
            refine rf_icmp_ne (tg := 47) (n := 38) dX9_chance_35 rfl rfl (fun c36 => ?_) (fun c36 => ?_)
            · refine rf_iload_n (n := 48) 1 dX9_chance_47 rfl rfl rfl ?_
              refine rf_mask (lc2 := [some (.ref 57), none, some (.int p2), some (.int p3), none, none, none, none, none]) [true, false, true, true, true, true, true, true, true] rfl ?_
              exact pX9_chance_K48 hG _ _ _ _
            · refine rf_aload_n (n := 39) 0 dX9_chance_38 rfl rfl rfl ?_
              refine rf_getR (n := 42) rr_57_3 kk_59 hG dX9_chance_39 flX9_13 ki_9_3 sS_57 kk_57 rfl ?_
              refine rf_iconst (n := 43) (4 : Int32) dX9_chance_42 cciconst_4 rfl ?_
              refine rf_iald (n := 44) hG dX9_chance_43 sS_59 kk_59 rfl (fun v35 => ?_)
              refine rf_goto (tg := 48) dX9_chance_44 rfl ?_
              refine rf_mask (lc2 := [some (.ref 57), none, some (.int p2), some (.int p3), none, none, none, none, none]) [true, false, true, true, true, true, true, true, true] rfl ?_
              exact pX9_chance_K48 hG _ _ _ _
          · refine rf_mask (lc2 := [none, none, none, none, none, none, none, none, none]) [false, false, false, false, true, true, true, true, true] rfl ?_
            exact pX9_chance_K30 hG _
def fX1_readFrom (p2 : Int32) (μ : ax_M) : Option (Unit × ax_M) :=
  (Option.bind (ax_rd μ 30 1180 p2) (fun v1 => (ax_let (ax_wi μ 2 16 v1) (fun m2 => (Option.bind (ax_rd m2 30 1180 (p2 + (1 : Int32))) (fun v3 => (ax_let (ax_wi m2 2 17 v3) (fun m4 => (Option.bind (ax_rd m4 30 1180 (p2 + (2 : Int32))) (fun v5 => (ax_let (ax_wi m4 2 15 v5) (fun m6 => (ax_let (p2 + (3 : Int32)) (fun v7 => (Option.bind (ax_cp m6 30 1180 v7 4 4 (0 : Int32) (4 : Int32)) (fun m8 => (Option.bind (ax_cp m8 30 1180 (v7 + (4 : Int32)) 5 4 (0 : Int32) (4 : Int32)) (fun m9 => (Option.bind (ax_cp m9 30 1180 (v7 + (8 : Int32)) 13 24 (0 : Int32) (24 : Int32)) (fun m10 => (Option.bind (ax_cp m10 30 1180 ((v7 + (8 : Int32)) + (24 : Int32)) 14 24 (0 : Int32) (24 : Int32)) (fun m11 => (some ((), m11))))))))))))))))))))))))
theorem okX1_readFrom (p2 : Int32) (μ : ax_M) : ax_Ok mX1_readFrom 1 ax_jV [.ref 2, .ref 30, .int p2] μ (fX1_readFrom p2 μ) := by
  refine ax_start (lc := [some (.ref 2), some (.ref 30), some (.int p2), none]) 1 (by decide +kernel) rfl (Nat.le_of_ble_eq_true rfl) (fun x G hG => ?_)
  unfold fX1_readFrom
  refine rf_aload_n (n := 1) 0 dX1_readFrom_0 rfl rfl rfl ?_
  refine rf_aload_n (n := 2) 1 dX1_readFrom_1 rfl rfl rfl ?_
  refine rf_iload_n (n := 3) 2 dX1_readFrom_2 rfl rfl rfl ?_
  refine rf_iald (n := 4) hG dX1_readFrom_3 sS_30 kk_30 rfl (fun v1 => ?_)
  refine rf_pfI (n := 7) hG rfl dX1_readFrom_4 flX1_48 ki_1_16 nf_1_16 sS_2 kk_2 rfl (fun m2 => ?_)
  refine rf_aload_n (n := 8) 0 dX1_readFrom_7 rfl rfl rfl ?_
  refine rf_aload_n (n := 9) 1 dX1_readFrom_8 rfl rfl rfl ?_
  refine rf_iload_n (n := 10) 2 dX1_readFrom_9 rfl rfl rfl ?_
  refine rf_iconst (n := 11) (1 : Int32) dX1_readFrom_10 cciconst_1 rfl ?_
  refine rf_iadd (n := 12) dX1_readFrom_11 rfl ?_
  refine rf_iald (n := 13) hG dX1_readFrom_12 sS_30 kk_30 rfl (fun v3 => ?_)
  refine rf_pfI (n := 16) hG rfl dX1_readFrom_13 flX1_64 ki_1_17 nf_1_17 sS_2 kk_2 rfl (fun m4 => ?_)
  refine rf_aload_n (n := 17) 0 dX1_readFrom_16 rfl rfl rfl ?_
  refine rf_aload_n (n := 18) 1 dX1_readFrom_17 rfl rfl rfl ?_
  refine rf_iload_n (n := 19) 2 dX1_readFrom_18 rfl rfl rfl ?_
  refine rf_iconst (n := 20) (2 : Int32) dX1_readFrom_19 cciconst_2 rfl ?_
  refine rf_iadd (n := 21) dX1_readFrom_20 rfl ?_
  refine rf_iald (n := 22) hG dX1_readFrom_21 sS_30 kk_30 rfl (fun v5 => ?_)
  refine rf_pfI (n := 25) hG rfl dX1_readFrom_22 flX1_61 ki_1_15 nf_1_15 sS_2 kk_2 rfl (fun m6 => ?_)
  refine rf_iload_n (n := 26) 2 dX1_readFrom_25 rfl rfl rfl ?_
  refine rf_iconst (n := 27) (3 : Int32) dX1_readFrom_26 cciconst_3 rfl ?_
  refine rf_iadd (n := 28) dX1_readFrom_27 rfl ?_
  refine rf_letI (fun v7 => ?_)
  refine rf_istore_n (lc2 := [some (.ref 2), some (.ref 30), some (.int p2), some (.int v7)]) (n := 29) 3 dX1_readFrom_28 rfl rfl (Nat.le_of_ble_eq_true rfl) rfl rfl ?_
  refine rf_aload_n (n := 30) 1 dX1_readFrom_29 rfl rfl rfl ?_
  refine rf_iload_n (n := 31) 3 dX1_readFrom_30 rfl rfl rfl ?_
  refine rf_aload_n (n := 32) 0 dX1_readFrom_31 rfl rfl rfl ?_
  refine rf_getR (n := 35) rr_2_1 kk_4 hG dX1_readFrom_32 flX1_15 ki_1_1 sS_2 kk_2 rfl ?_
  refine rf_iconst (n := 36) (0 : Int32) dX1_readFrom_35 cciconst_0 rfl ?_
  refine rf_iconst (n := 37) (4 : Int32) dX1_readFrom_36 cciconst_4 rfl ?_
  refine rf_copy (n := 40) hG dX1_readFrom_37 cpX1_70 ax_cpw (Nat.le_of_ble_eq_true rfl) (Nat.le_of_ble_eq_true rfl) sS_30 sS_4 kk_30 kk_4 rfl (fun m8 => ?_)
  refine rf_aload_n (n := 41) 1 dX1_readFrom_40 rfl rfl rfl ?_
  refine rf_iload_n (n := 42) 3 dX1_readFrom_41 rfl rfl rfl ?_
  refine rf_iconst (n := 43) (4 : Int32) dX1_readFrom_42 cciconst_4 rfl ?_
  refine rf_iadd (n := 44) dX1_readFrom_43 rfl ?_
  refine rf_aload_n (n := 45) 0 dX1_readFrom_44 rfl rfl rfl ?_
  refine rf_getR (n := 48) rr_2_2 kk_5 hG dX1_readFrom_45 flX1_18 ki_1_2 sS_2 kk_2 rfl ?_
  refine rf_iconst (n := 49) (0 : Int32) dX1_readFrom_48 cciconst_0 rfl ?_
  refine rf_iconst (n := 50) (4 : Int32) dX1_readFrom_49 cciconst_4 rfl ?_
  refine rf_copy (n := 53) hG dX1_readFrom_50 cpX1_70 ax_cpw (Nat.le_of_ble_eq_true rfl) (Nat.le_of_ble_eq_true rfl) sS_30 sS_5 kk_30 kk_5 rfl (fun m9 => ?_)
  refine rf_iinc (lc2 := [some (.ref 2), some (.ref 30), some (.int p2), some (.int (v7 + (8 : Int32)))]) (n := 56) (w := (8 : Int32)) 3 dX1_readFrom_53 rfl rfl rfl (Nat.le_of_ble_eq_true rfl) rfl rfl ?_
  refine rf_aload_n (n := 57) 1 dX1_readFrom_56 rfl rfl rfl ?_
  refine rf_iload_n (n := 58) 3 dX1_readFrom_57 rfl rfl rfl ?_
  refine rf_aload_n (n := 59) 0 dX1_readFrom_58 rfl rfl rfl ?_
  refine rf_getR (n := 62) rr_2_10 kk_13 hG dX1_readFrom_59 flX1_42 ki_1_10 sS_2 kk_2 rfl ?_
  refine rf_iconst (n := 63) (0 : Int32) dX1_readFrom_62 cciconst_0 rfl ?_
  refine rf_bipush (n := 65) (24 : Int32) dX1_readFrom_63 ccbipush_24 rfl ?_
  refine rf_copy (n := 68) hG dX1_readFrom_65 cpX1_70 ax_cpw (Nat.le_of_ble_eq_true rfl) (Nat.le_of_ble_eq_true rfl) sS_30 sS_13 kk_30 kk_13 rfl (fun m10 => ?_)
  refine rf_aload_n (n := 69) 1 dX1_readFrom_68 rfl rfl rfl ?_
  refine rf_iload_n (n := 70) 3 dX1_readFrom_69 rfl rfl rfl ?_
  refine rf_bipush (n := 72) (24 : Int32) dX1_readFrom_70 ccbipush_24 rfl ?_
  refine rf_iadd (n := 73) dX1_readFrom_72 rfl ?_
  refine rf_aload_n (n := 74) 0 dX1_readFrom_73 rfl rfl rfl ?_
  refine rf_getR (n := 77) rr_2_11 kk_14 hG dX1_readFrom_74 flX1_45 ki_1_11 sS_2 kk_2 rfl ?_
  refine rf_iconst (n := 78) (0 : Int32) dX1_readFrom_77 cciconst_0 rfl ?_
  refine rf_bipush (n := 80) (24 : Int32) dX1_readFrom_78 ccbipush_24 rfl ?_
  refine rf_copy (n := 83) hG dX1_readFrom_80 cpX1_70 ax_cpw (Nat.le_of_ble_eq_true rfl) (Nat.le_of_ble_eq_true rfl) sS_30 sS_14 kk_30 kk_14 rfl (fun m11 => ?_)
  exact rf_retV rfl dX1_readFrom_83
def fX2_pop (μ : ax_M) : Option (Unit × ax_M) :=
  (Option.bind (ax_rm (((μ.1 29 2) + (20 : Int32)) - (1 : Int32)) (20 : Int32)) (fun v1 => (ax_let (ax_wi μ 29 2 v1) (fun m2 => (ax_bd (fX1_readFrom ((m2.1 29 2) * (59 : Int32)) m2) (fun _ m4 => (ax_let (ax_wi m4 29 3 ((m4.1 29 3) - (1 : Int32))) (fun m5 => (some ((), m5))))))))))
theorem okX2_pop (μ : ax_M) : ax_Ok mX2_pop 2 ax_jV [.ref 29, .ref 2] μ (fX2_pop μ) := by
  refine ax_start (lc := [some (.ref 29), some (.ref 2)]) 0 (by decide +kernel) rfl (Nat.le_of_ble_eq_true rfl) (fun x G hG => ?_)
  unfold fX2_pop
  refine rf_aload_n (n := 1) 0 dX2_pop_0 rfl rfl rfl ?_
  refine rf_aload_n (n := 2) 0 dX2_pop_1 rfl rfl rfl ?_
  refine rf_getI (n := 5) hG dX2_pop_2 flX2_18 ki_2_2 sS_29 kk_29 rfl ?_
  refine rf_bipush (n := 7) (20 : Int32) dX2_pop_5 ccbipush_20 rfl ?_
  refine rf_iadd (n := 8) dX2_pop_7 rfl ?_
  refine rf_iconst (n := 9) (1 : Int32) dX2_pop_8 cciconst_1 rfl ?_
  refine rf_isub (n := 10) dX2_pop_9 rfl ?_
  refine rf_bipush (n := 12) (20 : Int32) dX2_pop_10 ccbipush_20 rfl ?_
  refine rf_irem (n := 13) dX2_pop_12 rfl (fun v1 => ?_)
  refine rf_pfI (n := 16) hG rfl dX2_pop_13 flX2_18 ki_2_2 nf_2_2 sS_29 kk_29 rfl (fun m2 => ?_)
  refine rf_aload_n (n := 17) 1 dX2_pop_16 rfl rfl rfl ?_
  refine rf_aload_n (n := 18) 0 dX2_pop_17 rfl rfl rfl ?_
  refine rf_getR (n := 21) rr_29_0 kk_30 hG dX2_pop_18 flX2_11 ki_2_0 sS_29 kk_29 rfl ?_
  refine rf_aload_n (n := 22) 0 dX2_pop_21 rfl rfl rfl ?_
  refine rf_getI (n := 25) hG dX2_pop_22 flX2_18 ki_2_2 sS_29 kk_29 rfl ?_
  refine rf_bipush (n := 27) (59 : Int32) dX2_pop_25 ccbipush_59 rfl ?_
  refine rf_imul (n := 28) dX2_pop_27 rfl ?_
  refine rf_cV2V (n := 31) hG (okX1_readFrom _ _) lVX2_35 hhX1_readFrom kk_2 sS_2 ⟨_, rfl, rfl⟩ dX2_pop_28 rfl (Nat.le_of_ble_eq_true rfl) (Nat.le_of_ble_eq_true rfl) (fun _ m4 => ?_)
  refine rf_aload_n (n := 32) 0 dX2_pop_31 rfl rfl rfl ?_
  refine rf_dupR (n := 33) dX2_pop_32 rfl ?_
  refine rf_getI (n := 36) hG dX2_pop_33 flX2_26 ki_2_3 sS_29 kk_29 rfl ?_
  refine rf_iconst (n := 37) (1 : Int32) dX2_pop_36 cciconst_1 rfl ?_
  refine rf_isub (n := 38) dX2_pop_37 rfl ?_
  refine rf_pfI (n := 41) hG rfl dX2_pop_38 flX2_26 ki_2_3 nf_2_3 sS_29 kk_29 rfl (fun m5 => ?_)
  exact rf_retV rfl dX2_pop_41
def fX8_undo (μ : ax_M) : Option (Int32 × ax_M) :=
  (if (μ.1 29 3) = 0 then (some ((-1 : Int32), μ)) else (ax_bd (fX2_pop μ) (fun _ m2 => (ax_bd (fX8_forgetAnswers m2) (fun _ m4 => (some ((m4.1 29 3), m4)))))))
theorem okX8_undo (μ : ax_M) : ax_Ok mX8_undo 3 ax_jI [.ref 0] μ (fX8_undo μ) := by
  refine ax_start (lc := [some (.ref 0)]) 0 (by decide +kernel) rfl (Nat.le_of_ble_eq_true rfl) (fun x G hG => ?_)
  unfold fX8_undo
  refine rf_aload_n (n := 1) 0 dX8_undo_0 rfl rfl rfl ?_
  refine rf_getR (n := 4) rr_0_4 kk_29 hG dX8_undo_1 flX8_32 ki_8_4 sS_0 kk_0 rfl ?_
  refine rf_getI (n := 7) hG dX8_undo_4 flX8_318 ki_2_3 sS_29 kk_29 rfl ?_
  refine rf_if_ne (tg := 12) (n := 10) dX8_undo_7 rfl rfl (fun c5 => ?_) (fun c5 => ?_)
  · refine rf_aload_n (n := 13) 0 dX8_undo_12 rfl rfl rfl ?_
    refine rf_getR (n := 16) rr_0_4 kk_29 hG dX8_undo_13 flX8_32 ki_8_4 sS_0 kk_0 rfl ?_
    refine rf_aload_n (n := 17) 0 dX8_undo_16 rfl rfl rfl ?_
    refine rf_getR (n := 20) rr_0_2 kk_2 hG dX8_undo_17 flX8_16 ki_8_2 sS_0 kk_0 rfl ?_
    refine rf_cV1V (n := 23) hG (okX2_pop _) lVX8_321 hhX2_pop kk_29 sS_29 ⟨_, rfl, rfl⟩ dX8_undo_20 rfl (Nat.le_of_ble_eq_true rfl) (Nat.le_of_ble_eq_true rfl) (fun _ m2 => ?_)
    refine rf_aload_n (n := 24) 0 dX8_undo_23 rfl rfl rfl ?_
    refine rf_cV0V (n := 27) hG (okX8_forgetAnswers _) lVX8_93 hhX8_forgetAnswers kk_0 sS_0 ⟨_, rfl, rfl⟩ dX8_undo_24 rfl (Nat.le_of_ble_eq_true rfl) (Nat.le_of_ble_eq_true rfl) (fun _ m4 => ?_)
    refine rf_aload_n (n := 28) 0 dX8_undo_27 rfl rfl rfl ?_
    refine rf_getR (n := 31) rr_0_4 kk_29 hG dX8_undo_28 flX8_32 ki_8_4 sS_0 kk_0 rfl ?_
    refine rf_getI (n := 34) hG dX8_undo_31 flX8_318 ki_2_3 sS_29 kk_29 rfl ?_
    exact rf_retI rfl dX8_undo_34
  · refine rf_iconst (n := 11) (-1 : Int32) dX8_undo_10 cciconst_m1 rfl ?_
    exact rf_retI rfl dX8_undo_11
def fX9_laysBack_B2 (l1 : Int32) (r2 : Int32 → ax_M → Option (Unit × ax_M)) (l2 : Int32) (μ : ax_M) : Option (Unit × ax_M) :=
  (if (68 : Int32) ≤ l2 then (some ((), μ)) else (Option.bind (ax_rd μ 75 1428 (((68 : Int32) * l1) + l2)) (fun v1 => (Option.bind (ax_wr μ 74 68 l2 v1) (fun m2 => (r2 (l2 + (1 : Int32)) m2))))))
theorem pX9_laysBack_B2 {x : ax_X} {G : ax_G} (hG : ax_ok G) (l1 : Int32) (r2 : Int32 → ax_M → Option (Unit × ax_M)) (hr2 : ∀ (a2 : Int32) (μ : ax_M), ax_Rf mX9_laysBack 0 x (ax_Z ax_jV x G) G 0 0 2 [some (.ref 57), some (.int l1), some (.int a2)] [] μ (r2 a2 μ)) (l2 : Int32) (μ : ax_M) : ax_Rf mX9_laysBack 0 x (ax_Z ax_jV x G) G 0 0 2 [some (.ref 57), some (.int l1), some (.int l2)] [] μ (fX9_laysBack_B2 l1 r2 l2 μ) := by
  unfold fX9_laysBack_B2
  refine rf_iload_n (n := 3) 2 dX9_laysBack_2 rfl rfl rfl ?_
  refine rf_bipush (n := 5) (68 : Int32) dX9_laysBack_3 ccbipush_68 rfl ?_
  refine rf_icmp_ge (tg := 31) (n := 8) dX9_laysBack_5 rfl rfl (fun c3 => ?_) (fun c3 => ?_)
  · exact rf_retV rfl dX9_laysBack_31
  · refine rf_aload_n (n := 9) 0 dX9_laysBack_8 rfl rfl rfl ?_
    refine rf_getR (n := 12) rr_57_28 kk_74 hG dX9_laysBack_9 flX9_63 ki_9_28 sS_57 kk_57 rfl ?_
    refine rf_iload_n (n := 13) 2 dX9_laysBack_12 rfl rfl rfl ?_
    refine rf_aload_n (n := 14) 0 dX9_laysBack_13 rfl rfl rfl ?_
    refine rf_getR (n := 17) rr_57_29 kk_75 hG dX9_laysBack_14 flX9_66 ki_9_29 sS_57 kk_57 rfl ?_
    refine rf_bipush (n := 19) (68 : Int32) dX9_laysBack_17 ccbipush_68 rfl ?_
    refine rf_iload_n (n := 20) 1 dX9_laysBack_19 rfl rfl rfl ?_
    refine rf_imul (n := 21) dX9_laysBack_20 rfl ?_
    refine rf_iload_n (n := 22) 2 dX9_laysBack_21 rfl rfl rfl ?_
    refine rf_iadd (n := 23) dX9_laysBack_22 rfl ?_
    refine rf_iald (n := 24) hG dX9_laysBack_23 sS_75 kk_75 rfl (fun v1 => ?_)
    refine rf_iast (n := 25) hG dX9_laysBack_24 sS_74 kk_74 rfl (fun m2 => ?_)
    refine rf_iinc (lc2 := [some (.ref 57), some (.int l1), some (.int (l2 + (1 : Int32)))]) (n := 28) (w := (1 : Int32)) 2 dX9_laysBack_25 rfl rfl rfl (Nat.le_of_ble_eq_true rfl) rfl rfl ?_
    refine rf_goto (tg := 2) dX9_laysBack_28 rfl ?_
    exact hr2 _ _
theorem pX9_laysBack_L2 {x : ax_X} {G : ax_G} (hG : ax_ok G) (l1 : Int32) (n : Nat) (a2 : Int32) (μ : ax_M) : ax_Rf mX9_laysBack 0 x (ax_Z ax_jV x G) G 0 0 2 [some (.ref 57), some (.int l1), some (.int a2)] [] μ (ax_lp1 (fX9_laysBack_B2 l1) n a2 μ) :=
  rf_lp1 (P := fun a2 μ t => ax_Rf mX9_laysBack 0 x (ax_Z ax_jV x G) G 0 0 2 [some (.ref 57), some (.int l1), some (.int a2)] [] μ t) (fun _ _ => rf_none) (fun rc hrc a2 μ => pX9_laysBack_B2 hG l1 rc hrc a2 μ) n a2 μ
def fX9_laysBack (p1 : Int32) (μ : ax_M) : Option (Unit × ax_M) :=
  (ax_lp1 (fX9_laysBack_B2 p1) ax_FU (0 : Int32) μ)
theorem okX9_laysBack (p1 : Int32) (μ : ax_M) : ax_Ok mX9_laysBack 0 ax_jV [.ref 57, .int p1] μ (fX9_laysBack p1 μ) := by
  refine ax_start (lc := [some (.ref 57), some (.int p1), none]) 1 (by decide +kernel) rfl (Nat.le_of_ble_eq_true rfl) (fun x G hG => ?_)
  unfold fX9_laysBack
  refine rf_iconst (n := 1) (0 : Int32) dX9_laysBack_0 cciconst_0 rfl ?_
  refine rf_istore_n (lc2 := [some (.ref 57), some (.int p1), some (.int (0 : Int32))]) (n := 2) 2 dX9_laysBack_1 rfl rfl (Nat.le_of_ble_eq_true rfl) rfl rfl ?_
  exact pX9_laysBack_L2 hG _ _ _ _
def fX9_undo (μ : ax_M) : Option (Int32 × ax_M) :=
  (ax_let (ax_wi μ 57 0 (0 : Int32)) (fun m1 => (if (m1.1 57 30) = 0 then (some ((-1 : Int32), m1)) else (ax_let (ax_wi m1 57 30 ((m1.1 57 30) - (1 : Int32))) (fun m2 => (ax_bd (fX9_laysBack (m2.1 57 30) m2) (fun _ m4 => (some ((m4.1 57 30), m4)))))))))
theorem okX9_undo (μ : ax_M) : ax_Ok mX9_undo 1 ax_jI [.ref 57] μ (fX9_undo μ) := by
  refine ax_start (lc := [some (.ref 57)]) 0 (by decide +kernel) rfl (Nat.le_of_ble_eq_true rfl) (fun x G hG => ?_)
  unfold fX9_undo
  refine rf_aload_n (n := 1) 0 dX9_undo_0 rfl rfl rfl ?_
  refine rf_iconst (n := 2) (0 : Int32) dX9_undo_1 cciconst_0 rfl ?_
  refine rf_pfI (n := 5) hG rfl dX9_undo_2 flX9_103 ki_9_0 nf_9_0 sS_57 kk_57 rfl (fun m1 => ?_)
  refine rf_aload_n (n := 6) 0 dX9_undo_5 rfl rfl rfl ?_
  refine rf_getI (n := 9) hG dX9_undo_6 flX9_223 ki_9_30 sS_57 kk_57 rfl ?_
  refine rf_if_ne (tg := 14) (n := 12) dX9_undo_9 rfl rfl (fun c5 => ?_) (fun c5 => ?_)
  · refine rf_aload_n (n := 15) 0 dX9_undo_14 rfl rfl rfl ?_
    refine rf_dupR (n := 16) dX9_undo_15 rfl ?_
    refine rf_getI (n := 19) hG dX9_undo_16 flX9_223 ki_9_30 sS_57 kk_57 rfl ?_
    refine rf_iconst (n := 20) (1 : Int32) dX9_undo_19 cciconst_1 rfl ?_
    refine rf_isub (n := 21) dX9_undo_20 rfl ?_
    refine rf_pfI (n := 24) hG rfl dX9_undo_21 flX9_223 ki_9_30 nf_9_30 sS_57 kk_57 rfl (fun m2 => ?_)
    refine rf_aload_n (n := 25) 0 dX9_undo_24 rfl rfl rfl ?_
    refine rf_aload_n (n := 26) 0 dX9_undo_25 rfl rfl rfl ?_
    refine rf_getI (n := 29) hG dX9_undo_26 flX9_223 ki_9_30 sS_57 kk_57 rfl ?_
    refine rf_cV1V (n := 32) hG (okX9_laysBack _ _) lVX9_242 hhX9_laysBack kk_57 sS_57 ⟨_, rfl, rfl⟩ dX9_undo_29 rfl (Nat.le_of_ble_eq_true rfl) (Nat.le_of_ble_eq_true rfl) (fun _ m4 => ?_)
    refine rf_aload_n (n := 33) 0 dX9_undo_32 rfl rfl rfl ?_
    refine rf_getI (n := 36) hG dX9_undo_33 flX9_223 ki_9_30 sS_57 kk_57 rfl ?_
    exact rf_retI rfl dX9_undo_36
  · refine rf_iconst (n := 13) (-1 : Int32) dX9_undo_12 cciconst_m1 rfl ?_
    exact rf_retI rfl dX9_undo_13
def fX1_writeTo_1 (p2 : Int32) (μ : ax_M) : Option (Unit × ax_M) :=
  (Option.bind (ax_wr μ 31 59 p2 (μ.1 2 16)) (fun m1 => (Option.bind (ax_wr m1 31 59 (p2 + (1 : Int32)) (m1.1 2 17)) (fun m2 => (Option.bind (ax_wr m2 31 59 (p2 + (2 : Int32)) (m2.1 2 15)) (fun m3 => (ax_let (p2 + (3 : Int32)) (fun v4 => (Option.bind (ax_cp m3 4 4 (0 : Int32) 31 59 v4 (4 : Int32)) (fun m5 => (Option.bind (ax_cp m5 5 4 (0 : Int32) 31 59 (v4 + (4 : Int32)) (4 : Int32)) (fun m6 => (Option.bind (ax_cp m6 13 24 (0 : Int32) 31 59 (v4 + (8 : Int32)) (24 : Int32)) (fun m7 => (Option.bind (ax_cp m7 14 24 (0 : Int32) 31 59 ((v4 + (8 : Int32)) + (24 : Int32)) (24 : Int32)) (fun m8 => (some ((), m8))))))))))))))))))
theorem okX1_writeTo_1 (p2 : Int32) (μ : ax_M) : ax_Ok mX1_writeTo 1 ax_jV [.ref 2, .ref 31, .int p2] μ (fX1_writeTo_1 p2 μ) := by
  refine ax_start (lc := [some (.ref 2), some (.ref 31), some (.int p2), none]) 1 (by decide +kernel) rfl (Nat.le_of_ble_eq_true rfl) (fun x G hG => ?_)
  unfold fX1_writeTo_1
  refine rf_aload_n (n := 1) 1 dX1_writeTo_0 rfl rfl rfl ?_
  refine rf_iload_n (n := 2) 2 dX1_writeTo_1 rfl rfl rfl ?_
  refine rf_aload_n (n := 3) 0 dX1_writeTo_2 rfl rfl rfl ?_
  refine rf_getI (n := 6) hG dX1_writeTo_3 flX1_48 ki_1_16 sS_2 kk_2 rfl ?_
  refine rf_iast (n := 7) hG dX1_writeTo_6 sS_31 kk_31 rfl (fun m1 => ?_)
  refine rf_aload_n (n := 8) 1 dX1_writeTo_7 rfl rfl rfl ?_
  refine rf_iload_n (n := 9) 2 dX1_writeTo_8 rfl rfl rfl ?_
  refine rf_iconst (n := 10) (1 : Int32) dX1_writeTo_9 cciconst_1 rfl ?_
  refine rf_iadd (n := 11) dX1_writeTo_10 rfl ?_
  refine rf_aload_n (n := 12) 0 dX1_writeTo_11 rfl rfl rfl ?_
  refine rf_getI (n := 15) hG dX1_writeTo_12 flX1_64 ki_1_17 sS_2 kk_2 rfl ?_
  refine rf_iast (n := 16) hG dX1_writeTo_15 sS_31 kk_31 rfl (fun m2 => ?_)
  refine rf_aload_n (n := 17) 1 dX1_writeTo_16 rfl rfl rfl ?_
  refine rf_iload_n (n := 18) 2 dX1_writeTo_17 rfl rfl rfl ?_
  refine rf_iconst (n := 19) (2 : Int32) dX1_writeTo_18 cciconst_2 rfl ?_
  refine rf_iadd (n := 20) dX1_writeTo_19 rfl ?_
  refine rf_aload_n (n := 21) 0 dX1_writeTo_20 rfl rfl rfl ?_
  refine rf_getI (n := 24) hG dX1_writeTo_21 flX1_61 ki_1_15 sS_2 kk_2 rfl ?_
  refine rf_iast (n := 25) hG dX1_writeTo_24 sS_31 kk_31 rfl (fun m3 => ?_)
  refine rf_iload_n (n := 26) 2 dX1_writeTo_25 rfl rfl rfl ?_
  refine rf_iconst (n := 27) (3 : Int32) dX1_writeTo_26 cciconst_3 rfl ?_
  refine rf_iadd (n := 28) dX1_writeTo_27 rfl ?_
  refine rf_letI (fun v4 => ?_)
  refine rf_istore_n (lc2 := [some (.ref 2), some (.ref 31), some (.int p2), some (.int v4)]) (n := 29) 3 dX1_writeTo_28 rfl rfl (Nat.le_of_ble_eq_true rfl) rfl rfl ?_
  refine rf_aload_n (n := 30) 0 dX1_writeTo_29 rfl rfl rfl ?_
  refine rf_getR (n := 33) rr_2_1 kk_4 hG dX1_writeTo_30 flX1_15 ki_1_1 sS_2 kk_2 rfl ?_
  refine rf_iconst (n := 34) (0 : Int32) dX1_writeTo_33 cciconst_0 rfl ?_
  refine rf_aload_n (n := 35) 1 dX1_writeTo_34 rfl rfl rfl ?_
  refine rf_iload_n (n := 36) 3 dX1_writeTo_35 rfl rfl rfl ?_
  refine rf_iconst (n := 37) (4 : Int32) dX1_writeTo_36 cciconst_4 rfl ?_
  refine rf_copy (n := 40) hG dX1_writeTo_37 cpX1_70 ax_cpw (Nat.le_of_ble_eq_true rfl) (Nat.le_of_ble_eq_true rfl) sS_4 sS_31 kk_4 kk_31 rfl (fun m5 => ?_)
  refine rf_aload_n (n := 41) 0 dX1_writeTo_40 rfl rfl rfl ?_
  refine rf_getR (n := 44) rr_2_2 kk_5 hG dX1_writeTo_41 flX1_18 ki_1_2 sS_2 kk_2 rfl ?_
  refine rf_iconst (n := 45) (0 : Int32) dX1_writeTo_44 cciconst_0 rfl ?_
  refine rf_aload_n (n := 46) 1 dX1_writeTo_45 rfl rfl rfl ?_
  refine rf_iload_n (n := 47) 3 dX1_writeTo_46 rfl rfl rfl ?_
  refine rf_iconst (n := 48) (4 : Int32) dX1_writeTo_47 cciconst_4 rfl ?_
  refine rf_iadd (n := 49) dX1_writeTo_48 rfl ?_
  refine rf_iconst (n := 50) (4 : Int32) dX1_writeTo_49 cciconst_4 rfl ?_
  refine rf_copy (n := 53) hG dX1_writeTo_50 cpX1_70 ax_cpw (Nat.le_of_ble_eq_true rfl) (Nat.le_of_ble_eq_true rfl) sS_5 sS_31 kk_5 kk_31 rfl (fun m6 => ?_)
  refine rf_iinc (lc2 := [some (.ref 2), some (.ref 31), some (.int p2), some (.int (v4 + (8 : Int32)))]) (n := 56) (w := (8 : Int32)) 3 dX1_writeTo_53 rfl rfl rfl (Nat.le_of_ble_eq_true rfl) rfl rfl ?_
  refine rf_aload_n (n := 57) 0 dX1_writeTo_56 rfl rfl rfl ?_
  refine rf_getR (n := 60) rr_2_10 kk_13 hG dX1_writeTo_57 flX1_42 ki_1_10 sS_2 kk_2 rfl ?_
  refine rf_iconst (n := 61) (0 : Int32) dX1_writeTo_60 cciconst_0 rfl ?_
  refine rf_aload_n (n := 62) 1 dX1_writeTo_61 rfl rfl rfl ?_
  refine rf_iload_n (n := 63) 3 dX1_writeTo_62 rfl rfl rfl ?_
  refine rf_bipush (n := 65) (24 : Int32) dX1_writeTo_63 ccbipush_24 rfl ?_
  refine rf_copy (n := 68) hG dX1_writeTo_65 cpX1_70 ax_cpw (Nat.le_of_ble_eq_true rfl) (Nat.le_of_ble_eq_true rfl) sS_13 sS_31 kk_13 kk_31 rfl (fun m7 => ?_)
  refine rf_aload_n (n := 69) 0 dX1_writeTo_68 rfl rfl rfl ?_
  refine rf_getR (n := 72) rr_2_11 kk_14 hG dX1_writeTo_69 flX1_45 ki_1_11 sS_2 kk_2 rfl ?_
  refine rf_iconst (n := 73) (0 : Int32) dX1_writeTo_72 cciconst_0 rfl ?_
  refine rf_aload_n (n := 74) 1 dX1_writeTo_73 rfl rfl rfl ?_
  refine rf_iload_n (n := 75) 3 dX1_writeTo_74 rfl rfl rfl ?_
  refine rf_bipush (n := 77) (24 : Int32) dX1_writeTo_75 ccbipush_24 rfl ?_
  refine rf_iadd (n := 78) dX1_writeTo_77 rfl ?_
  refine rf_bipush (n := 80) (24 : Int32) dX1_writeTo_78 ccbipush_24 rfl ?_
  refine rf_copy (n := 83) hG dX1_writeTo_80 cpX1_70 ax_cpw (Nat.le_of_ble_eq_true rfl) (Nat.le_of_ble_eq_true rfl) sS_14 sS_31 kk_14 kk_31 rfl (fun m8 => ?_)
  exact rf_retV rfl dX1_writeTo_83
def fX2_keepImage (μ : ax_M) : Option (Unit × ax_M) :=
  (ax_bd (fX1_writeTo_1 (0 : Int32) μ) (fun _ m2 => (ax_let (ax_wi m2 29 4 (1 : Int32)) (fun m3 => (some ((), m3))))))
theorem okX2_keepImage (μ : ax_M) : ax_Ok mX2_keepImage 2 ax_jV [.ref 29, .ref 2] μ (fX2_keepImage μ) := by
  refine ax_start (lc := [some (.ref 29), some (.ref 2)]) 0 (by decide +kernel) rfl (Nat.le_of_ble_eq_true rfl) (fun x G hG => ?_)
  unfold fX2_keepImage
  refine rf_aload_n (n := 1) 1 dX2_keepImage_0 rfl rfl rfl ?_
  refine rf_aload_n (n := 2) 0 dX2_keepImage_1 rfl rfl rfl ?_
  refine rf_getR (n := 5) rr_29_1 kk_31 hG dX2_keepImage_2 flX2_15 ki_2_1 sS_29 kk_29 rfl ?_
  refine rf_iconst (n := 6) (0 : Int32) dX2_keepImage_5 cciconst_0 rfl ?_
  refine rf_cV2V (n := 9) hG (okX1_writeTo_1 _ _) lVX2_22 hhX1_writeTo kk_2 sS_2 ⟨_, rfl, rfl⟩ dX2_keepImage_6 rfl (Nat.le_of_ble_eq_true rfl) (Nat.le_of_ble_eq_true rfl) (fun _ m2 => ?_)
  refine rf_aload_n (n := 10) 0 dX2_keepImage_9 rfl rfl rfl ?_
  refine rf_iconst (n := 11) (1 : Int32) dX2_keepImage_10 cciconst_1 rfl ?_
  refine rf_pfZ (n := 14) hG rfl (Or.inr rfl) dX2_keepImage_11 flX2_38 ki_2_4 nf_2_4 sS_29 kk_29 rfl (fun m3 => ?_)
  exact rf_retV rfl dX2_keepImage_14
def fX8_keep (μ : ax_M) : Option (Int32 × ax_M) :=
  (ax_bd (fX2_keepImage μ) (fun _ m2 => (some ((m2.1 2 16), m2))))
theorem okX8_keep (μ : ax_M) : ax_Ok mX8_keep 3 ax_jI [.ref 0] μ (fX8_keep μ) := by
  refine ax_start (lc := [some (.ref 0)]) 0 (by decide +kernel) rfl (Nat.le_of_ble_eq_true rfl) (fun x G hG => ?_)
  unfold fX8_keep
  refine rf_aload_n (n := 1) 0 dX8_keep_0 rfl rfl rfl ?_
  refine rf_getR (n := 4) rr_0_4 kk_29 hG dX8_keep_1 flX8_32 ki_8_4 sS_0 kk_0 rfl ?_
  refine rf_aload_n (n := 5) 0 dX8_keep_4 rfl rfl rfl ?_
  refine rf_getR (n := 8) rr_0_2 kk_2 hG dX8_keep_5 flX8_16 ki_8_2 sS_0 kk_0 rfl ?_
  refine rf_cV1V (n := 11) hG (okX2_keepImage _) lVX8_324 hhX2_keepImage kk_29 sS_29 ⟨_, rfl, rfl⟩ dX8_keep_8 rfl (Nat.le_of_ble_eq_true rfl) (Nat.le_of_ble_eq_true rfl) (fun _ m2 => ?_)
  refine rf_aload_n (n := 12) 0 dX8_keep_11 rfl rfl rfl ?_
  refine rf_getR (n := 15) rr_0_2 kk_2 hG dX8_keep_12 flX8_16 ki_8_2 sS_0 kk_0 rfl ?_
  refine rf_getI (n := 18) hG dX8_keep_15 flX8_128 ki_1_16 sS_2 kk_2 rfl ?_
  exact rf_retI rfl dX8_keep_18
def fX9_keep (μ : ax_M) : Option (Int32 × ax_M) :=
  (ax_let (ax_wi μ 57 0 (0 : Int32)) (fun m1 => (ax_bd (fX9_lays (20 : Int32) m1) (fun _ m3 => (ax_let (ax_wi m3 57 31 (1 : Int32)) (fun m4 => (Option.bind (ax_rd m4 74 68 (0 : Int32)) (fun v5 => (some (v5, m4))))))))))
theorem okX9_keep (μ : ax_M) : ax_Ok mX9_keep 1 ax_jI [.ref 57] μ (fX9_keep μ) := by
  refine ax_start (lc := [some (.ref 57)]) 0 (by decide +kernel) rfl (Nat.le_of_ble_eq_true rfl) (fun x G hG => ?_)
  unfold fX9_keep
  refine rf_aload_n (n := 1) 0 dX9_keep_0 rfl rfl rfl ?_
  refine rf_iconst (n := 2) (0 : Int32) dX9_keep_1 cciconst_0 rfl ?_
  refine rf_pfI (n := 5) hG rfl dX9_keep_2 flX9_103 ki_9_0 nf_9_0 sS_57 kk_57 rfl (fun m1 => ?_)
  refine rf_aload_n (n := 6) 0 dX9_keep_5 rfl rfl rfl ?_
  refine rf_bipush (n := 8) (20 : Int32) dX9_keep_6 ccbipush_20 rfl ?_
  refine rf_cV1V (n := 11) hG (okX9_lays _ _) lVX9_239 hhX9_lays kk_57 sS_57 ⟨_, rfl, rfl⟩ dX9_keep_8 rfl (Nat.le_of_ble_eq_true rfl) (Nat.le_of_ble_eq_true rfl) (fun _ m3 => ?_)
  refine rf_aload_n (n := 12) 0 dX9_keep_11 rfl rfl rfl ?_
  refine rf_iconst (n := 13) (1 : Int32) dX9_keep_12 cciconst_1 rfl ?_
  refine rf_pfZ (n := 16) hG rfl (Or.inr rfl) dX9_keep_13 flX9_226 ki_9_31 nf_9_31 sS_57 kk_57 rfl (fun m4 => ?_)
  refine rf_aload_n (n := 17) 0 dX9_keep_16 rfl rfl rfl ?_
  refine rf_getR (n := 20) rr_57_28 kk_74 hG dX9_keep_17 flX9_63 ki_9_28 sS_57 kk_57 rfl ?_
  refine rf_iconst (n := 21) (0 : Int32) dX9_keep_20 cciconst_0 rfl ?_
  refine rf_iald (n := 22) hG dX9_keep_21 sS_74 kk_74 rfl (fun v5 => ?_)
  exact rf_retI rfl dX9_keep_22
def fX1_readFrom_1 (p2 : Int32) (μ : ax_M) : Option (Unit × ax_M) :=
  (Option.bind (ax_rd μ 31 59 p2) (fun v1 => (ax_let (ax_wi μ 2 16 v1) (fun m2 => (Option.bind (ax_rd m2 31 59 (p2 + (1 : Int32))) (fun v3 => (ax_let (ax_wi m2 2 17 v3) (fun m4 => (Option.bind (ax_rd m4 31 59 (p2 + (2 : Int32))) (fun v5 => (ax_let (ax_wi m4 2 15 v5) (fun m6 => (ax_let (p2 + (3 : Int32)) (fun v7 => (Option.bind (ax_cp m6 31 59 v7 4 4 (0 : Int32) (4 : Int32)) (fun m8 => (Option.bind (ax_cp m8 31 59 (v7 + (4 : Int32)) 5 4 (0 : Int32) (4 : Int32)) (fun m9 => (Option.bind (ax_cp m9 31 59 (v7 + (8 : Int32)) 13 24 (0 : Int32) (24 : Int32)) (fun m10 => (Option.bind (ax_cp m10 31 59 ((v7 + (8 : Int32)) + (24 : Int32)) 14 24 (0 : Int32) (24 : Int32)) (fun m11 => (some ((), m11))))))))))))))))))))))))
theorem okX1_readFrom_1 (p2 : Int32) (μ : ax_M) : ax_Ok mX1_readFrom 1 ax_jV [.ref 2, .ref 31, .int p2] μ (fX1_readFrom_1 p2 μ) := by
  refine ax_start (lc := [some (.ref 2), some (.ref 31), some (.int p2), none]) 1 (by decide +kernel) rfl (Nat.le_of_ble_eq_true rfl) (fun x G hG => ?_)
  unfold fX1_readFrom_1
  refine rf_aload_n (n := 1) 0 dX1_readFrom_0 rfl rfl rfl ?_
  refine rf_aload_n (n := 2) 1 dX1_readFrom_1 rfl rfl rfl ?_
  refine rf_iload_n (n := 3) 2 dX1_readFrom_2 rfl rfl rfl ?_
  refine rf_iald (n := 4) hG dX1_readFrom_3 sS_31 kk_31 rfl (fun v1 => ?_)
  refine rf_pfI (n := 7) hG rfl dX1_readFrom_4 flX1_48 ki_1_16 nf_1_16 sS_2 kk_2 rfl (fun m2 => ?_)
  refine rf_aload_n (n := 8) 0 dX1_readFrom_7 rfl rfl rfl ?_
  refine rf_aload_n (n := 9) 1 dX1_readFrom_8 rfl rfl rfl ?_
  refine rf_iload_n (n := 10) 2 dX1_readFrom_9 rfl rfl rfl ?_
  refine rf_iconst (n := 11) (1 : Int32) dX1_readFrom_10 cciconst_1 rfl ?_
  refine rf_iadd (n := 12) dX1_readFrom_11 rfl ?_
  refine rf_iald (n := 13) hG dX1_readFrom_12 sS_31 kk_31 rfl (fun v3 => ?_)
  refine rf_pfI (n := 16) hG rfl dX1_readFrom_13 flX1_64 ki_1_17 nf_1_17 sS_2 kk_2 rfl (fun m4 => ?_)
  refine rf_aload_n (n := 17) 0 dX1_readFrom_16 rfl rfl rfl ?_
  refine rf_aload_n (n := 18) 1 dX1_readFrom_17 rfl rfl rfl ?_
  refine rf_iload_n (n := 19) 2 dX1_readFrom_18 rfl rfl rfl ?_
  refine rf_iconst (n := 20) (2 : Int32) dX1_readFrom_19 cciconst_2 rfl ?_
  refine rf_iadd (n := 21) dX1_readFrom_20 rfl ?_
  refine rf_iald (n := 22) hG dX1_readFrom_21 sS_31 kk_31 rfl (fun v5 => ?_)
  refine rf_pfI (n := 25) hG rfl dX1_readFrom_22 flX1_61 ki_1_15 nf_1_15 sS_2 kk_2 rfl (fun m6 => ?_)
  refine rf_iload_n (n := 26) 2 dX1_readFrom_25 rfl rfl rfl ?_
  refine rf_iconst (n := 27) (3 : Int32) dX1_readFrom_26 cciconst_3 rfl ?_
  refine rf_iadd (n := 28) dX1_readFrom_27 rfl ?_
  refine rf_letI (fun v7 => ?_)
  refine rf_istore_n (lc2 := [some (.ref 2), some (.ref 31), some (.int p2), some (.int v7)]) (n := 29) 3 dX1_readFrom_28 rfl rfl (Nat.le_of_ble_eq_true rfl) rfl rfl ?_
  refine rf_aload_n (n := 30) 1 dX1_readFrom_29 rfl rfl rfl ?_
  refine rf_iload_n (n := 31) 3 dX1_readFrom_30 rfl rfl rfl ?_
  refine rf_aload_n (n := 32) 0 dX1_readFrom_31 rfl rfl rfl ?_
  refine rf_getR (n := 35) rr_2_1 kk_4 hG dX1_readFrom_32 flX1_15 ki_1_1 sS_2 kk_2 rfl ?_
  refine rf_iconst (n := 36) (0 : Int32) dX1_readFrom_35 cciconst_0 rfl ?_
  refine rf_iconst (n := 37) (4 : Int32) dX1_readFrom_36 cciconst_4 rfl ?_
  refine rf_copy (n := 40) hG dX1_readFrom_37 cpX1_70 ax_cpw (Nat.le_of_ble_eq_true rfl) (Nat.le_of_ble_eq_true rfl) sS_31 sS_4 kk_31 kk_4 rfl (fun m8 => ?_)
  refine rf_aload_n (n := 41) 1 dX1_readFrom_40 rfl rfl rfl ?_
  refine rf_iload_n (n := 42) 3 dX1_readFrom_41 rfl rfl rfl ?_
  refine rf_iconst (n := 43) (4 : Int32) dX1_readFrom_42 cciconst_4 rfl ?_
  refine rf_iadd (n := 44) dX1_readFrom_43 rfl ?_
  refine rf_aload_n (n := 45) 0 dX1_readFrom_44 rfl rfl rfl ?_
  refine rf_getR (n := 48) rr_2_2 kk_5 hG dX1_readFrom_45 flX1_18 ki_1_2 sS_2 kk_2 rfl ?_
  refine rf_iconst (n := 49) (0 : Int32) dX1_readFrom_48 cciconst_0 rfl ?_
  refine rf_iconst (n := 50) (4 : Int32) dX1_readFrom_49 cciconst_4 rfl ?_
  refine rf_copy (n := 53) hG dX1_readFrom_50 cpX1_70 ax_cpw (Nat.le_of_ble_eq_true rfl) (Nat.le_of_ble_eq_true rfl) sS_31 sS_5 kk_31 kk_5 rfl (fun m9 => ?_)
  refine rf_iinc (lc2 := [some (.ref 2), some (.ref 31), some (.int p2), some (.int (v7 + (8 : Int32)))]) (n := 56) (w := (8 : Int32)) 3 dX1_readFrom_53 rfl rfl rfl (Nat.le_of_ble_eq_true rfl) rfl rfl ?_
  refine rf_aload_n (n := 57) 1 dX1_readFrom_56 rfl rfl rfl ?_
  refine rf_iload_n (n := 58) 3 dX1_readFrom_57 rfl rfl rfl ?_
  refine rf_aload_n (n := 59) 0 dX1_readFrom_58 rfl rfl rfl ?_
  refine rf_getR (n := 62) rr_2_10 kk_13 hG dX1_readFrom_59 flX1_42 ki_1_10 sS_2 kk_2 rfl ?_
  refine rf_iconst (n := 63) (0 : Int32) dX1_readFrom_62 cciconst_0 rfl ?_
  refine rf_bipush (n := 65) (24 : Int32) dX1_readFrom_63 ccbipush_24 rfl ?_
  refine rf_copy (n := 68) hG dX1_readFrom_65 cpX1_70 ax_cpw (Nat.le_of_ble_eq_true rfl) (Nat.le_of_ble_eq_true rfl) sS_31 sS_13 kk_31 kk_13 rfl (fun m10 => ?_)
  refine rf_aload_n (n := 69) 1 dX1_readFrom_68 rfl rfl rfl ?_
  refine rf_iload_n (n := 70) 3 dX1_readFrom_69 rfl rfl rfl ?_
  refine rf_bipush (n := 72) (24 : Int32) dX1_readFrom_70 ccbipush_24 rfl ?_
  refine rf_iadd (n := 73) dX1_readFrom_72 rfl ?_
  refine rf_aload_n (n := 74) 0 dX1_readFrom_73 rfl rfl rfl ?_
  refine rf_getR (n := 77) rr_2_11 kk_14 hG dX1_readFrom_74 flX1_45 ki_1_11 sS_2 kk_2 rfl ?_
  refine rf_iconst (n := 78) (0 : Int32) dX1_readFrom_77 cciconst_0 rfl ?_
  refine rf_bipush (n := 80) (24 : Int32) dX1_readFrom_78 ccbipush_24 rfl ?_
  refine rf_copy (n := 83) hG dX1_readFrom_80 cpX1_70 ax_cpw (Nat.le_of_ble_eq_true rfl) (Nat.le_of_ble_eq_true rfl) sS_31 sS_14 kk_31 kk_14 rfl (fun m11 => ?_)
  exact rf_retV rfl dX1_readFrom_83
def fX2_restoreImage (μ : ax_M) : Option (Unit × ax_M) :=
  (ax_bd (fX1_readFrom_1 (0 : Int32) μ) (fun _ m2 => (some ((), m2))))
theorem okX2_restoreImage (μ : ax_M) : ax_Ok mX2_restoreImage 2 ax_jV [.ref 29, .ref 2] μ (fX2_restoreImage μ) := by
  refine ax_start (lc := [some (.ref 29), some (.ref 2)]) 0 (by decide +kernel) rfl (Nat.le_of_ble_eq_true rfl) (fun x G hG => ?_)
  unfold fX2_restoreImage
  refine rf_aload_n (n := 1) 1 dX2_restoreImage_0 rfl rfl rfl ?_
  refine rf_aload_n (n := 2) 0 dX2_restoreImage_1 rfl rfl rfl ?_
  refine rf_getR (n := 5) rr_29_1 kk_31 hG dX2_restoreImage_2 flX2_15 ki_2_1 sS_29 kk_29 rfl ?_
  refine rf_iconst (n := 6) (0 : Int32) dX2_restoreImage_5 cciconst_0 rfl ?_
  refine rf_cV2V (n := 9) hG (okX1_readFrom_1 _ _) lVX2_35 hhX1_readFrom kk_2 sS_2 ⟨_, rfl, rfl⟩ dX2_restoreImage_6 rfl (Nat.le_of_ble_eq_true rfl) (Nat.le_of_ble_eq_true rfl) (fun _ m2 => ?_)
  exact rf_retV rfl dX2_restoreImage_9
def fX8_back (μ : ax_M) : Option (Int32 × ax_M) :=
  (if (μ.1 29 4) = 0 then (some ((-1 : Int32), μ)) else (ax_bd (fX2_restoreImage μ) (fun _ m2 => (ax_bd (fX2_forgetAll m2) (fun _ m4 => (ax_bd (fX8_forgetAnswers m4) (fun _ m6 => (some ((m6.1 2 16), m6)))))))))
theorem okX8_back (μ : ax_M) : ax_Ok mX8_back 3 ax_jI [.ref 0] μ (fX8_back μ) := by
  refine ax_start (lc := [some (.ref 0)]) 0 (by decide +kernel) rfl (Nat.le_of_ble_eq_true rfl) (fun x G hG => ?_)
  unfold fX8_back
  refine rf_aload_n (n := 1) 0 dX8_back_0 rfl rfl rfl ?_
  refine rf_getR (n := 4) rr_0_4 kk_29 hG dX8_back_1 flX8_32 ki_8_4 sS_0 kk_0 rfl ?_
  refine rf_getI (n := 7) hG dX8_back_4 flX8_89 ki_2_4 sS_29 kk_29 rfl ?_
  refine rf_if_ne (tg := 12) (n := 10) dX8_back_7 rfl rfl (fun c7 => ?_) (fun c7 => ?_)
  · refine rf_aload_n (n := 13) 0 dX8_back_12 rfl rfl rfl ?_
    refine rf_getR (n := 16) rr_0_4 kk_29 hG dX8_back_13 flX8_32 ki_8_4 sS_0 kk_0 rfl ?_
    refine rf_aload_n (n := 17) 0 dX8_back_16 rfl rfl rfl ?_
    refine rf_getR (n := 20) rr_0_2 kk_2 hG dX8_back_17 flX8_16 ki_8_2 sS_0 kk_0 rfl ?_
    refine rf_cV1V (n := 23) hG (okX2_restoreImage _) lVX8_327 hhX2_restoreImage kk_29 sS_29 ⟨_, rfl, rfl⟩ dX8_back_20 rfl (Nat.le_of_ble_eq_true rfl) (Nat.le_of_ble_eq_true rfl) (fun _ m2 => ?_)
    refine rf_aload_n (n := 24) 0 dX8_back_23 rfl rfl rfl ?_
    refine rf_getR (n := 27) rr_0_4 kk_29 hG dX8_back_24 flX8_32 ki_8_4 sS_0 kk_0 rfl ?_
    refine rf_cV0V (n := 30) hG (okX2_forgetAll _) lVX8_86 hhX2_forgetAll kk_29 sS_29 ⟨_, rfl, rfl⟩ dX8_back_27 rfl (Nat.le_of_ble_eq_true rfl) (Nat.le_of_ble_eq_true rfl) (fun _ m4 => ?_)
    refine rf_aload_n (n := 31) 0 dX8_back_30 rfl rfl rfl ?_
    refine rf_cV0V (n := 34) hG (okX8_forgetAnswers _) lVX8_93 hhX8_forgetAnswers kk_0 sS_0 ⟨_, rfl, rfl⟩ dX8_back_31 rfl (Nat.le_of_ble_eq_true rfl) (Nat.le_of_ble_eq_true rfl) (fun _ m6 => ?_)
    refine rf_aload_n (n := 35) 0 dX8_back_34 rfl rfl rfl ?_
    refine rf_getR (n := 38) rr_0_2 kk_2 hG dX8_back_35 flX8_16 ki_8_2 sS_0 kk_0 rfl ?_
    refine rf_getI (n := 41) hG dX8_back_38 flX8_128 ki_1_16 sS_2 kk_2 rfl ?_
    exact rf_retI rfl dX8_back_41
  · refine rf_iconst (n := 11) (-1 : Int32) dX8_back_10 cciconst_m1 rfl ?_
    exact rf_retI rfl dX8_back_11
def fX9_back (μ : ax_M) : Option (Int32 × ax_M) :=
  (ax_let (ax_wi μ 57 0 (0 : Int32)) (fun m1 => (if (m1.1 57 31) = 0 then (some ((-1 : Int32), m1)) else (ax_bd (fX9_laysBack (20 : Int32) m1) (fun _ m3 => (ax_let (ax_wi m3 57 30 (0 : Int32)) (fun m4 => (Option.bind (ax_rd m4 74 68 (0 : Int32)) (fun v5 => (some (v5, m4)))))))))))
theorem okX9_back (μ : ax_M) : ax_Ok mX9_back 1 ax_jI [.ref 57] μ (fX9_back μ) := by
  refine ax_start (lc := [some (.ref 57)]) 0 (by decide +kernel) rfl (Nat.le_of_ble_eq_true rfl) (fun x G hG => ?_)
  unfold fX9_back
  refine rf_aload_n (n := 1) 0 dX9_back_0 rfl rfl rfl ?_
  refine rf_iconst (n := 2) (0 : Int32) dX9_back_1 cciconst_0 rfl ?_
  refine rf_pfI (n := 5) hG rfl dX9_back_2 flX9_103 ki_9_0 nf_9_0 sS_57 kk_57 rfl (fun m1 => ?_)
  refine rf_aload_n (n := 6) 0 dX9_back_5 rfl rfl rfl ?_
  refine rf_getI (n := 9) hG dX9_back_6 flX9_226 ki_9_31 sS_57 kk_57 rfl ?_
  refine rf_if_ne (tg := 14) (n := 12) dX9_back_9 rfl rfl (fun c6 => ?_) (fun c6 => ?_)
  · refine rf_aload_n (n := 15) 0 dX9_back_14 rfl rfl rfl ?_
    refine rf_bipush (n := 17) (20 : Int32) dX9_back_15 ccbipush_20 rfl ?_
    refine rf_cV1V (n := 20) hG (okX9_laysBack _ _) lVX9_242 hhX9_laysBack kk_57 sS_57 ⟨_, rfl, rfl⟩ dX9_back_17 rfl (Nat.le_of_ble_eq_true rfl) (Nat.le_of_ble_eq_true rfl) (fun _ m3 => ?_)
    refine rf_aload_n (n := 21) 0 dX9_back_20 rfl rfl rfl ?_
    refine rf_iconst (n := 22) (0 : Int32) dX9_back_21 cciconst_0 rfl ?_
    refine rf_pfI (n := 25) hG rfl dX9_back_22 flX9_223 ki_9_30 nf_9_30 sS_57 kk_57 rfl (fun m4 => ?_)
    refine rf_aload_n (n := 26) 0 dX9_back_25 rfl rfl rfl ?_
    refine rf_getR (n := 29) rr_57_28 kk_74 hG dX9_back_26 flX9_63 ki_9_28 sS_57 kk_57 rfl ?_
    refine rf_iconst (n := 30) (0 : Int32) dX9_back_29 cciconst_0 rfl ?_
    refine rf_iald (n := 31) hG dX9_back_30 sS_74 kk_74 rfl (fun v5 => ?_)
    exact rf_retI rfl dX9_back_31
  · refine rf_iconst (n := 13) (-1 : Int32) dX9_back_12 cciconst_m1 rfl ?_
    exact rf_retI rfl dX9_back_13
def fX8_count (p1 : Int32) (μ : ax_M) : Option (Int32 × ax_M) :=
  (if p1 = (0 : Int32) then (some ((μ.1 2 12), μ)) else (if p1 = (1 : Int32) then (some ((μ.1 2 13), μ)) else (if p1 = (2 : Int32) then (some ((μ.1 2 14), μ)) else (if p1 = (3 : Int32) then (some ((μ.1 2 16), μ)) else (if p1 = (4 : Int32) then (ax_bd (fJ6_bitCount_0f7a4 (μ.1 2 15) μ) (fun v6 m7 => (some (v6, m7)))) else (if p1 = (5 : Int32) then (some ((μ.1 29 3), μ)) else (if p1 = (6 : Int32) then (some ((μ.1 0 1), μ)) else (if p1 = (7 : Int32) then (some ((μ.1 2 17), μ)) else (if p1 = (8 : Int32) then (ax_bd (fX1_latches μ) (fun v12 m13 => (ax_bd (fJ6_bitCount_0f7a4 v12 m13) (fun v14 m15 => (some (v14, m15)))))) else (some ((-1 : Int32), μ)))))))))))
theorem okX8_count (p1 : Int32) (μ : ax_M) : ax_Ok mX8_count 1 ax_jI [.ref 0, .int p1] μ (fX8_count p1 μ) := by
  refine ax_start (lc := [some (.ref 0), some (.int p1)]) 0 (by decide +kernel) rfl (Nat.le_of_ble_eq_true rfl) (fun x G hG => ?_)
  unfold fX8_count
  refine rf_iload_n (n := 1) 1 dX8_count_0 rfl rfl rfl ?_
  refine rf_split (fun c1 => ?_) (fun c1 => ?_)
  · refine rf_tabIn (tg := 52) (0 : Int32) c1 dX8_count_1 (by decide) rfl rfl ?_
    refine rf_aload_n (n := 53) 0 dX8_count_52 rfl rfl rfl ?_
    refine rf_getR (n := 56) rr_0_2 kk_2 hG dX8_count_53 flX8_16 ki_8_2 sS_0 kk_0 rfl ?_
    refine rf_getI (n := 59) hG dX8_count_56 flX8_108 ki_1_12 sS_2 kk_2 rfl ?_
    exact rf_retI rfl dX8_count_59
  · refine rf_split (fun c2 => ?_) (fun c2 => ?_)
    · refine rf_tabIn (tg := 60) (1 : Int32) c2 dX8_count_1 (by decide) rfl rfl ?_
      refine rf_aload_n (n := 61) 0 dX8_count_60 rfl rfl rfl ?_
      refine rf_getR (n := 64) rr_0_2 kk_2 hG dX8_count_61 flX8_16 ki_8_2 sS_0 kk_0 rfl ?_
      refine rf_getI (n := 67) hG dX8_count_64 flX8_118 ki_1_13 sS_2 kk_2 rfl ?_
      exact rf_retI rfl dX8_count_67
    · refine rf_split (fun c3 => ?_) (fun c3 => ?_)
      · refine rf_tabIn (tg := 68) (2 : Int32) c3 dX8_count_1 (by decide) rfl rfl ?_
        refine rf_aload_n (n := 69) 0 dX8_count_68 rfl rfl rfl ?_
        refine rf_getR (n := 72) rr_0_2 kk_2 hG dX8_count_69 flX8_16 ki_8_2 sS_0 kk_0 rfl ?_
        refine rf_getI (n := 75) hG dX8_count_72 flX8_197 ki_1_14 sS_2 kk_2 rfl ?_
        exact rf_retI rfl dX8_count_75
      · refine rf_split (fun c4 => ?_) (fun c4 => ?_)
        · refine rf_tabIn (tg := 76) (3 : Int32) c4 dX8_count_1 (by decide) rfl rfl ?_
          refine rf_aload_n (n := 77) 0 dX8_count_76 rfl rfl rfl ?_
          refine rf_getR (n := 80) rr_0_2 kk_2 hG dX8_count_77 flX8_16 ki_8_2 sS_0 kk_0 rfl ?_
          refine rf_getI (n := 83) hG dX8_count_80 flX8_128 ki_1_16 sS_2 kk_2 rfl ?_
          exact rf_retI rfl dX8_count_83
        · refine rf_split (fun c5 => ?_) (fun c5 => ?_)
          · refine rf_tabIn (tg := 84) (4 : Int32) c5 dX8_count_1 (by decide) rfl rfl ?_
            refine rf_aload_n (n := 85) 0 dX8_count_84 rfl rfl rfl ?_
            refine rf_getR (n := 88) rr_0_2 kk_2 hG dX8_count_85 flX8_16 ki_8_2 sS_0 kk_0 rfl ?_
            refine rf_getI (n := 91) hG dX8_count_88 flX8_155 ki_1_15 sS_2 kk_2 rfl ?_
            refine rf_cS1I (n := 94) hG (okJ6_bitCount_0f7a4 _ _) lSX8_330 hhJ6_bitCount_0f7a4 dX8_count_91 rfl (Nat.le_of_ble_eq_true rfl) (Nat.le_of_ble_eq_true rfl) (fun v6 m7 => ?_)
            exact rf_retI rfl dX8_count_94
          · refine rf_split (fun c8 => ?_) (fun c8 => ?_)
            · refine rf_tabIn (tg := 95) (5 : Int32) c8 dX8_count_1 (by decide) rfl rfl ?_
              refine rf_aload_n (n := 96) 0 dX8_count_95 rfl rfl rfl ?_
              refine rf_getR (n := 99) rr_0_4 kk_29 hG dX8_count_96 flX8_32 ki_8_4 sS_0 kk_0 rfl ?_
              refine rf_getI (n := 102) hG dX8_count_99 flX8_318 ki_2_3 sS_29 kk_29 rfl ?_
              exact rf_retI rfl dX8_count_102
            · refine rf_split (fun c9 => ?_) (fun c9 => ?_)
              · refine rf_tabIn (tg := 103) (6 : Int32) c9 dX8_count_1 (by decide) rfl rfl ?_
                refine rf_aload_n (n := 104) 0 dX8_count_103 rfl rfl rfl ?_
                refine rf_getI (n := 107) hG dX8_count_104 flX8_68 ki_8_1 sS_0 kk_0 rfl ?_
                exact rf_retI rfl dX8_count_107
              · refine rf_split (fun c10 => ?_) (fun c10 => ?_)
                · refine rf_tabIn (tg := 108) (7 : Int32) c10 dX8_count_1 (by decide) rfl rfl ?_
                  refine rf_aload_n (n := 109) 0 dX8_count_108 rfl rfl rfl ?_
                  refine rf_getR (n := 112) rr_0_2 kk_2 hG dX8_count_109 flX8_16 ki_8_2 sS_0 kk_0 rfl ?_
                  refine rf_getI (n := 115) hG dX8_count_112 flX8_161 ki_1_17 sS_2 kk_2 rfl ?_
                  exact rf_retI rfl dX8_count_115
                · refine rf_split (fun c11 => ?_) (fun c11 => ?_)
                  · refine rf_tabIn (tg := 116) (8 : Int32) c11 dX8_count_1 (by decide) rfl rfl ?_
                    refine rf_aload_n (n := 117) 0 dX8_count_116 rfl rfl rfl ?_
                    refine rf_getR (n := 120) rr_0_2 kk_2 hG dX8_count_117 flX8_16 ki_8_2 sS_0 kk_0 rfl ?_
                    refine rf_cV0I (n := 123) hG (okX1_latches _) lVX8_335 hhX1_latches kk_2 sS_2 ⟨_, rfl, rfl⟩ dX8_count_120 rfl (Nat.le_of_ble_eq_true rfl) (Nat.le_of_ble_eq_true rfl) (fun v12 m13 => ?_)
                    refine rf_cS1I (n := 126) hG (okJ6_bitCount_0f7a4 _ _) lSX8_330 hhJ6_bitCount_0f7a4 dX8_count_123 rfl (Nat.le_of_ble_eq_true rfl) (Nat.le_of_ble_eq_true rfl) (fun v14 m15 => ?_)
                    exact rf_retI rfl dX8_count_126
                  · refine rf_tabOut (tg := 127) [(0 : Int32), (1 : Int32), (2 : Int32), (3 : Int32), (4 : Int32), (5 : Int32), (6 : Int32), (7 : Int32), (8 : Int32)] (List.forall_mem_cons.mpr ⟨c1, List.forall_mem_cons.mpr ⟨c2, List.forall_mem_cons.mpr ⟨c3, List.forall_mem_cons.mpr ⟨c4, List.forall_mem_cons.mpr ⟨c5, List.forall_mem_cons.mpr ⟨c8, List.forall_mem_cons.mpr ⟨c9, List.forall_mem_cons.mpr ⟨c10, List.forall_mem_cons.mpr ⟨c11, List.forall_mem_nil _⟩⟩⟩⟩⟩⟩⟩⟩⟩) dX8_count_1 (by decide) rfl ?_
                    refine rf_iconst (n := 128) (-1 : Int32) dX8_count_127 cciconst_m1 rfl ?_
                    exact rf_retI rfl dX8_count_128
