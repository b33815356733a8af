def fL_law_K1547 (xs : Nat → Int32) (L : Nat) (l4 : Int32) (r23 : Int32 → ax_M → Option (Int32 × ax_M)) (μ : ax_M) : Option (Int32 × ax_M) :=
  (r23 (l4 + (6 : Int32)) μ)
theorem pL_law_K1547 {x : ax_X} {G : ax_G} {n1 n2 : Nat} {xs : Nat → Int32} {L : Nat} {Z : Int32 → ax_M → State → Prop} (hG : ax_ok G) (hk : 84 < ax_gk G) (hst : x.2.1.stackTraces = false) (hE : ax_Xe G (ax_xs x)) (hX : ax_Sc G x L xs) (hend9 : ∀ (m1 m2 : Nat) (lc : List (Option Value)) (μ : ax_M), ax_Rf mL_law 20 x Z G m1 m2 1554 lc [.int 1] μ (some (1, μ))) (l4 : Int32) (r23 : Int32 → ax_M → Option (Int32 × ax_M)) (hr23 : ∀ (a4 : Int32) (μ : ax_M), ax_Rf mL_law 20 x Z G n1 n2 23 [some (.ref 1000001), some (.ref 0), some (.ref 57), some (.ref 84), some (.int a4), none, none] [] μ (r23 a4 μ)) (μ : ax_M) : ax_Rf mL_law 20 x Z G n1 n2 1547 [some (.ref 1000001), some (.ref 0), some (.ref 57), some (.ref 84), some (.int l4), none, none] [] μ (fL_law_K1547 xs L l4 r23 μ) := by
  unfold fL_law_K1547
  refine rf_iinc (lc2 := [some (.ref 1000001), some (.ref 0), some (.ref 57), some (.ref 84), some (.int (l4 + (6 : Int32))), none, none]) (n := 1550) (w := (6 : Int32)) 4 dL_law_1547 rfl rfl rfl (Nat.le_of_ble_eq_true rfl) rfl rfl ?_
  refine rf_goto (tg := 23) dL_law_1550 rfl ?_
  exact hr23 _ _
def fL_law_K671 (xs : Nat → Int32) (L : Nat) (l4 : Int32) (r23 : Int32 → ax_M → Option (Int32 × ax_M)) (μ : ax_M) : Option (Int32 × ax_M) :=
  (fL_law_K1547 xs L l4 r23 μ)
theorem pL_law_K671 {x : ax_X} {G : ax_G} {n1 n2 : Nat} {xs : Nat → Int32} {L : Nat} {Z : Int32 → ax_M → State → Prop} (hG : ax_ok G) (hk : 84 < ax_gk G) (hst : x.2.1.stackTraces = false) (hE : ax_Xe G (ax_xs x)) (hX : ax_Sc G x L xs) (hend9 : ∀ (m1 m2 : Nat) (lc : List (Option Value)) (μ : ax_M), ax_Rf mL_law 20 x Z G m1 m2 1554 lc [.int 1] μ (some (1, μ))) (l4 : Int32) (r23 : Int32 → ax_M → Option (Int32 × ax_M)) (hr23 : ∀ (a4 : Int32) (μ : ax_M), ax_Rf mL_law 20 x Z G n1 n2 23 [some (.ref 1000001), some (.ref 0), some (.ref 57), some (.ref 84), some (.int a4), none, none] [] μ (r23 a4 μ)) (μ : ax_M) : ax_Rf mL_law 20 x Z G n1 n2 671 [some (.ref 1000001), some (.ref 0), some (.ref 57), some (.ref 84), some (.int l4), none, none] [] μ (fL_law_K671 xs L l4 r23 μ) := by
  unfold fL_law_K671
  refine rf_goto (tg := 1547) dL_law_671 rfl ?_
  exact pL_law_K1547 hG hk hst hE hX hend9 _ r23 hr23 _
def fL_law_K1086 (xs : Nat → Int32) (L : Nat) (l4 : Int32) (s0 : Int64) (s2 : Int32) (r23 : Int32 → ax_M → Option (Int32 × ax_M)) (μ : ax_M) : Option (Int32 × ax_M) :=
  (ax_bd (fX9_ratio s2 μ) (fun v238 m239 => (if (lg_cmp s0 v238) = 0 then (fL_law_K1547 xs L l4 r23 m239) else none)))
theorem pL_law_K1086 {x : ax_X} {G : ax_G} {n1 n2 : Nat} {xs : Nat → Int32} {L : Nat} {Z : Int32 → ax_M → State → Prop} (hG : ax_ok G) (hk : 84 < ax_gk G) (hst : x.2.1.stackTraces = false) (hE : ax_Xe G (ax_xs x)) (hX : ax_Sc G x L xs) (hend9 : ∀ (m1 m2 : Nat) (lc : List (Option Value)) (μ : ax_M), ax_Rf mL_law 20 x Z G m1 m2 1554 lc [.int 1] μ (some (1, μ))) (hw1 : n1 + 1 ≤ (ax_xR x).cells) (hw2 : n2 + 6 ≤ (ax_xR x).slots) (l4 : Int32) (s0 : Int64) (s2 : Int32) (r23 : Int32 → ax_M → Option (Int32 × ax_M)) (hr23 : ∀ (a4 : Int32) (μ : ax_M), ax_Rf mL_law 20 x Z G (n1 + 1) (n2 + 6) 23 [some (.ref 1000001), some (.ref 0), some (.ref 57), some (.ref 84), some (.int a4), none, none] [] μ (r23 a4 μ)) (μ : ax_M) : ax_Rf mL_law 20 x Z G n1 n2 1086 [some (.ref 1000001), some (.ref 0), some (.ref 57), some (.ref 84), some (.int l4), none, none] [.int s2, .ref 57, .long s0] μ (fL_law_K1086 xs L l4 s0 s2 r23 μ) := by
  unfold fL_law_K1086
  refine rf_cV1L (n := 1089) hG (okX9_ratio _ _) lVL_137 hhX9_ratio kk_57 sS_57 ⟨_, rfl, rfl⟩ dL_law_1086 rfl (Nat.le_of_ble_eq_true rfl) (Nat.le_of_ble_eq_true rfl) (fun v238 m239 => ?_)
  refine rf_lcmp (n := 1090) dL_law_1089 rfl ?_
  refine rf_if_eq (tg := 1547) (n := 1093) dL_law_1090 rfl rfl (fun c240 => ?_) (fun c240 => ?_)
  · refine rf_widen (k1 := n1 + 1) (k2 := n2 + 6) (Nat.le_succ _) (Nat.le_add_right _ _) hw1 hw2 ?_
    exact pL_law_K1547 hG hk hst hE hX hend9 _ r23 hr23 _
  · refine rf_iconst (n := 1094) (0 : Int32) dL_law_1093 cciconst_0 rfl ?_
    exact rf_none
def fL_law_K1068 (xs : Nat → Int32) (L : Nat) (l4 : Int32) (s1 : Int32) (r23 : Int32 → ax_M → Option (Int32 × ax_M)) (μ : ax_M) : Option (Int32 × ax_M) :=
  (ax_bd (fX8_ratio s1 μ) (fun v235 m236 => (Option.bind (ax_sc xs L (l4 + (1 : Int32))) (fun v237 => (if v237 = 0 then (fL_law_K1086 xs L l4 v235 (0 : Int32) r23 m236) else (fL_law_K1086 xs L l4 v235 (1 : Int32) r23 m236))))))
theorem pL_law_K1068 {x : ax_X} {G : ax_G} {n1 n2 : Nat} {xs : Nat → Int32} {L : Nat} {Z : Int32 → ax_M → State → Prop} (hG : ax_ok G) (hk : 84 < ax_gk G) (hst : x.2.1.stackTraces = false) (hE : ax_Xe G (ax_xs x)) (hX : ax_Sc G x L xs) (hend9 : ∀ (m1 m2 : Nat) (lc : List (Option Value)) (μ : ax_M), ax_Rf mL_law 20 x Z G m1 m2 1554 lc [.int 1] μ (some (1, μ))) (hw1 : n1 + 1 ≤ (ax_xR x).cells) (hw2 : n2 + 6 ≤ (ax_xR x).slots) (l4 : Int32) (s1 : Int32) (r23 : Int32 → ax_M → Option (Int32 × ax_M)) (hr23 : ∀ (a4 : Int32) (μ : ax_M), ax_Rf mL_law 20 x Z G (n1 + 1) (n2 + 6) 23 [some (.ref 1000001), some (.ref 0), some (.ref 57), some (.ref 84), some (.int a4), none, none] [] μ (r23 a4 μ)) (μ : ax_M) : ax_Rf mL_law 20 x Z G n1 n2 1068 [some (.ref 1000001), some (.ref 0), some (.ref 57), some (.ref 84), some (.int l4), none, none] [.int s1, .ref 0] μ (fL_law_K1068 xs L l4 s1 r23 μ) := by
  unfold fL_law_K1068
  refine rf_cV1L (n := 1071) hG (okX8_ratio _ _) lVL_133 hhX8_ratio kk_0 sS_0 ⟨_, rfl, rfl⟩ dL_law_1068 rfl (Nat.le_of_ble_eq_true rfl) (Nat.le_of_ble_eq_true rfl) (fun v235 m236 => ?_)
  refine rf_aload_n (n := 1072) 2 dL_law_1071 rfl rfl rfl ?_
  refine rf_aload_n (n := 1073) 0 dL_law_1072 rfl rfl rfl ?_
  refine rf_iload (n := 1075) 4 dL_law_1073 rfl rfl ?_
  refine rf_iconst (n := 1076) (1 : Int32) dL_law_1075 cciconst_1 rfl ?_
  refine rf_iadd (n := 1077) dL_law_1076 rfl ?_
  refine rf_scd (n := 1078) hX dL_law_1077 rfl (fun v237 => ?_)
  refine rf_if_eq (tg := 1085) (n := 1081) dL_law_1078 rfl rfl (fun c241 => ?_) (fun c241 => ?_)
  · refine rf_iconst (n := 1086) (0 : Int32) dL_law_1085 cciconst_0 rfl ?_
    exact pL_law_K1086 hG hk hst hE hX hend9 hw1 hw2 _ _ _ r23 hr23 _
  · refine rf_iconst (n := 1082) (1 : Int32) dL_law_1081 cciconst_1 rfl ?_
    refine rf_goto (tg := 1086) dL_law_1082 rfl ?_
    exact pL_law_K1086 hG hk hst hE hX hend9 hw1 hw2 _ _ _ r23 hr23 _
def fL_law_B23 (xs : Nat → Int32) (L : Nat) (r23 : Int32 → ax_M → Option (Int32 × ax_M)) (l4 : Int32) (μ : ax_M) : Option (Int32 × ax_M) :=
  (if ((Int32.ofNat L) - (6 : Int32)) < l4 then (some ((1 : Int32), μ)) else (Option.bind (ax_sc xs L l4) (fun v1 => (if (v1 &&& (63 : Int32)) = (0 : Int32) then (Option.bind (ax_sc xs L (l4 + (1 : Int32))) (fun v3 => (Option.bind (ax_sc xs L (l4 + (2 : Int32))) (fun v4 => (Option.bind (ax_sc xs L (l4 + (3 : Int32))) (fun v5 => (Option.bind (ax_sc xs L (l4 + (4 : Int32))) (fun v6 => (Option.bind (ax_sc xs L (l4 + (5 : Int32))) (fun v7 => (ax_bd (fX8_feed v3 v4 v5 v6 v7 μ) (fun v8 m9 => (Option.bind (ax_sc xs L (l4 + (1 : Int32))) (fun v10 => (Option.bind (ax_sc xs L (l4 + (2 : Int32))) (fun v11 => (Option.bind (ax_sc xs L (l4 + (3 : Int32))) (fun v12 => (Option.bind (ax_sc xs L (l4 + (4 : Int32))) (fun v13 => (Option.bind (ax_sc xs L (l4 + (5 : Int32))) (fun v14 => (ax_bd (fX9_feed v10 v11 v12 v13 v14 m9) (fun v15 m16 => (if v8 = v15 then (fL_law_K1547 xs L l4 r23 m16) else none))))))))))))))))))))))))) else (if (v1 &&& (63 : Int32)) = (1 : Int32) then (Option.bind (ax_sc xs L (l4 + (1 : Int32))) (fun v19 => (ax_bd (fX8_text v19 μ) (fun v20 m21 => (Option.bind (ax_sc xs L (l4 + (1 : Int32))) (fun v22 => (ax_bd (fX9_text v22 m21) (fun v23 m24 => (if v20 = v23 then (fL_law_K1547 xs L l4 r23 m24) else none))))))))) else (if (v1 &&& (63 : Int32)) = (2 : Int32) then (Option.bind (ax_sc xs L (l4 + (1 : Int32))) (fun v27 => (ax_bd (fX8_fault v27 μ) (fun v28 m29 => (Option.bind (ax_sc xs L (l4 + (1 : Int32))) (fun v30 => (ax_bd (fX9_fault v30 m29) (fun v31 m32 => (if v28 = v31 then (fL_law_K1547 xs L l4 r23 m32) else none))))))))) else (if (v1 &&& (63 : Int32)) = (3 : Int32) then (Option.bind (ax_sc xs L (l4 + (1 : Int32))) (fun v35 => (Option.bind (ax_sc xs L (l4 + (2 : Int32))) (fun v36 => (ax_bd (fX8_named v35 v36 μ) (fun v37 m38 => (Option.bind (ax_sc xs L (l4 + (1 : Int32))) (fun v39 => (Option.bind (ax_sc xs L (l4 + (2 : Int32))) (fun v40 => (ax_bd (fX9_named v39 v40 m38) (fun v41 m42 => (if v37 = v41 then (fL_law_K1547 xs L l4 r23 m42) else none))))))))))))) else (if (v1 &&& (63 : Int32)) = (4 : Int32) then (Option.bind (ax_sc xs L (l4 + (1 : Int32))) (fun v45 => (ax_bd (fX8_period v45 μ) (fun v46 m47 => (Option.bind (ax_sc xs L (l4 + (1 : Int32))) (fun v48 => (ax_bd (fX9_period v48 m47) (fun v49 m50 => (if v46 = v49 then (fL_law_K1547 xs L l4 r23 m50) else none))))))))) else (if (v1 &&& (63 : Int32)) = (5 : Int32) then (Option.bind (ax_sc xs L (l4 + (1 : Int32))) (fun v53 => (Option.bind (ax_sc xs L (l4 + (2 : Int32))) (fun v54 => (Option.bind (ax_sc xs L (l4 + (3 : Int32))) (fun v55 => (ax_bd (fX8_phase v53 v54 v55 μ) (fun v56 m57 => (Option.bind (ax_sc xs L (l4 + (1 : Int32))) (fun v58 => (Option.bind (ax_sc xs L (l4 + (2 : Int32))) (fun v59 => (Option.bind (ax_sc xs L (l4 + (3 : Int32))) (fun v60 => (ax_bd (fX9_phase v58 v59 v60 m57) (fun v61 m62 => (if v56 = v61 then (fL_law_K1547 xs L l4 r23 m62) else none))))))))))))))))) else (if (v1 &&& (63 : Int32)) = (6 : Int32) then (Option.bind (ax_sc xs L (l4 + (1 : Int32))) (fun v65 => (Option.bind (ax_sc xs L (l4 + (2 : Int32))) (fun v66 => (Option.bind (ax_sc xs L (l4 + (3 : Int32))) (fun v67 => (ax_bd (fX8_delay v65 v66 v67 μ) (fun v68 m69 => (Option.bind (ax_sc xs L (l4 + (1 : Int32))) (fun v70 => (Option.bind (ax_sc xs L (l4 + (2 : Int32))) (fun v71 => (Option.bind (ax_sc xs L (l4 + (3 : Int32))) (fun v72 => (ax_bd (fX9_delay v70 v71 v72 m69) (fun v73 m74 => (if v68 = v73 then (fL_law_K1547 xs L l4 r23 m74) else none))))))))))))))))) else (if (v1 &&& (63 : Int32)) = (7 : Int32) then (Option.bind (ax_sc xs L (l4 + (1 : Int32))) (fun v77 => (ax_bd (fX8_flop v77 μ) (fun v78 m79 => (Option.bind (ax_sc xs L (l4 + (1 : Int32))) (fun v80 => (ax_bd (fX9_flop v80 m79) (fun v81 m82 => (if v78 = v81 then (fL_law_K1547 xs L l4 r23 m82) else none))))))))) else (if (v1 &&& (63 : Int32)) = (8 : Int32) then (Option.bind (ax_sc xs L (l4 + (1 : Int32))) (fun v85 => (ax_bd (fX8_skew v85 μ) (fun v86 m87 => (Option.bind (ax_sc xs L (l4 + (1 : Int32))) (fun v88 => (ax_bd (fX9_skew v88 m87) (fun v89 m90 => (if v86 = v89 then (fL_law_K1547 xs L l4 r23 m90) else none))))))))) else (if (v1 &&& (63 : Int32)) = (9 : Int32) then (Option.bind (ax_sc xs L (l4 + (1 : Int32))) (fun v93 => (Option.bind (ax_sc xs L (l4 + (2 : Int32))) (fun v94 => (ax_bd (fX8_move v93 v94 μ) (fun v95 m96 => (Option.bind (ax_sc xs L (l4 + (1 : Int32))) (fun v97 => (Option.bind (ax_sc xs L (l4 + (2 : Int32))) (fun v98 => (ax_bd (fX9_move v97 v98 m96) (fun v99 m100 => (if v95 = v99 then (fL_law_K1547 xs L l4 r23 m100) else none))))))))))))) else (if (v1 &&& (63 : Int32)) = (10 : Int32) then (Option.bind (ax_sc xs L (l4 + (1 : Int32))) (fun v103 => (Option.bind (ax_sc xs L (l4 + (2 : Int32))) (fun v104 => (ax_bd (fL_cell v103 v104 μ) (fun v105 m106 => (Option.bind (ax_sc xs L (l4 + (1 : Int32))) (fun v107 => (Option.bind (ax_sc xs L (l4 + (2 : Int32))) (fun v108 => (ax_bd (fX9_cell v107 v108 m106) (fun v109 m110 => (ax_bd (fX9_thrown m110) (fun v111 m112 => (if v111 = v105 then (if v105 = 0 then (Option.bind (ax_rl m112 84 1 (0 : Int32)) (fun v113 => (if (lg_cmp v113 (Int32.toInt64 v109)) = 0 then (fL_law_K671 xs L l4 r23 m112) else none))) else (fL_law_K671 xs L l4 r23 m112)) else none))))))))))))))) else (if (v1 &&& (63 : Int32)) = (11 : Int32) then (Option.bind (ax_sc xs L (l4 + (1 : Int32))) (fun v118 => (Option.bind (ax_sc xs L (l4 + (2 : Int32))) (fun v119 => (ax_bd (fX8_path v118 v119 μ) (fun v120 m121 => (Option.bind (ax_sc xs L (l4 + (1 : Int32))) (fun v122 => (Option.bind (ax_sc xs L (l4 + (2 : Int32))) (fun v123 => (ax_bd (fX9_path v122 v123 m121) (fun v124 m125 => (if v120 = v124 then (fL_law_K1547 xs L l4 r23 m125) else none))))))))))))) else (if (v1 &&& (63 : Int32)) = (12 : Int32) then (Option.bind (ax_sc xs L (l4 + (1 : Int32))) (fun v128 => (Option.bind (ax_sc xs L (l4 + (2 : Int32))) (fun v129 => (ax_bd (fX8_opens v128 v129 μ) (fun v130 m131 => (Option.bind (ax_sc xs L (l4 + (1 : Int32))) (fun v132 => (Option.bind (ax_sc xs L (l4 + (2 : Int32))) (fun v133 => (ax_bd (fX9_opens v132 v133 m131) (fun v134 m135 => (if v130 = v134 then (fL_law_K1547 xs L l4 r23 m135) else none))))))))))))) else (if (v1 &&& (63 : Int32)) = (13 : Int32) then (Option.bind (ax_sc xs L (l4 + (1 : Int32))) (fun v138 => (ax_bd (fX8_leaves v138 μ) (fun v139 m140 => (Option.bind (ax_sc xs L (l4 + (1 : Int32))) (fun v141 => (ax_bd (fX9_leaves v141 m140) (fun v142 m143 => (if (lg_cmp v139 v142) = 0 then (fL_law_K1547 xs L l4 r23 m143) else none))))))))) else (if (v1 &&& (63 : Int32)) = (14 : Int32) then (Option.bind (ax_sc xs L (l4 + (1 : Int32))) (fun v146 => (ax_bd (fX8_comes v146 μ) (fun v147 m148 => (Option.bind (ax_sc xs L (l4 + (1 : Int32))) (fun v149 => (ax_bd (fX9_comes v149 m148) (fun v150 m151 => (if (lg_cmp v147 v150) = 0 then (fL_law_K1547 xs L l4 r23 m151) else none))))))))) else (if (v1 &&& (63 : Int32)) = (15 : Int32) then (Option.bind (ax_sc xs L (l4 + (1 : Int32))) (fun v154 => (ax_bd (fX8_room v154 μ) (fun v155 m156 => (Option.bind (ax_sc xs L (l4 + (1 : Int32))) (fun v157 => (ax_bd (fX9_room v157 m156) (fun v158 m159 => (if (lg_cmp v155 v158) = 0 then (fL_law_K1547 xs L l4 r23 m159) else none))))))))) else (if (v1 &&& (63 : Int32)) = (16 : Int32) then (Option.bind (ax_sc xs L (l4 + (1 : Int32))) (fun v162 => (ax_bd (fX8_from v162 μ) (fun v163 m164 => (Option.bind (ax_sc xs L (l4 + (1 : Int32))) (fun v165 => (ax_bd (fX9_from v165 m164) (fun v166 m167 => (if v163 = v166 then (fL_law_K1547 xs L l4 r23 m167) else none))))))))) else (if (v1 &&& (63 : Int32)) = (17 : Int32) then (Option.bind (ax_sc xs L (l4 + (1 : Int32))) (fun v170 => (Option.bind (ax_sc xs L (l4 + (2 : Int32))) (fun v171 => (ax_bd (fX8_chain v170 v171 μ) (fun v172 m173 => (Option.bind (ax_sc xs L (l4 + (1 : Int32))) (fun v174 => (Option.bind (ax_sc xs L (l4 + (2 : Int32))) (fun v175 => (ax_bd (fX9_chain v174 v175 m173) (fun v176 m177 => (if v172 = v176 then (fL_law_K1547 xs L l4 r23 m177) else none))))))))))))) else (if (v1 &&& (63 : Int32)) = (18 : Int32) then (Option.bind (ax_sc xs L (l4 + (1 : Int32))) (fun v180 => (ax_bd (fX8_which v180 μ) (fun v181 m182 => (Option.bind (ax_sc xs L (l4 + (1 : Int32))) (fun v183 => (ax_bd (fX9_which v183 m182) (fun v184 m185 => (if v181 = v184 then (fL_law_K1547 xs L l4 r23 m185) else none))))))))) else (if (v1 &&& (63 : Int32)) = (19 : Int32) then (ax_bd (fX8_good μ) (fun v188 m189 => (ax_bd (fX9_good m189) (fun v190 m191 => (if v188 = v190 then (fL_law_K1547 xs L l4 r23 m191) else none))))) else (if (v1 &&& (63 : Int32)) = (20 : Int32) then (Option.bind (ax_sc xs L (l4 + (1 : Int32))) (fun v194 => (ax_bd (fX8_gap v194 μ) (fun v195 m196 => (Option.bind (ax_sc xs L (l4 + (1 : Int32))) (fun v197 => (ax_bd (fX9_gap v197 m196) (fun v198 m199 => (if (lg_cmp v195 v198) = 0 then (fL_law_K1547 xs L l4 r23 m199) else none))))))))) else (if (v1 &&& (63 : Int32)) = (21 : Int32) then (Option.bind (ax_sc xs L (l4 + (1 : Int32))) (fun v202 => (ax_bd (fX8_pad v202 μ) (fun v203 m204 => (Option.bind (ax_sc xs L (l4 + (1 : Int32))) (fun v205 => (ax_bd (fX9_pad v205 m204) (fun v206 m207 => (if v203 = v206 then (fL_law_K1547 xs L l4 r23 m207) else none))))))))) else (if (v1 &&& (63 : Int32)) = (22 : Int32) then (ax_bd (fX8_pads μ) (fun v210 m211 => (ax_bd (fX9_pads m211) (fun v212 m213 => (if v210 = v212 then (fL_law_K1547 xs L l4 r23 m213) else none))))) else (if (v1 &&& (63 : Int32)) = (23 : Int32) then (Option.bind (ax_sc xs L (l4 + (1 : Int32))) (fun v216 => (Option.bind (ax_sc xs L (l4 + (2 : Int32))) (fun v217 => (ax_bd (fX8_wave v216 v217 μ) (fun v218 m219 => (Option.bind (ax_sc xs L (l4 + (1 : Int32))) (fun v220 => (Option.bind (ax_sc xs L (l4 + (2 : Int32))) (fun v221 => (ax_bd (fX9_wave v220 v221 m219) (fun v222 m223 => (if (lg_cmp v218 v222) = 0 then (fL_law_K1547 xs L l4 r23 m223) else none))))))))))))) else (if (v1 &&& (63 : Int32)) = (24 : Int32) then (Option.bind (ax_sc xs L (l4 + (1 : Int32))) (fun v226 => (ax_bd (fX8_fails v226 μ) (fun v227 m228 => (Option.bind (ax_sc xs L (l4 + (1 : Int32))) (fun v229 => (ax_bd (fX9_fails v229 m228) (fun v230 m231 => (if v227 = v230 then (fL_law_K1547 xs L l4 r23 m231) else none))))))))) else (if (v1 &&& (63 : Int32)) = (25 : Int32) then (Option.bind (ax_sc xs L (l4 + (1 : Int32))) (fun v234 => (if v234 = 0 then (fL_law_K1068 xs L l4 (0 : Int32) r23 μ) else (fL_law_K1068 xs L l4 (1 : Int32) r23 μ)))) else (if (v1 &&& (63 : Int32)) = (26 : Int32) then (Option.bind (ax_sc xs L (l4 + (1 : Int32))) (fun v244 => (ax_bd (fX8_loop v244 μ) (fun v245 m246 => (Option.bind (ax_sc xs L (l4 + (1 : Int32))) (fun v247 => (ax_bd (fX9_loop v247 m246) (fun v248 m249 => (if v245 = v248 then (fL_law_K1547 xs L l4 r23 m249) else none))))))))) else (if (v1 &&& (63 : Int32)) = (27 : Int32) then (ax_bd (fX8_leastPeriod μ) (fun v252 m253 => (ax_bd (fX9_leastPeriod m253) (fun v254 m255 => (if v252 = v254 then (fL_law_K1547 xs L l4 r23 m255) else none))))) else (if (v1 &&& (63 : Int32)) = (28 : Int32) then (Option.bind (ax_sc xs L (l4 + (1 : Int32))) (fun v258 => (ax_bd (fX8_slower v258 μ) (fun v259 m260 => (Option.bind (ax_sc xs L (l4 + (1 : Int32))) (fun v261 => (ax_bd (fX9_slower v261 m260) (fun v262 m263 => (if v259 = v262 then (fL_law_K1547 xs L l4 r23 m263) else none))))))))) else (if (v1 &&& (63 : Int32)) = (29 : Int32) then (Option.bind (ax_sc xs L (l4 + (1 : Int32))) (fun v266 => (ax_bd (fX8_bestOpens v266 μ) (fun v267 m268 => (Option.bind (ax_sc xs L (l4 + (1 : Int32))) (fun v269 => (ax_bd (fX9_bestOpens v269 m268) (fun v270 m271 => (if v267 = v270 then (fL_law_K1547 xs L l4 r23 m271) else none))))))))) else (if (v1 &&& (63 : Int32)) = (30 : Int32) then (Option.bind (ax_sc xs L (l4 + (1 : Int32))) (fun v274 => (Option.bind (ax_sc xs L (l4 + (2 : Int32))) (fun v275 => (ax_bd (fX8_bestTwo v274 v275 μ) (fun v276 m277 => (Option.bind (ax_sc xs L (l4 + (1 : Int32))) (fun v278 => (Option.bind (ax_sc xs L (l4 + (2 : Int32))) (fun v279 => (ax_bd (fX9_bestTwo v278 v279 m277) (fun v280 m281 => (if v276 = v280 then (fL_law_K1547 xs L l4 r23 m281) else none))))))))))))) else (if (v1 &&& (63 : Int32)) = (31 : Int32) then (Option.bind (ax_sc xs L (l4 + (1 : Int32))) (fun v284 => (ax_bd (fX8_gain v284 μ) (fun v285 m286 => (Option.bind (ax_sc xs L (l4 + (1 : Int32))) (fun v287 => (ax_bd (fX9_gain v287 m286) (fun v288 m289 => (if v285 = v288 then (fL_law_K1547 xs L l4 r23 m289) else none))))))))) else (if (v1 &&& (63 : Int32)) = (32 : Int32) then (ax_bd (fX8_breaks μ) (fun v292 m293 => (ax_bd (fX9_breaks m293) (fun v294 m295 => (if v292 = v294 then (fL_law_K1547 xs L l4 r23 m295) else none))))) else (if (v1 &&& (63 : Int32)) = (33 : Int32) then (Option.bind (ax_sc xs L (l4 + (1 : Int32))) (fun v298 => (ax_bd (fX8_bestMove v298 μ) (fun v299 m300 => (Option.bind (ax_sc xs L (l4 + (1 : Int32))) (fun v301 => (ax_bd (fX9_bestMove v301 m300) (fun v302 m303 => (if v299 = v302 then (fL_law_K1547 xs L l4 r23 m303) else none))))))))) else (if (v1 &&& (63 : Int32)) = (34 : Int32) then (Option.bind (ax_sc xs L (l4 + (1 : Int32))) (fun v306 => (ax_bd (fX8_leastWidth v306 μ) (fun v307 m308 => (Option.bind (ax_sc xs L (l4 + (1 : Int32))) (fun v309 => (ax_bd (fX9_leastWidth v309 m308) (fun v310 m311 => (if v307 = v310 then (fL_law_K1547 xs L l4 r23 m311) else none))))))))) else (if (v1 &&& (63 : Int32)) = (35 : Int32) then (ax_bd (fX8_flops μ) (fun v314 m315 => (ax_bd (fX9_flops m315) (fun v316 m317 => (if v314 = v316 then (fL_law_K1547 xs L l4 r23 m317) else none))))) else (if (v1 &&& (63 : Int32)) = (36 : Int32) then (Option.bind (ax_sc xs L (l4 + (1 : Int32))) (fun v320 => (ax_bd (fX8_near v320 μ) (fun v321 m322 => (Option.bind (ax_sc xs L (l4 + (1 : Int32))) (fun v323 => (ax_bd (fX9_near v323 m322) (fun v324 m325 => (if (lg_cmp v321 v324) = 0 then (fL_law_K1547 xs L l4 r23 m325) else none))))))))) else (if (v1 &&& (63 : Int32)) = (37 : Int32) then (Option.bind (ax_sc xs L (l4 + (1 : Int32))) (fun v328 => (ax_bd (fX8_nearest v328 μ) (fun v329 m330 => (Option.bind (ax_sc xs L (l4 + (1 : Int32))) (fun v331 => (ax_bd (fX9_nearest v331 m330) (fun v332 m333 => (if v329 = v332 then (fL_law_K1547 xs L l4 r23 m333) else none))))))))) else (if (v1 &&& (63 : Int32)) = (38 : Int32) then (Option.bind (ax_sc xs L (l4 + (1 : Int32))) (fun v336 => (Option.bind (ax_sc xs L (l4 + (2 : Int32))) (fun v337 => (ax_bd (fX8_event v336 v337 μ) (fun v338 m339 => (Option.bind (ax_sc xs L (l4 + (1 : Int32))) (fun v340 => (Option.bind (ax_sc xs L (l4 + (2 : Int32))) (fun v341 => (ax_bd (fX9_event v340 v341 m339) (fun v342 m343 => (if v338 = v342 then (fL_law_K1547 xs L l4 r23 m343) else none))))))))))))) else (if (v1 &&& (63 : Int32)) = (39 : Int32) then (Option.bind (ax_sc xs L (l4 + (1 : Int32))) (fun v346 => (ax_bd (fX8_open v346 μ) (fun v347 m348 => (Option.bind (ax_sc xs L (l4 + (1 : Int32))) (fun v349 => (ax_bd (fX9_open v349 m348) (fun v350 m351 => (if v347 = v350 then (fL_law_K1547 xs L l4 r23 m351) else none))))))))) else (if (v1 &&& (63 : Int32)) = (40 : Int32) then (Option.bind (ax_sc xs L (l4 + (1 : Int32))) (fun v354 => (Option.bind (ax_sc xs L (l4 + (2 : Int32))) (fun v355 => (Option.bind (ax_sc xs L (l4 + (3 : Int32))) (fun v356 => (ax_bd (fX8_chance v354 v355 v356 μ) (fun v357 m358 => (Option.bind (ax_sc xs L (l4 + (1 : Int32))) (fun v359 => (Option.bind (ax_sc xs L (l4 + (2 : Int32))) (fun v360 => (Option.bind (ax_sc xs L (l4 + (3 : Int32))) (fun v361 => (ax_bd (fX9_chance v359 v360 v361 m358) (fun v362 m363 => (if v357 = v362 then (fL_law_K1547 xs L l4 r23 m363) else none))))))))))))))))) else (if (v1 &&& (63 : Int32)) = (41 : Int32) then (ax_bd (fX8_undo μ) (fun v366 m367 => (ax_bd (fX9_undo m367) (fun v368 m369 => (if v366 = v368 then (fL_law_K1547 xs L l4 r23 m369) else none))))) else (if (v1 &&& (63 : Int32)) = (42 : Int32) then (ax_bd (fX8_keep μ) (fun v372 m373 => (ax_bd (fX9_keep m373) (fun v374 m375 => (if v372 = v374 then (fL_law_K1547 xs L l4 r23 m375) else none))))) else (if (v1 &&& (63 : Int32)) = (43 : Int32) then (ax_bd (fX8_back μ) (fun v378 m379 => (ax_bd (fX9_back m379) (fun v380 m381 => (if v378 = v380 then (fL_law_K1547 xs L l4 r23 m381) else none))))) else (if (v1 &&& (63 : Int32)) = (44 : Int32) then (Option.bind (ax_sc xs L (l4 + (1 : Int32))) (fun v384 => (ax_bd (fX8_count v384 μ) (fun v385 m386 => (Option.bind (ax_sc xs L (l4 + (1 : Int32))) (fun v387 => (ax_bd (fX9_count v387 m386) (fun v388 m389 => (if v385 = v388 then (fL_law_K1547 xs L l4 r23 m389) else none))))))))) else (fL_law_K1547 xs L l4 r23 μ)))))))))))))))))))))))))))))))))))))))))))))))))
set_option maxHeartbeats 4000000 in
theorem pL_law_B23 {x : ax_X} {G : ax_G} {n1 n2 : Nat} {xs : Nat → Int32} {L : Nat} {Z : Int32 → ax_M → State → Prop} (hG : ax_ok G) (hk : 84 < ax_gk G) (hst : x.2.1.stackTraces = false) (hE : ax_Xe G (ax_xs x)) (hX : ax_Sc G x L xs) (hend9 : ∀ (m1 m2 : Nat) (lc : List (Option Value)) (μ : ax_M), ax_Rf mL_law 20 x Z G m1 m2 1554 lc [.int 1] μ (some (1, μ))) (hw1 : n1 + 1 ≤ (ax_xR x).cells) (hw2 : n2 + 6 ≤ (ax_xR x).slots) (r23 : Int32 → ax_M → Option (Int32 × ax_M)) (hr23 : ∀ (a4 : Int32) (μ : ax_M), ax_Rf mL_law 20 x Z G (n1 + 1) (n2 + 6) 23 [some (.ref 1000001), some (.ref 0), some (.ref 57), some (.ref 84), some (.int a4), none, none] [] μ (r23 a4 μ)) (l4 : Int32) (μ : ax_M) : ax_Rf mL_law 20 x Z G n1 n2 23 [some (.ref 1000001), some (.ref 0), some (.ref 57), some (.ref 84), some (.int l4), none, none] [] μ (fL_law_B23 xs L r23 l4 μ) := by
  unfold fL_law_B23
  refine rf_iload (n := 25) 4 dL_law_23 rfl rfl ?_
  refine rf_aload_n (n := 26) 0 dL_law_25 rfl rfl rfl ?_
  refine rf_scl (n := 27) hX dL_law_26 rfl ?_
  refine rf_bipush (n := 29) (6 : Int32) dL_law_27 ccbipush_6 rfl ?_
  refine rf_isub (n := 30) dL_law_29 rfl ?_
  refine rf_icmp_gt (tg := 1553) (n := 33) dL_law_30 rfl rfl (fun c391 => ?_) (fun c391 => ?_)
  · refine rf_iconst (n := 1554) (1 : Int32) dL_law_1553 cciconst_1 rfl ?_
    exact hend9 _ _ _ _
  · refine rf_aload_n (n := 34) 0 dL_law_33 rfl rfl rfl ?_
    refine rf_iload (n := 36) 4 dL_law_34 rfl rfl ?_
    refine rf_scd (n := 37) hX dL_law_36 rfl (fun v1 => ?_)
    refine rf_bipush (n := 39) (63 : Int32) dL_law_37 ccbipush_63 rfl ?_
    refine rf_iand (n := 40) dL_law_39 rfl ?_
    refine rf_split (fun c2 => ?_) (fun c2 => ?_)
    · refine rf_tabIn (tg := 236) (0 : Int32) c2 dL_law_40 (by decide) rfl rfl ?_
      refine rf_aload_n (n := 237) 1 dL_law_236 rfl rfl rfl ?_
      refine rf_aload_n (n := 238) 0 dL_law_237 rfl rfl rfl ?_
      refine rf_iload (n := 240) 4 dL_law_238 rfl rfl ?_
      refine rf_iconst (n := 241) (1 : Int32) dL_law_240 cciconst_1 rfl ?_
      refine rf_iadd (n := 242) dL_law_241 rfl ?_
      refine rf_scd (n := 243) hX dL_law_242 rfl (fun v3 => ?_)
      refine rf_aload_n (n := 244) 0 dL_law_243 rfl rfl rfl ?_
      refine rf_iload (n := 246) 4 dL_law_244 rfl rfl ?_
      refine rf_iconst (n := 247) (2 : Int32) dL_law_246 cciconst_2 rfl ?_
      refine rf_iadd (n := 248) dL_law_247 rfl ?_
      refine rf_scd (n := 249) hX dL_law_248 rfl (fun v4 => ?_)
      refine rf_aload_n (n := 250) 0 dL_law_249 rfl rfl rfl ?_
      refine rf_iload (n := 252) 4 dL_law_250 rfl rfl ?_
      refine rf_iconst (n := 253) (3 : Int32) dL_law_252 cciconst_3 rfl ?_
      refine rf_iadd (n := 254) dL_law_253 rfl ?_
      refine rf_scd (n := 255) hX dL_law_254 rfl (fun v5 => ?_)
      refine rf_aload_n (n := 256) 0 dL_law_255 rfl rfl rfl ?_
      refine rf_iload (n := 258) 4 dL_law_256 rfl rfl ?_
      refine rf_iconst (n := 259) (4 : Int32) dL_law_258 cciconst_4 rfl ?_
      refine rf_iadd (n := 260) dL_law_259 rfl ?_
      refine rf_scd (n := 261) hX dL_law_260 rfl (fun v6 => ?_)
      refine rf_aload_n (n := 262) 0 dL_law_261 rfl rfl rfl ?_
      refine rf_iload (n := 264) 4 dL_law_262 rfl rfl ?_
      refine rf_iconst (n := 265) (5 : Int32) dL_law_264 cciconst_5 rfl ?_
      refine rf_iadd (n := 266) dL_law_265 rfl ?_
      refine rf_scd (n := 267) hX dL_law_266 rfl (fun v7 => ?_)
      refine rf_cV5I (n := 270) hG (okX8_feed _ _ _ _ _ _) lVL_21 hhX8_feed kk_0 sS_0 ⟨_, rfl, rfl⟩ dL_law_267 rfl (Nat.le_of_ble_eq_true rfl) (Nat.le_of_ble_eq_true rfl) (fun v8 m9 => ?_)
      refine rf_aload_n (n := 271) 2 dL_law_270 rfl rfl rfl ?_
      refine rf_aload_n (n := 272) 0 dL_law_271 rfl rfl rfl ?_
      refine rf_iload (n := 274) 4 dL_law_272 rfl rfl ?_
      refine rf_iconst (n := 275) (1 : Int32) dL_law_274 cciconst_1 rfl ?_
      refine rf_iadd (n := 276) dL_law_275 rfl ?_
      refine rf_scd (n := 277) hX dL_law_276 rfl (fun v10 => ?_)
      refine rf_aload_n (n := 278) 0 dL_law_277 rfl rfl rfl ?_
      refine rf_iload (n := 280) 4 dL_law_278 rfl rfl ?_
      refine rf_iconst (n := 281) (2 : Int32) dL_law_280 cciconst_2 rfl ?_
      refine rf_iadd (n := 282) dL_law_281 rfl ?_
      refine rf_scd (n := 283) hX dL_law_282 rfl (fun v11 => ?_)
      refine rf_aload_n (n := 284) 0 dL_law_283 rfl rfl rfl ?_
      refine rf_iload (n := 286) 4 dL_law_284 rfl rfl ?_
      refine rf_iconst (n := 287) (3 : Int32) dL_law_286 cciconst_3 rfl ?_
      refine rf_iadd (n := 288) dL_law_287 rfl ?_
      refine rf_scd (n := 289) hX dL_law_288 rfl (fun v12 => ?_)
      refine rf_aload_n (n := 290) 0 dL_law_289 rfl rfl rfl ?_
      refine rf_iload (n := 292) 4 dL_law_290 rfl rfl ?_
      refine rf_iconst (n := 293) (4 : Int32) dL_law_292 cciconst_4 rfl ?_
      refine rf_iadd (n := 294) dL_law_293 rfl ?_
      refine rf_scd (n := 295) hX dL_law_294 rfl (fun v13 => ?_)
      refine rf_aload_n (n := 296) 0 dL_law_295 rfl rfl rfl ?_
      refine rf_iload (n := 298) 4 dL_law_296 rfl rfl ?_
      refine rf_iconst (n := 299) (5 : Int32) dL_law_298 cciconst_5 rfl ?_
      refine rf_iadd (n := 300) dL_law_299 rfl ?_
      refine rf_scd (n := 301) hX dL_law_300 rfl (fun v14 => ?_)
      refine rf_cV5I (n := 304) hG (okX9_feed _ _ _ _ _ _) lVL_25 hhX9_feed kk_57 sS_57 ⟨_, rfl, rfl⟩ dL_law_301 rfl (Nat.le_of_ble_eq_true rfl) (Nat.le_of_ble_eq_true rfl) (fun v15 m16 => ?_)
      refine rf_icmp_eq (tg := 1547) (n := 307) dL_law_304 rfl rfl (fun c17 => ?_) (fun c17 => ?_)
      · refine rf_widen (k1 := n1 + 1) (k2 := n2 + 6) (Nat.le_succ _) (Nat.le_add_right _ _) hw1 hw2 ?_
        exact pL_law_K1547 hG hk hst hE hX hend9 _ r23 hr23 _
      · refine rf_iconst (n := 308) (0 : Int32) dL_law_307 cciconst_0 rfl ?_
        exact rf_none
    · refine rf_split (fun c18 => ?_) (fun c18 => ?_)
      · refine rf_tabIn (tg := 309) (1 : Int32) c18 dL_law_40 (by decide) rfl rfl ?_
        refine rf_aload_n (n := 310) 1 dL_law_309 rfl rfl rfl ?_
        refine rf_aload_n (n := 311) 0 dL_law_310 rfl rfl rfl ?_
        refine rf_iload (n := 313) 4 dL_law_311 rfl rfl ?_
        refine rf_iconst (n := 314) (1 : Int32) dL_law_313 cciconst_1 rfl ?_
        refine rf_iadd (n := 315) dL_law_314 rfl ?_
        refine rf_scd (n := 316) hX dL_law_315 rfl (fun v19 => ?_)
        refine rf_cV1I (n := 319) hG (okX8_text _ _) lVL_26 hhX8_text kk_0 sS_0 ⟨_, rfl, rfl⟩ dL_law_316 rfl (Nat.le_of_ble_eq_true rfl) (Nat.le_of_ble_eq_true rfl) (fun v20 m21 => ?_)
        refine rf_aload_n (n := 320) 2 dL_law_319 rfl rfl rfl ?_
        refine rf_aload_n (n := 321) 0 dL_law_320 rfl rfl rfl ?_
        refine rf_iload (n := 323) 4 dL_law_321 rfl rfl ?_
        refine rf_iconst (n := 324) (1 : Int32) dL_law_323 cciconst_1 rfl ?_
        refine rf_iadd (n := 325) dL_law_324 rfl ?_
        refine rf_scd (n := 326) hX dL_law_325 rfl (fun v22 => ?_)
        refine rf_cV1I (n := 329) hG (okX9_text _ _) lVL_30 hhX9_text kk_57 sS_57 ⟨_, rfl, rfl⟩ dL_law_326 rfl (Nat.le_of_ble_eq_true rfl) (Nat.le_of_ble_eq_true rfl) (fun v23 m24 => ?_)
        refine rf_icmp_eq (tg := 1547) (n := 332) dL_law_329 rfl rfl (fun c25 => ?_) (fun c25 => ?_)
        · refine rf_widen (k1 := n1 + 1) (k2 := n2 + 6) (Nat.le_succ _) (Nat.le_add_right _ _) hw1 hw2 ?_
          exact pL_law_K1547 hG hk hst hE hX hend9 _ r23 hr23 _
        · refine rf_iconst (n := 333) (0 : Int32) dL_law_332 cciconst_0 rfl ?_
          exact rf_none
      · refine rf_split (fun c26 => ?_) (fun c26 => ?_)
        · refine rf_tabIn (tg := 334) (2 : Int32) c26 dL_law_40 (by decide) rfl rfl ?_
          refine rf_aload_n (n := 335) 1 dL_law_334 rfl rfl rfl ?_
          refine rf_aload_n (n := 336) 0 dL_law_335 rfl rfl rfl ?_
          refine rf_iload (n := 338) 4 dL_law_336 rfl rfl ?_
          refine rf_iconst (n := 339) (1 : Int32) dL_law_338 cciconst_1 rfl ?_
          refine rf_iadd (n := 340) dL_law_339 rfl ?_
          refine rf_scd (n := 341) hX dL_law_340 rfl (fun v27 => ?_)
          refine rf_cV1I (n := 344) hG (okX8_fault _ _) lVL_31 hhX8_fault kk_0 sS_0 ⟨_, rfl, rfl⟩ dL_law_341 rfl (Nat.le_of_ble_eq_true rfl) (Nat.le_of_ble_eq_true rfl) (fun v28 m29 => ?_)
          refine rf_aload_n (n := 345) 2 dL_law_344 rfl rfl rfl ?_
          refine rf_aload_n (n := 346) 0 dL_law_345 rfl rfl rfl ?_
          refine rf_iload (n := 348) 4 dL_law_346 rfl rfl ?_
          refine rf_iconst (n := 349) (1 : Int32) dL_law_348 cciconst_1 rfl ?_
          refine rf_iadd (n := 350) dL_law_349 rfl ?_
          refine rf_scd (n := 351) hX dL_law_350 rfl (fun v30 => ?_)
          refine rf_cV1I (n := 354) hG (okX9_fault _ _) lVL_34 hhX9_fault kk_57 sS_57 ⟨_, rfl, rfl⟩ dL_law_351 rfl (Nat.le_of_ble_eq_true rfl) (Nat.le_of_ble_eq_true rfl) (fun v31 m32 => ?_)
          refine rf_icmp_eq (tg := 1547) (n := 357) dL_law_354 rfl rfl (fun c33 => ?_) (fun c33 => ?_)
          · refine rf_widen (k1 := n1 + 1) (k2 := n2 + 6) (Nat.le_succ _) (Nat.le_add_right _ _) hw1 hw2 ?_
            exact pL_law_K1547 hG hk hst hE hX hend9 _ r23 hr23 _
          · refine rf_iconst (n := 358) (0 : Int32) dL_law_357 cciconst_0 rfl ?_
            exact rf_none
        · refine rf_split (fun c34 => ?_) (fun c34 => ?_)
          · refine rf_tabIn (tg := 359) (3 : Int32) c34 dL_law_40 (by decide) rfl rfl ?_
            refine rf_aload_n (n := 360) 1 dL_law_359 rfl rfl rfl ?_
            refine rf_aload_n (n := 361) 0 dL_law_360 rfl rfl rfl ?_
            refine rf_iload (n := 363) 4 dL_law_361 rfl rfl ?_
            refine rf_iconst (n := 364) (1 : Int32) dL_law_363 cciconst_1 rfl ?_
            refine rf_iadd (n := 365) dL_law_364 rfl ?_
            refine rf_scd (n := 366) hX dL_law_365 rfl (fun v35 => ?_)
            refine rf_aload_n (n := 367) 0 dL_law_366 rfl rfl rfl ?_
            refine rf_iload (n := 369) 4 dL_law_367 rfl rfl ?_
            refine rf_iconst (n := 370) (2 : Int32) dL_law_369 cciconst_2 rfl ?_
            refine rf_iadd (n := 371) dL_law_370 rfl ?_
            refine rf_scd (n := 372) hX dL_law_371 rfl (fun v36 => ?_)
            refine rf_cV2I (n := 375) hG (okX8_named _ _ _) lVL_35 hhX8_named kk_0 sS_0 ⟨_, rfl, rfl⟩ dL_law_372 rfl (Nat.le_of_ble_eq_true rfl) (Nat.le_of_ble_eq_true rfl) (fun v37 m38 => ?_)
            refine rf_aload_n (n := 376) 2 dL_law_375 rfl rfl rfl ?_
            refine rf_aload_n (n := 377) 0 dL_law_376 rfl rfl rfl ?_
            refine rf_iload (n := 379) 4 dL_law_377 rfl rfl ?_
            refine rf_iconst (n := 380) (1 : Int32) dL_law_379 cciconst_1 rfl ?_
            refine rf_iadd (n := 381) dL_law_380 rfl ?_
            refine rf_scd (n := 382) hX dL_law_381 rfl (fun v39 => ?_)
            refine rf_aload_n (n := 383) 0 dL_law_382 rfl rfl rfl ?_
            refine rf_iload (n := 385) 4 dL_law_383 rfl rfl ?_
            refine rf_iconst (n := 386) (2 : Int32) dL_law_385 cciconst_2 rfl ?_
            refine rf_iadd (n := 387) dL_law_386 rfl ?_
            refine rf_scd (n := 388) hX dL_law_387 rfl (fun v40 => ?_)
            refine rf_cV2I (n := 391) hG (okX9_named _ _ _) lVL_38 hhX9_named kk_57 sS_57 ⟨_, rfl, rfl⟩ dL_law_388 rfl (Nat.le_of_ble_eq_true rfl) (Nat.le_of_ble_eq_true rfl) (fun v41 m42 => ?_)
            refine rf_icmp_eq (tg := 1547) (n := 394) dL_law_391 rfl rfl (fun c43 => ?_) (fun c43 => ?_)
            · refine rf_widen (k1 := n1 + 1) (k2 := n2 + 6) (Nat.le_succ _) (Nat.le_add_right _ _) hw1 hw2 ?_
              exact pL_law_K1547 hG hk hst hE hX hend9 _ r23 hr23 _
            · refine rf_iconst (n := 395) (0 : Int32) dL_law_394 cciconst_0 rfl ?_
              exact rf_none
          · refine rf_split (fun c44 => ?_) (fun c44 => ?_)
            · refine rf_tabIn (tg := 396) (4 : Int32) c44 dL_law_40 (by decide) rfl rfl ?_
              refine rf_aload_n (n := 397) 1 dL_law_396 rfl rfl rfl ?_
              refine rf_aload_n (n := 398) 0 dL_law_397 rfl rfl rfl ?_
              refine rf_iload (n := 400) 4 dL_law_398 rfl rfl ?_
              refine rf_iconst (n := 401) (1 : Int32) dL_law_400 cciconst_1 rfl ?_
              refine rf_iadd (n := 402) dL_law_401 rfl ?_
              refine rf_scd (n := 403) hX dL_law_402 rfl (fun v45 => ?_)
              refine rf_cV1I (n := 406) hG (okX8_period _ _) lVL_39 hhX8_period kk_0 sS_0 ⟨_, rfl, rfl⟩ dL_law_403 rfl (Nat.le_of_ble_eq_true rfl) (Nat.le_of_ble_eq_true rfl) (fun v46 m47 => ?_)
              refine rf_aload_n (n := 407) 2 dL_law_406 rfl rfl rfl ?_
              refine rf_aload_n (n := 408) 0 dL_law_407 rfl rfl rfl ?_
              refine rf_iload (n := 410) 4 dL_law_408 rfl rfl ?_
              refine rf_iconst (n := 411) (1 : Int32) dL_law_410 cciconst_1 rfl ?_
              refine rf_iadd (n := 412) dL_law_411 rfl ?_
              refine rf_scd (n := 413) hX dL_law_412 rfl (fun v48 => ?_)
              refine rf_cV1I (n := 416) hG (okX9_period _ _) lVL_42 hhX9_period kk_57 sS_57 ⟨_, rfl, rfl⟩ dL_law_413 rfl (Nat.le_of_ble_eq_true rfl) (Nat.le_of_ble_eq_true rfl) (fun v49 m50 => ?_)
              refine rf_icmp_eq (tg := 1547) (n := 419) dL_law_416 rfl rfl (fun c51 => ?_) (fun c51 => ?_)
              · refine rf_widen (k1 := n1 + 1) (k2 := n2 + 6) (Nat.le_succ _) (Nat.le_add_right _ _) hw1 hw2 ?_
                exact pL_law_K1547 hG hk hst hE hX hend9 _ r23 hr23 _
              · refine rf_iconst (n := 420) (0 : Int32) dL_law_419 cciconst_0 rfl ?_
                exact rf_none
            · refine rf_split (fun c52 => ?_) (fun c52 => ?_)
              · refine rf_tabIn (tg := 421) (5 : Int32) c52 dL_law_40 (by decide) rfl rfl ?_
                refine rf_aload_n (n := 422) 1 dL_law_421 rfl rfl rfl ?_
                refine rf_aload_n (n := 423) 0 dL_law_422 rfl rfl rfl ?_
                refine rf_iload (n := 425) 4 dL_law_423 rfl rfl ?_
                refine rf_iconst (n := 426) (1 : Int32) dL_law_425 cciconst_1 rfl ?_
                refine rf_iadd (n := 427) dL_law_426 rfl ?_
                refine rf_scd (n := 428) hX dL_law_427 rfl (fun v53 => ?_)
                refine rf_aload_n (n := 429) 0 dL_law_428 rfl rfl rfl ?_
                refine rf_iload (n := 431) 4 dL_law_429 rfl rfl ?_
                refine rf_iconst (n := 432) (2 : Int32) dL_law_431 cciconst_2 rfl ?_
                refine rf_iadd (n := 433) dL_law_432 rfl ?_
                refine rf_scd (n := 434) hX dL_law_433 rfl (fun v54 => ?_)
                refine rf_aload_n (n := 435) 0 dL_law_434 rfl rfl rfl ?_
                refine rf_iload (n := 437) 4 dL_law_435 rfl rfl ?_
                refine rf_iconst (n := 438) (3 : Int32) dL_law_437 cciconst_3 rfl ?_
                refine rf_iadd (n := 439) dL_law_438 rfl ?_
                refine rf_scd (n := 440) hX dL_law_439 rfl (fun v55 => ?_)
                refine rf_cV3I (n := 443) hG (okX8_phase _ _ _ _) lVL_43 hhX8_phase kk_0 sS_0 ⟨_, rfl, rfl⟩ dL_law_440 rfl (Nat.le_of_ble_eq_true rfl) (Nat.le_of_ble_eq_true rfl) (fun v56 m57 => ?_)
                refine rf_aload_n (n := 444) 2 dL_law_443 rfl rfl rfl ?_
                refine rf_aload_n (n := 445) 0 dL_law_444 rfl rfl rfl ?_
                refine rf_iload (n := 447) 4 dL_law_445 rfl rfl ?_
                refine rf_iconst (n := 448) (1 : Int32) dL_law_447 cciconst_1 rfl ?_
                refine rf_iadd (n := 449) dL_law_448 rfl ?_
                refine rf_scd (n := 450) hX dL_law_449 rfl (fun v58 => ?_)
                refine rf_aload_n (n := 451) 0 dL_law_450 rfl rfl rfl ?_
                refine rf_iload (n := 453) 4 dL_law_451 rfl rfl ?_
                refine rf_iconst (n := 454) (2 : Int32) dL_law_453 cciconst_2 rfl ?_
                refine rf_iadd (n := 455) dL_law_454 rfl ?_
                refine rf_scd (n := 456) hX dL_law_455 rfl (fun v59 => ?_)
                refine rf_aload_n (n := 457) 0 dL_law_456 rfl rfl rfl ?_
                refine rf_iload (n := 459) 4 dL_law_457 rfl rfl ?_
                refine rf_iconst (n := 460) (3 : Int32) dL_law_459 cciconst_3 rfl ?_
                refine rf_iadd (n := 461) dL_law_460 rfl ?_
                refine rf_scd (n := 462) hX dL_law_461 rfl (fun v60 => ?_)
                refine rf_cV3I (n := 465) hG (okX9_phase _ _ _ _) lVL_47 hhX9_phase kk_57 sS_57 ⟨_, rfl, rfl⟩ dL_law_462 rfl (Nat.le_of_ble_eq_true rfl) (Nat.le_of_ble_eq_true rfl) (fun v61 m62 => ?_)
                refine rf_icmp_eq (tg := 1547) (n := 468) dL_law_465 rfl rfl (fun c63 => ?_) (fun c63 => ?_)
                · refine rf_widen (k1 := n1 + 1) (k2 := n2 + 6) (Nat.le_succ _) (Nat.le_add_right _ _) hw1 hw2 ?_
                  exact pL_law_K1547 hG hk hst hE hX hend9 _ r23 hr23 _
                · refine rf_iconst (n := 469) (0 : Int32) dL_law_468 cciconst_0 rfl ?_
                  exact rf_none
              · refine rf_split (fun c64 => ?_) (fun c64 => ?_)
                · refine rf_tabIn (tg := 470) (6 : Int32) c64 dL_law_40 (by decide) rfl rfl ?_
                  refine rf_aload_n (n := 471) 1 dL_law_470 rfl rfl rfl ?_
                  refine rf_aload_n (n := 472) 0 dL_law_471 rfl rfl rfl ?_
                  refine rf_iload (n := 474) 4 dL_law_472 rfl rfl ?_
                  refine rf_iconst (n := 475) (1 : Int32) dL_law_474 cciconst_1 rfl ?_
                  refine rf_iadd (n := 476) dL_law_475 rfl ?_
                  refine rf_scd (n := 477) hX dL_law_476 rfl (fun v65 => ?_)
                  refine rf_aload_n (n := 478) 0 dL_law_477 rfl rfl rfl ?_
                  refine rf_iload (n := 480) 4 dL_law_478 rfl rfl ?_
                  refine rf_iconst (n := 481) (2 : Int32) dL_law_480 cciconst_2 rfl ?_
                  refine rf_iadd (n := 482) dL_law_481 rfl ?_
                  refine rf_scd (n := 483) hX dL_law_482 rfl (fun v66 => ?_)
                  refine rf_aload_n (n := 484) 0 dL_law_483 rfl rfl rfl ?_
                  refine rf_iload (n := 486) 4 dL_law_484 rfl rfl ?_
                  refine rf_iconst (n := 487) (3 : Int32) dL_law_486 cciconst_3 rfl ?_
                  refine rf_iadd (n := 488) dL_law_487 rfl ?_
                  refine rf_scd (n := 489) hX dL_law_488 rfl (fun v67 => ?_)
                  refine rf_cV3I (n := 492) hG (okX8_delay _ _ _ _) lVL_48 hhX8_delay kk_0 sS_0 ⟨_, rfl, rfl⟩ dL_law_489 rfl (Nat.le_of_ble_eq_true rfl) (Nat.le_of_ble_eq_true rfl) (fun v68 m69 => ?_)
                  refine rf_aload_n (n := 493) 2 dL_law_492 rfl rfl rfl ?_
                  refine rf_aload_n (n := 494) 0 dL_law_493 rfl rfl rfl ?_
                  refine rf_iload (n := 496) 4 dL_law_494 rfl rfl ?_
                  refine rf_iconst (n := 497) (1 : Int32) dL_law_496 cciconst_1 rfl ?_
                  refine rf_iadd (n := 498) dL_law_497 rfl ?_
                  refine rf_scd (n := 499) hX dL_law_498 rfl (fun v70 => ?_)
                  refine rf_aload_n (n := 500) 0 dL_law_499 rfl rfl rfl ?_
                  refine rf_iload (n := 502) 4 dL_law_500 rfl rfl ?_
                  refine rf_iconst (n := 503) (2 : Int32) dL_law_502 cciconst_2 rfl ?_
                  refine rf_iadd (n := 504) dL_law_503 rfl ?_
                  refine rf_scd (n := 505) hX dL_law_504 rfl (fun v71 => ?_)
                  refine rf_aload_n (n := 506) 0 dL_law_505 rfl rfl rfl ?_
                  refine rf_iload (n := 508) 4 dL_law_506 rfl rfl ?_
                  refine rf_iconst (n := 509) (3 : Int32) dL_law_508 cciconst_3 rfl ?_
                  refine rf_iadd (n := 510) dL_law_509 rfl ?_
                  refine rf_scd (n := 511) hX dL_law_510 rfl (fun v72 => ?_)
                  refine rf_cV3I (n := 514) hG (okX9_delay _ _ _ _) lVL_51 hhX9_delay kk_57 sS_57 ⟨_, rfl, rfl⟩ dL_law_511 rfl (Nat.le_of_ble_eq_true rfl) (Nat.le_of_ble_eq_true rfl) (fun v73 m74 => ?_)
                  refine rf_icmp_eq (tg := 1547) (n := 517) dL_law_514 rfl rfl (fun c75 => ?_) (fun c75 => ?_)
                  · refine rf_widen (k1 := n1 + 1) (k2 := n2 + 6) (Nat.le_succ _) (Nat.le_add_right _ _) hw1 hw2 ?_
                    exact pL_law_K1547 hG hk hst hE hX hend9 _ r23 hr23 _
                  · refine rf_iconst (n := 518) (0 : Int32) dL_law_517 cciconst_0 rfl ?_
                    exact rf_none
                · refine rf_split (fun c76 => ?_) (fun c76 => ?_)
                  · refine rf_tabIn (tg := 519) (7 : Int32) c76 dL_law_40 (by decide) rfl rfl ?_
                    refine rf_aload_n (n := 520) 1 dL_law_519 rfl rfl rfl ?_
                    refine rf_aload_n (n := 521) 0 dL_law_520 rfl rfl rfl ?_
                    refine rf_iload (n := 523) 4 dL_law_521 rfl rfl ?_
                    refine rf_iconst (n := 524) (1 : Int32) dL_law_523 cciconst_1 rfl ?_
                    refine rf_iadd (n := 525) dL_law_524 rfl ?_
                    refine rf_scd (n := 526) hX dL_law_525 rfl (fun v77 => ?_)
                    refine rf_cV1I (n := 529) hG (okX8_flop _ _) lVL_52 hhX8_flop kk_0 sS_0 ⟨_, rfl, rfl⟩ dL_law_526 rfl (Nat.le_of_ble_eq_true rfl) (Nat.le_of_ble_eq_true rfl) (fun v78 m79 => ?_)
                    refine rf_aload_n (n := 530) 2 dL_law_529 rfl rfl rfl ?_
                    refine rf_aload_n (n := 531) 0 dL_law_530 rfl rfl rfl ?_
                    refine rf_iload (n := 533) 4 dL_law_531 rfl rfl ?_
                    refine rf_iconst (n := 534) (1 : Int32) dL_law_533 cciconst_1 rfl ?_
                    refine rf_iadd (n := 535) dL_law_534 rfl ?_
                    refine rf_scd (n := 536) hX dL_law_535 rfl (fun v80 => ?_)
                    refine rf_cV1I (n := 539) hG (okX9_flop _ _) lVL_55 hhX9_flop kk_57 sS_57 ⟨_, rfl, rfl⟩ dL_law_536 rfl (Nat.le_of_ble_eq_true rfl) (Nat.le_of_ble_eq_true rfl) (fun v81 m82 => ?_)
                    refine rf_icmp_eq (tg := 1547) (n := 542) dL_law_539 rfl rfl (fun c83 => ?_) (fun c83 => ?_)
                    · refine rf_widen (k1 := n1 + 1) (k2 := n2 + 6) (Nat.le_succ _) (Nat.le_add_right _ _) hw1 hw2 ?_
                      exact pL_law_K1547 hG hk hst hE hX hend9 _ r23 hr23 _
                    · refine rf_iconst (n := 543) (0 : Int32) dL_law_542 cciconst_0 rfl ?_
                      exact rf_none
                  · refine rf_split (fun c84 => ?_) (fun c84 => ?_)
                    · refine rf_tabIn (tg := 544) (8 : Int32) c84 dL_law_40 (by decide) rfl rfl ?_
                      refine rf_aload_n (n := 545) 1 dL_law_544 rfl rfl rfl ?_
                      refine rf_aload_n (n := 546) 0 dL_law_545 rfl rfl rfl ?_
                      refine rf_iload (n := 548) 4 dL_law_546 rfl rfl ?_
                      refine rf_iconst (n := 549) (1 : Int32) dL_law_548 cciconst_1 rfl ?_
                      refine rf_iadd (n := 550) dL_law_549 rfl ?_
                      refine rf_scd (n := 551) hX dL_law_550 rfl (fun v85 => ?_)
                      refine rf_cV1I (n := 554) hG (okX8_skew _ _) lVL_56 hhX8_skew kk_0 sS_0 ⟨_, rfl, rfl⟩ dL_law_551 rfl (Nat.le_of_ble_eq_true rfl) (Nat.le_of_ble_eq_true rfl) (fun v86 m87 => ?_)
                      refine rf_aload_n (n := 555) 2 dL_law_554 rfl rfl rfl ?_
                      refine rf_aload_n (n := 556) 0 dL_law_555 rfl rfl rfl ?_
                      refine rf_iload (n := 558) 4 dL_law_556 rfl rfl ?_
                      refine rf_iconst (n := 559) (1 : Int32) dL_law_558 cciconst_1 rfl ?_
                      refine rf_iadd (n := 560) dL_law_559 rfl ?_
                      refine rf_scd (n := 561) hX dL_law_560 rfl (fun v88 => ?_)
                      refine rf_cV1I (n := 564) hG (okX9_skew _ _) lVL_59 hhX9_skew kk_57 sS_57 ⟨_, rfl, rfl⟩ dL_law_561 rfl (Nat.le_of_ble_eq_true rfl) (Nat.le_of_ble_eq_true rfl) (fun v89 m90 => ?_)
                      refine rf_icmp_eq (tg := 1547) (n := 567) dL_law_564 rfl rfl (fun c91 => ?_) (fun c91 => ?_)
                      · refine rf_widen (k1 := n1 + 1) (k2 := n2 + 6) (Nat.le_succ _) (Nat.le_add_right _ _) hw1 hw2 ?_
                        exact pL_law_K1547 hG hk hst hE hX hend9 _ r23 hr23 _
                      · refine rf_iconst (n := 568) (0 : Int32) dL_law_567 cciconst_0 rfl ?_
                        exact rf_none
                    · refine rf_split (fun c92 => ?_) (fun c92 => ?_)
                      · refine rf_tabIn (tg := 569) (9 : Int32) c92 dL_law_40 (by decide) rfl rfl ?_
                        refine rf_aload_n (n := 570) 1 dL_law_569 rfl rfl rfl ?_
                        refine rf_aload_n (n := 571) 0 dL_law_570 rfl rfl rfl ?_
                        refine rf_iload (n := 573) 4 dL_law_571 rfl rfl ?_
                        refine rf_iconst (n := 574) (1 : Int32) dL_law_573 cciconst_1 rfl ?_
                        refine rf_iadd (n := 575) dL_law_574 rfl ?_
                        refine rf_scd (n := 576) hX dL_law_575 rfl (fun v93 => ?_)
                        refine rf_aload_n (n := 577) 0 dL_law_576 rfl rfl rfl ?_
                        refine rf_iload (n := 579) 4 dL_law_577 rfl rfl ?_
                        refine rf_iconst (n := 580) (2 : Int32) dL_law_579 cciconst_2 rfl ?_
                        refine rf_iadd (n := 581) dL_law_580 rfl ?_
                        refine rf_scd (n := 582) hX dL_law_581 rfl (fun v94 => ?_)
                        refine rf_cV2I (n := 585) hG (okX8_move _ _ _) lVL_60 hhX8_move kk_0 sS_0 ⟨_, rfl, rfl⟩ dL_law_582 rfl (Nat.le_of_ble_eq_true rfl) (Nat.le_of_ble_eq_true rfl) (fun v95 m96 => ?_)
                        refine rf_aload_n (n := 586) 2 dL_law_585 rfl rfl rfl ?_
                        refine rf_aload_n (n := 587) 0 dL_law_586 rfl rfl rfl ?_
                        refine rf_iload (n := 589) 4 dL_law_587 rfl rfl ?_
                        refine rf_iconst (n := 590) (1 : Int32) dL_law_589 cciconst_1 rfl ?_
                        refine rf_iadd (n := 591) dL_law_590 rfl ?_
                        refine rf_scd (n := 592) hX dL_law_591 rfl (fun v97 => ?_)
                        refine rf_aload_n (n := 593) 0 dL_law_592 rfl rfl rfl ?_
                        refine rf_iload (n := 595) 4 dL_law_593 rfl rfl ?_
                        refine rf_iconst (n := 596) (2 : Int32) dL_law_595 cciconst_2 rfl ?_
                        refine rf_iadd (n := 597) dL_law_596 rfl ?_
                        refine rf_scd (n := 598) hX dL_law_597 rfl (fun v98 => ?_)
                        refine rf_cV2I (n := 601) hG (okX9_move _ _ _) lVL_64 hhX9_move kk_57 sS_57 ⟨_, rfl, rfl⟩ dL_law_598 rfl (Nat.le_of_ble_eq_true rfl) (Nat.le_of_ble_eq_true rfl) (fun v99 m100 => ?_)
                        refine rf_icmp_eq (tg := 1547) (n := 604) dL_law_601 rfl rfl (fun c101 => ?_) (fun c101 => ?_)
                        · refine rf_widen (k1 := n1 + 1) (k2 := n2 + 6) (Nat.le_succ _) (Nat.le_add_right _ _) hw1 hw2 ?_
                          exact pL_law_K1547 hG hk hst hE hX hend9 _ r23 hr23 _
                        · refine rf_iconst (n := 605) (0 : Int32) dL_law_604 cciconst_0 rfl ?_
                          exact rf_none
                      · refine rf_split (fun c102 => ?_) (fun c102 => ?_)
                        · refine rf_tabIn (tg := 606) (10 : Int32) c102 dL_law_40 (by decide) rfl rfl ?_
                          refine rf_aload_n (n := 607) 1 dL_law_606 rfl rfl rfl ?_
                          refine rf_aload_n (n := 608) 0 dL_law_607 rfl rfl rfl ?_
                          refine rf_iload (n := 610) 4 dL_law_608 rfl rfl ?_
                          refine rf_iconst (n := 611) (1 : Int32) dL_law_610 cciconst_1 rfl ?_
                          refine rf_iadd (n := 612) dL_law_611 rfl ?_
                          refine rf_scd (n := 613) hX dL_law_612 rfl (fun v103 => ?_)
                          refine rf_aload_n (n := 614) 0 dL_law_613 rfl rfl rfl ?_
                          refine rf_iload (n := 616) 4 dL_law_614 rfl rfl ?_
                          refine rf_iconst (n := 617) (2 : Int32) dL_law_616 cciconst_2 rfl ?_
                          refine rf_iadd (n := 618) dL_law_617 rfl ?_
                          refine rf_scd (n := 619) hX dL_law_618 rfl (fun v104 => ?_)
                          refine rf_aload_n (n := 620) 3 dL_law_619 rfl rfl rfl ?_
                          refine rf_lc (n := 623) hG hk hst hE (Nat.le_of_ble_eq_true rfl) (Nat.le_of_ble_eq_true rfl) hw1 hw2 dL_law_620 rfl (fun v105 m106 => ?_)
                          refine rf_istore (lc2 := [some (.ref 1000001), some (.ref 0), some (.ref 57), some (.ref 84), some (.int l4), some (.int v105), none]) (n := 625) 5 dL_law_623 rfl (Nat.le_of_ble_eq_true rfl) rfl rfl ?_
                          refine rf_aload_n (n := 626) 2 dL_law_625 rfl rfl rfl ?_
                          refine rf_aload_n (n := 627) 0 dL_law_626 rfl rfl rfl ?_
                          refine rf_iload (n := 629) 4 dL_law_627 rfl rfl ?_
                          refine rf_iconst (n := 630) (1 : Int32) dL_law_629 cciconst_1 rfl ?_
                          refine rf_iadd (n := 631) dL_law_630 rfl ?_
                          refine rf_scd (n := 632) hX dL_law_631 rfl (fun v107 => ?_)
                          refine rf_aload_n (n := 633) 0 dL_law_632 rfl rfl rfl ?_
                          refine rf_iload (n := 635) 4 dL_law_633 rfl rfl ?_
                          refine rf_iconst (n := 636) (2 : Int32) dL_law_635 cciconst_2 rfl ?_
                          refine rf_iadd (n := 637) dL_law_636 rfl ?_
                          refine rf_scd (n := 638) hX dL_law_637 rfl (fun v108 => ?_)
                          refine rf_cV2I (n := 641) hG (okX9_cell _ _ _) lVL_70 hhX9_cell kk_57 sS_57 ⟨_, rfl, rfl⟩ dL_law_638 rfl (Nat.le_of_ble_eq_true rfl) (Nat.le_of_ble_eq_true rfl) (fun v109 m110 => ?_)
                          refine rf_istore (lc2 := [some (.ref 1000001), some (.ref 0), some (.ref 57), some (.ref 84), some (.int l4), some (.int v105), some (.int v109)]) (n := 643) 6 dL_law_641 rfl (Nat.le_of_ble_eq_true rfl) rfl rfl ?_
                          refine rf_aload_n (n := 644) 2 dL_law_643 rfl rfl rfl ?_
                          refine rf_cV0I (n := 647) hG (okX9_thrown _) lVL_71 hhX9_thrown kk_57 sS_57 ⟨_, rfl, rfl⟩ dL_law_644 rfl (Nat.le_of_ble_eq_true rfl) (Nat.le_of_ble_eq_true rfl) (fun v111 m112 => ?_)
                          refine rf_iload (n := 649) 5 dL_law_647 rfl rfl ?_
                          refine rf_icmp_eq (tg := 654) (n := 652) dL_law_649 rfl rfl (fun c116 => ?_) (fun c116 => ?_)
                          · refine rf_iload (n := 656) 5 dL_law_654 rfl rfl ?_
                            refine rf_if_ne (tg := 671) (n := 659) dL_law_656 rfl rfl (fun c115 => ?_) (fun c115 => ?_)
                            · refine rf_mask (lc2 := [some (.ref 1000001), some (.ref 0), some (.ref 57), some (.ref 84), some (.int l4), none, none]) [true, true, true, true, true, false, false] rfl ?_
                              exact pL_law_K671 hG hk hst hE hX hend9 _ r23 hr23 _
                            · refine rf_aload_n (n := 660) 3 dL_law_659 rfl rfl rfl ?_
                              refine rf_iconst (n := 661) (0 : Int32) dL_law_660 cciconst_0 rfl ?_
                              refine rf_laldO (n := 662) hk dL_law_661 rfl (fun v113 => ?_)
                              refine rf_iload (n := 664) 6 dL_law_662 rfl rfl ?_
                              refine rf_i2l (n := 665) dL_law_664 rfl ?_
                              refine rf_lcmp (n := 666) dL_law_665 rfl ?_
                              refine rf_if_eq (tg := 671) (n := 669) dL_law_666 rfl rfl (fun c114 => ?_) (fun c114 => ?_)
                              · refine rf_mask (lc2 := [some (.ref 1000001), some (.ref 0), some (.ref 57), some (.ref 84), some (.int l4), none, none]) [true, true, true, true, true, false, false] rfl ?_
                                exact pL_law_K671 hG hk hst hE hX hend9 _ r23 hr23 _
                              · refine rf_iconst (n := 670) (0 : Int32) dL_law_669 cciconst_0 rfl ?_
                                exact rf_none
                          · refine rf_iconst (n := 653) (0 : Int32) dL_law_652 cciconst_0 rfl ?_
                            exact rf_none
                        · refine rf_split (fun c117 => ?_) (fun c117 => ?_)
                          · refine rf_tabIn (tg := 674) (11 : Int32) c117 dL_law_40 (by decide) rfl rfl ?_
                            refine rf_aload_n (n := 675) 1 dL_law_674 rfl rfl rfl ?_
                            refine rf_aload_n (n := 676) 0 dL_law_675 rfl rfl rfl ?_
                            refine rf_iload (n := 678) 4 dL_law_676 rfl rfl ?_
                            refine rf_iconst (n := 679) (1 : Int32) dL_law_678 cciconst_1 rfl ?_
                            refine rf_iadd (n := 680) dL_law_679 rfl ?_
                            refine rf_scd (n := 681) hX dL_law_680 rfl (fun v118 => ?_)
                            refine rf_aload_n (n := 682) 0 dL_law_681 rfl rfl rfl ?_
                            refine rf_iload (n := 684) 4 dL_law_682 rfl rfl ?_
                            refine rf_iconst (n := 685) (2 : Int32) dL_law_684 cciconst_2 rfl ?_
                            refine rf_iadd (n := 686) dL_law_685 rfl ?_
                            refine rf_scd (n := 687) hX dL_law_686 rfl (fun v119 => ?_)
                            refine rf_cV2I (n := 690) hG (okX8_path _ _ _) lVL_75 hhX8_path kk_0 sS_0 ⟨_, rfl, rfl⟩ dL_law_687 rfl (Nat.le_of_ble_eq_true rfl) (Nat.le_of_ble_eq_true rfl) (fun v120 m121 => ?_)
                            refine rf_aload_n (n := 691) 2 dL_law_690 rfl rfl rfl ?_
                            refine rf_aload_n (n := 692) 0 dL_law_691 rfl rfl rfl ?_
                            refine rf_iload (n := 694) 4 dL_law_692 rfl rfl ?_
                            refine rf_iconst (n := 695) (1 : Int32) dL_law_694 cciconst_1 rfl ?_
                            refine rf_iadd (n := 696) dL_law_695 rfl ?_
                            refine rf_scd (n := 697) hX dL_law_696 rfl (fun v122 => ?_)
                            refine rf_aload_n (n := 698) 0 dL_law_697 rfl rfl rfl ?_
                            refine rf_iload (n := 700) 4 dL_law_698 rfl rfl ?_
                            refine rf_iconst (n := 701) (2 : Int32) dL_law_700 cciconst_2 rfl ?_
                            refine rf_iadd (n := 702) dL_law_701 rfl ?_
                            refine rf_scd (n := 703) hX dL_law_702 rfl (fun v123 => ?_)
                            refine rf_cV2I (n := 706) hG (okX9_path _ _ _) lVL_78 hhX9_path kk_57 sS_57 ⟨_, rfl, rfl⟩ dL_law_703 rfl (Nat.le_of_ble_eq_true rfl) (Nat.le_of_ble_eq_true rfl) (fun v124 m125 => ?_)
                            refine rf_icmp_eq (tg := 1547) (n := 709) dL_law_706 rfl rfl (fun c126 => ?_) (fun c126 => ?_)
                            · refine rf_widen (k1 := n1 + 1) (k2 := n2 + 6) (Nat.le_succ _) (Nat.le_add_right _ _) hw1 hw2 ?_
                              exact pL_law_K1547 hG hk hst hE hX hend9 _ r23 hr23 _
                            · refine rf_iconst (n := 710) (0 : Int32) dL_law_709 cciconst_0 rfl ?_
                              exact rf_none
                          · refine rf_split (fun c127 => ?_) (fun c127 => ?_)
                            · refine rf_tabIn (tg := 711) (12 : Int32) c127 dL_law_40 (by decide) rfl rfl ?_
                              refine rf_aload_n (n := 712) 1 dL_law_711 rfl rfl rfl ?_
                              refine rf_aload_n (n := 713) 0 dL_law_712 rfl rfl rfl ?_
                              refine rf_iload (n := 715) 4 dL_law_713 rfl rfl ?_
                              refine rf_iconst (n := 716) (1 : Int32) dL_law_715 cciconst_1 rfl ?_
                              refine rf_iadd (n := 717) dL_law_716 rfl ?_
                              refine rf_scd (n := 718) hX dL_law_717 rfl (fun v128 => ?_)
                              refine rf_aload_n (n := 719) 0 dL_law_718 rfl rfl rfl ?_
                              refine rf_iload (n := 721) 4 dL_law_719 rfl rfl ?_
                              refine rf_iconst (n := 722) (2 : Int32) dL_law_721 cciconst_2 rfl ?_
                              refine rf_iadd (n := 723) dL_law_722 rfl ?_
                              refine rf_scd (n := 724) hX dL_law_723 rfl (fun v129 => ?_)
                              refine rf_cV2I (n := 727) hG (okX8_opens _ _ _) lVL_79 hhX8_opens kk_0 sS_0 ⟨_, rfl, rfl⟩ dL_law_724 rfl (Nat.le_of_ble_eq_true rfl) (Nat.le_of_ble_eq_true rfl) (fun v130 m131 => ?_)
                              refine rf_aload_n (n := 728) 2 dL_law_727 rfl rfl rfl ?_
                              refine rf_aload_n (n := 729) 0 dL_law_728 rfl rfl rfl ?_
                              refine rf_iload (n := 731) 4 dL_law_729 rfl rfl ?_
                              refine rf_iconst (n := 732) (1 : Int32) dL_law_731 cciconst_1 rfl ?_
                              refine rf_iadd (n := 733) dL_law_732 rfl ?_
                              refine rf_scd (n := 734) hX dL_law_733 rfl (fun v132 => ?_)
                              refine rf_aload_n (n := 735) 0 dL_law_734 rfl rfl rfl ?_
                              refine rf_iload (n := 737) 4 dL_law_735 rfl rfl ?_
                              refine rf_iconst (n := 738) (2 : Int32) dL_law_737 cciconst_2 rfl ?_
                              refine rf_iadd (n := 739) dL_law_738 rfl ?_
                              refine rf_scd (n := 740) hX dL_law_739 rfl (fun v133 => ?_)
                              refine rf_cV2I (n := 743) hG (okX9_opens _ _ _) lVL_82 hhX9_opens kk_57 sS_57 ⟨_, rfl, rfl⟩ dL_law_740 rfl (Nat.le_of_ble_eq_true rfl) (Nat.le_of_ble_eq_true rfl) (fun v134 m135 => ?_)
                              refine rf_icmp_eq (tg := 1547) (n := 746) dL_law_743 rfl rfl (fun c136 => ?_) (fun c136 => ?_)
                              · refine rf_widen (k1 := n1 + 1) (k2 := n2 + 6) (Nat.le_succ _) (Nat.le_add_right _ _) hw1 hw2 ?_
                                exact pL_law_K1547 hG hk hst hE hX hend9 _ r23 hr23 _
                              · refine rf_iconst (n := 747) (0 : Int32) dL_law_746 cciconst_0 rfl ?_
                                exact rf_none
                            · refine rf_split (fun c137 => ?_) (fun c137 => ?_)
                              · refine rf_tabIn (tg := 748) (13 : Int32) c137 dL_law_40 (by decide) rfl rfl ?_
                                refine rf_aload_n (n := 749) 1 dL_law_748 rfl rfl rfl ?_
                                refine rf_aload_n (n := 750) 0 dL_law_749 rfl rfl rfl ?_
                                refine rf_iload (n := 752) 4 dL_law_750 rfl rfl ?_
                                refine rf_iconst (n := 753) (1 : Int32) dL_law_752 cciconst_1 rfl ?_
                                refine rf_iadd (n := 754) dL_law_753 rfl ?_
                                refine rf_scd (n := 755) hX dL_law_754 rfl (fun v138 => ?_)
                                refine rf_cV1L (n := 758) hG (okX8_leaves _ _) lVL_83 hhX8_leaves kk_0 sS_0 ⟨_, rfl, rfl⟩ dL_law_755 rfl (Nat.le_of_ble_eq_true rfl) (Nat.le_of_ble_eq_true rfl) (fun v139 m140 => ?_)
                                refine rf_aload_n (n := 759) 2 dL_law_758 rfl rfl rfl ?_
                                refine rf_aload_n (n := 760) 0 dL_law_759 rfl rfl rfl ?_
                                refine rf_iload (n := 762) 4 dL_law_760 rfl rfl ?_
                                refine rf_iconst (n := 763) (1 : Int32) dL_law_762 cciconst_1 rfl ?_
                                refine rf_iadd (n := 764) dL_law_763 rfl ?_
                                refine rf_scd (n := 765) hX dL_law_764 rfl (fun v141 => ?_)
                                refine rf_cV1L (n := 768) hG (okX9_leaves _ _) lVL_87 hhX9_leaves kk_57 sS_57 ⟨_, rfl, rfl⟩ dL_law_765 rfl (Nat.le_of_ble_eq_true rfl) (Nat.le_of_ble_eq_true rfl) (fun v142 m143 => ?_)
                                refine rf_lcmp (n := 769) dL_law_768 rfl ?_
                                refine rf_if_eq (tg := 1547) (n := 772) dL_law_769 rfl rfl (fun c144 => ?_) (fun c144 => ?_)
                                · refine rf_widen (k1 := n1 + 1) (k2 := n2 + 6) (Nat.le_succ _) (Nat.le_add_right _ _) hw1 hw2 ?_
                                  exact pL_law_K1547 hG hk hst hE hX hend9 _ r23 hr23 _
                                · refine rf_iconst (n := 773) (0 : Int32) dL_law_772 cciconst_0 rfl ?_
                                  exact rf_none
                              · refine rf_split (fun c145 => ?_) (fun c145 => ?_)
                                · refine rf_tabIn (tg := 774) (14 : Int32) c145 dL_law_40 (by decide) rfl rfl ?_
                                  refine rf_aload_n (n := 775) 1 dL_law_774 rfl rfl rfl ?_
                                  refine rf_aload_n (n := 776) 0 dL_law_775 rfl rfl rfl ?_
                                  refine rf_iload (n := 778) 4 dL_law_776 rfl rfl ?_
                                  refine rf_iconst (n := 779) (1 : Int32) dL_law_778 cciconst_1 rfl ?_
                                  refine rf_iadd (n := 780) dL_law_779 rfl ?_
                                  refine rf_scd (n := 781) hX dL_law_780 rfl (fun v146 => ?_)
                                  refine rf_cV1L (n := 784) hG (okX8_comes _ _) lVL_88 hhX8_comes kk_0 sS_0 ⟨_, rfl, rfl⟩ dL_law_781 rfl (Nat.le_of_ble_eq_true rfl) (Nat.le_of_ble_eq_true rfl) (fun v147 m148 => ?_)
                                  refine rf_aload_n (n := 785) 2 dL_law_784 rfl rfl rfl ?_
                                  refine rf_aload_n (n := 786) 0 dL_law_785 rfl rfl rfl ?_
                                  refine rf_iload (n := 788) 4 dL_law_786 rfl rfl ?_
                                  refine rf_iconst (n := 789) (1 : Int32) dL_law_788 cciconst_1 rfl ?_
                                  refine rf_iadd (n := 790) dL_law_789 rfl ?_
                                  refine rf_scd (n := 791) hX dL_law_790 rfl (fun v149 => ?_)
                                  refine rf_cV1L (n := 794) hG (okX9_comes _ _) lVL_91 hhX9_comes kk_57 sS_57 ⟨_, rfl, rfl⟩ dL_law_791 rfl (Nat.le_of_ble_eq_true rfl) (Nat.le_of_ble_eq_true rfl) (fun v150 m151 => ?_)
                                  refine rf_lcmp (n := 795) dL_law_794 rfl ?_
                                  refine rf_if_eq (tg := 1547) (n := 798) dL_law_795 rfl rfl (fun c152 => ?_) (fun c152 => ?_)
                                  · refine rf_widen (k1 := n1 + 1) (k2 := n2 + 6) (Nat.le_succ _) (Nat.le_add_right _ _) hw1 hw2 ?_
                                    exact pL_law_K1547 hG hk hst hE hX hend9 _ r23 hr23 _
                                  · refine rf_iconst (n := 799) (0 : Int32) dL_law_798 cciconst_0 rfl ?_
                                    exact rf_none
                                · refine rf_split (fun c153 => ?_) (fun c153 => ?_)
                                  · refine rf_tabIn (tg := 800) (15 : Int32) c153 dL_law_40 (by decide) rfl rfl ?_
                                    refine rf_aload_n (n := 801) 1 dL_law_800 rfl rfl rfl ?_
                                    refine rf_aload_n (n := 802) 0 dL_law_801 rfl rfl rfl ?_
                                    refine rf_iload (n := 804) 4 dL_law_802 rfl rfl ?_
                                    refine rf_iconst (n := 805) (1 : Int32) dL_law_804 cciconst_1 rfl ?_
                                    refine rf_iadd (n := 806) dL_law_805 rfl ?_
                                    refine rf_scd (n := 807) hX dL_law_806 rfl (fun v154 => ?_)
                                    refine rf_cV1L (n := 810) hG (okX8_room _ _) lVL_92 hhX8_room kk_0 sS_0 ⟨_, rfl, rfl⟩ dL_law_807 rfl (Nat.le_of_ble_eq_true rfl) (Nat.le_of_ble_eq_true rfl) (fun v155 m156 => ?_)
                                    refine rf_aload_n (n := 811) 2 dL_law_810 rfl rfl rfl ?_
                                    refine rf_aload_n (n := 812) 0 dL_law_811 rfl rfl rfl ?_
                                    refine rf_iload (n := 814) 4 dL_law_812 rfl rfl ?_
                                    refine rf_iconst (n := 815) (1 : Int32) dL_law_814 cciconst_1 rfl ?_
                                    refine rf_iadd (n := 816) dL_law_815 rfl ?_
                                    refine rf_scd (n := 817) hX dL_law_816 rfl (fun v157 => ?_)
                                    refine rf_cV1L (n := 820) hG (okX9_room _ _) lVL_95 hhX9_room kk_57 sS_57 ⟨_, rfl, rfl⟩ dL_law_817 rfl (Nat.le_of_ble_eq_true rfl) (Nat.le_of_ble_eq_true rfl) (fun v158 m159 => ?_)
                                    refine rf_lcmp (n := 821) dL_law_820 rfl ?_
                                    refine rf_if_eq (tg := 1547) (n := 824) dL_law_821 rfl rfl (fun c160 => ?_) (fun c160 => ?_)
                                    · refine rf_widen (k1 := n1 + 1) (k2 := n2 + 6) (Nat.le_succ _) (Nat.le_add_right _ _) hw1 hw2 ?_
                                      exact pL_law_K1547 hG hk hst hE hX hend9 _ r23 hr23 _
                                    · refine rf_iconst (n := 825) (0 : Int32) dL_law_824 cciconst_0 rfl ?_
                                      exact rf_none
                                  · refine rf_split (fun c161 => ?_) (fun c161 => ?_)
                                    · refine rf_tabIn (tg := 826) (16 : Int32) c161 dL_law_40 (by decide) rfl rfl ?_
                                      refine rf_aload_n (n := 827) 1 dL_law_826 rfl rfl rfl ?_
                                      refine rf_aload_n (n := 828) 0 dL_law_827 rfl rfl rfl ?_
                                      refine rf_iload (n := 830) 4 dL_law_828 rfl rfl ?_
                                      refine rf_iconst (n := 831) (1 : Int32) dL_law_830 cciconst_1 rfl ?_
                                      refine rf_iadd (n := 832) dL_law_831 rfl ?_
                                      refine rf_scd (n := 833) hX dL_law_832 rfl (fun v162 => ?_)
                                      refine rf_cV1I (n := 836) hG (okX8_from _ _) lVL_96 hhX8_from kk_0 sS_0 ⟨_, rfl, rfl⟩ dL_law_833 rfl (Nat.le_of_ble_eq_true rfl) (Nat.le_of_ble_eq_true rfl) (fun v163 m164 => ?_)
                                      refine rf_aload_n (n := 837) 2 dL_law_836 rfl rfl rfl ?_
                                      refine rf_aload_n (n := 838) 0 dL_law_837 rfl rfl rfl ?_
                                      refine rf_iload (n := 840) 4 dL_law_838 rfl rfl ?_
                                      refine rf_iconst (n := 841) (1 : Int32) dL_law_840 cciconst_1 rfl ?_
                                      refine rf_iadd (n := 842) dL_law_841 rfl ?_
                                      refine rf_scd (n := 843) hX dL_law_842 rfl (fun v165 => ?_)
                                      refine rf_cV1I (n := 846) hG (okX9_from _ _) lVL_99 hhX9_from kk_57 sS_57 ⟨_, rfl, rfl⟩ dL_law_843 rfl (Nat.le_of_ble_eq_true rfl) (Nat.le_of_ble_eq_true rfl) (fun v166 m167 => ?_)
                                      refine rf_icmp_eq (tg := 1547) (n := 849) dL_law_846 rfl rfl (fun c168 => ?_) (fun c168 => ?_)
                                      · refine rf_widen (k1 := n1 + 1) (k2 := n2 + 6) (Nat.le_succ _) (Nat.le_add_right _ _) hw1 hw2 ?_
                                        exact pL_law_K1547 hG hk hst hE hX hend9 _ r23 hr23 _
                                      · refine rf_iconst (n := 850) (0 : Int32) dL_law_849 cciconst_0 rfl ?_
                                        exact rf_none
                                    · refine rf_split (fun c169 => ?_) (fun c169 => ?_)
                                      · refine rf_tabIn (tg := 851) (17 : Int32) c169 dL_law_40 (by decide) rfl rfl ?_
                                        refine rf_aload_n (n := 852) 1 dL_law_851 rfl rfl rfl ?_
                                        refine rf_aload_n (n := 853) 0 dL_law_852 rfl rfl rfl ?_
                                        refine rf_iload (n := 855) 4 dL_law_853 rfl rfl ?_
                                        refine rf_iconst (n := 856) (1 : Int32) dL_law_855 cciconst_1 rfl ?_
                                        refine rf_iadd (n := 857) dL_law_856 rfl ?_
                                        refine rf_scd (n := 858) hX dL_law_857 rfl (fun v170 => ?_)
                                        refine rf_aload_n (n := 859) 0 dL_law_858 rfl rfl rfl ?_
                                        refine rf_iload (n := 861) 4 dL_law_859 rfl rfl ?_
                                        refine rf_iconst (n := 862) (2 : Int32) dL_law_861 cciconst_2 rfl ?_
                                        refine rf_iadd (n := 863) dL_law_862 rfl ?_
                                        refine rf_scd (n := 864) hX dL_law_863 rfl (fun v171 => ?_)
                                        refine rf_cV2I (n := 867) hG (okX8_chain _ _ _) lVL_100 hhX8_chain kk_0 sS_0 ⟨_, rfl, rfl⟩ dL_law_864 rfl (Nat.le_of_ble_eq_true rfl) (Nat.le_of_ble_eq_true rfl) (fun v172 m173 => ?_)
                                        refine rf_aload_n (n := 868) 2 dL_law_867 rfl rfl rfl ?_
                                        refine rf_aload_n (n := 869) 0 dL_law_868 rfl rfl rfl ?_
                                        refine rf_iload (n := 871) 4 dL_law_869 rfl rfl ?_
                                        refine rf_iconst (n := 872) (1 : Int32) dL_law_871 cciconst_1 rfl ?_
                                        refine rf_iadd (n := 873) dL_law_872 rfl ?_
                                        refine rf_scd (n := 874) hX dL_law_873 rfl (fun v174 => ?_)
                                        refine rf_aload_n (n := 875) 0 dL_law_874 rfl rfl rfl ?_
                                        refine rf_iload (n := 877) 4 dL_law_875 rfl rfl ?_
                                        refine rf_iconst (n := 878) (2 : Int32) dL_law_877 cciconst_2 rfl ?_
                                        refine rf_iadd (n := 879) dL_law_878 rfl ?_
                                        refine rf_scd (n := 880) hX dL_law_879 rfl (fun v175 => ?_)
                                        refine rf_cV2I (n := 883) hG (okX9_chain _ _ _) lVL_103 hhX9_chain kk_57 sS_57 ⟨_, rfl, rfl⟩ dL_law_880 rfl (Nat.le_of_ble_eq_true rfl) (Nat.le_of_ble_eq_true rfl) (fun v176 m177 => ?_)
                                        refine rf_icmp_eq (tg := 1547) (n := 886) dL_law_883 rfl rfl (fun c178 => ?_) (fun c178 => ?_)
                                        · refine rf_widen (k1 := n1 + 1) (k2 := n2 + 6) (Nat.le_succ _) (Nat.le_add_right _ _) hw1 hw2 ?_
                                          exact pL_law_K1547 hG hk hst hE hX hend9 _ r23 hr23 _
                                        · refine rf_iconst (n := 887) (0 : Int32) dL_law_886 cciconst_0 rfl ?_
                                          exact rf_none
                                      · refine rf_split (fun c179 => ?_) (fun c179 => ?_)
                                        · refine rf_tabIn (tg := 888) (18 : Int32) c179 dL_law_40 (by decide) rfl rfl ?_
                                          refine rf_aload_n (n := 889) 1 dL_law_888 rfl rfl rfl ?_
                                          refine rf_aload_n (n := 890) 0 dL_law_889 rfl rfl rfl ?_
                                          refine rf_iload (n := 892) 4 dL_law_890 rfl rfl ?_
                                          refine rf_iconst (n := 893) (1 : Int32) dL_law_892 cciconst_1 rfl ?_
                                          refine rf_iadd (n := 894) dL_law_893 rfl ?_
                                          refine rf_scd (n := 895) hX dL_law_894 rfl (fun v180 => ?_)
                                          refine rf_cV1I (n := 898) hG (okX8_which _ _) lVL_104 hhX8_which kk_0 sS_0 ⟨_, rfl, rfl⟩ dL_law_895 rfl (Nat.le_of_ble_eq_true rfl) (Nat.le_of_ble_eq_true rfl) (fun v181 m182 => ?_)
                                          refine rf_aload_n (n := 899) 2 dL_law_898 rfl rfl rfl ?_
                                          refine rf_aload_n (n := 900) 0 dL_law_899 rfl rfl rfl ?_
                                          refine rf_iload (n := 902) 4 dL_law_900 rfl rfl ?_
                                          refine rf_iconst (n := 903) (1 : Int32) dL_law_902 cciconst_1 rfl ?_
                                          refine rf_iadd (n := 904) dL_law_903 rfl ?_
                                          refine rf_scd (n := 905) hX dL_law_904 rfl (fun v183 => ?_)
                                          refine rf_cV1I (n := 908) hG (okX9_which _ _) lVL_107 hhX9_which kk_57 sS_57 ⟨_, rfl, rfl⟩ dL_law_905 rfl (Nat.le_of_ble_eq_true rfl) (Nat.le_of_ble_eq_true rfl) (fun v184 m185 => ?_)
                                          refine rf_icmp_eq (tg := 1547) (n := 911) dL_law_908 rfl rfl (fun c186 => ?_) (fun c186 => ?_)
                                          · refine rf_widen (k1 := n1 + 1) (k2 := n2 + 6) (Nat.le_succ _) (Nat.le_add_right _ _) hw1 hw2 ?_
                                            exact pL_law_K1547 hG hk hst hE hX hend9 _ r23 hr23 _
                                          · refine rf_iconst (n := 912) (0 : Int32) dL_law_911 cciconst_0 rfl ?_
                                            exact rf_none
                                        · refine rf_split (fun c187 => ?_) (fun c187 => ?_)
                                          · refine rf_tabIn (tg := 913) (19 : Int32) c187 dL_law_40 (by decide) rfl rfl ?_
                                            refine rf_aload_n (n := 914) 1 dL_law_913 rfl rfl rfl ?_
                                            refine rf_cV0I (n := 917) hG (okX8_good _) lVL_108 hhX8_good kk_0 sS_0 ⟨_, rfl, rfl⟩ dL_law_914 rfl (Nat.le_of_ble_eq_true rfl) (Nat.le_of_ble_eq_true rfl) (fun v188 m189 => ?_)
                                            refine rf_aload_n (n := 918) 2 dL_law_917 rfl rfl rfl ?_
                                            refine rf_cV0I (n := 921) hG (okX9_good _) lVL_111 hhX9_good kk_57 sS_57 ⟨_, rfl, rfl⟩ dL_law_918 rfl (Nat.le_of_ble_eq_true rfl) (Nat.le_of_ble_eq_true rfl) (fun v190 m191 => ?_)
                                            refine rf_icmp_eq (tg := 1547) (n := 924) dL_law_921 rfl rfl (fun c192 => ?_) (fun c192 => ?_)
                                            · refine rf_widen (k1 := n1 + 1) (k2 := n2 + 6) (Nat.le_succ _) (Nat.le_add_right _ _) hw1 hw2 ?_
                                              exact pL_law_K1547 hG hk hst hE hX hend9 _ r23 hr23 _
                                            · refine rf_iconst (n := 925) (0 : Int32) dL_law_924 cciconst_0 rfl ?_
                                              exact rf_none
                                          · refine rf_split (fun c193 => ?_) (fun c193 => ?_)
                                            · refine rf_tabIn (tg := 926) (20 : Int32) c193 dL_law_40 (by decide) rfl rfl ?_
                                              refine rf_aload_n (n := 927) 1 dL_law_926 rfl rfl rfl ?_
                                              refine rf_aload_n (n := 928) 0 dL_law_927 rfl rfl rfl ?_
                                              refine rf_iload (n := 930) 4 dL_law_928 rfl rfl ?_
                                              refine rf_iconst (n := 931) (1 : Int32) dL_law_930 cciconst_1 rfl ?_
                                              refine rf_iadd (n := 932) dL_law_931 rfl ?_
                                              refine rf_scd (n := 933) hX dL_law_932 rfl (fun v194 => ?_)
                                              refine rf_cV1L (n := 936) hG (okX8_gap _ _) lVL_112 hhX8_gap kk_0 sS_0 ⟨_, rfl, rfl⟩ dL_law_933 rfl (Nat.le_of_ble_eq_true rfl) (Nat.le_of_ble_eq_true rfl) (fun v195 m196 => ?_)
                                              refine rf_aload_n (n := 937) 2 dL_law_936 rfl rfl rfl ?_
                                              refine rf_aload_n (n := 938) 0 dL_law_937 rfl rfl rfl ?_
                                              refine rf_iload (n := 940) 4 dL_law_938 rfl rfl ?_
                                              refine rf_iconst (n := 941) (1 : Int32) dL_law_940 cciconst_1 rfl ?_
                                              refine rf_iadd (n := 942) dL_law_941 rfl ?_
                                              refine rf_scd (n := 943) hX dL_law_942 rfl (fun v197 => ?_)
                                              refine rf_cV1L (n := 946) hG (okX9_gap _ _) lVL_115 hhX9_gap kk_57 sS_57 ⟨_, rfl, rfl⟩ dL_law_943 rfl (Nat.le_of_ble_eq_true rfl) (Nat.le_of_ble_eq_true rfl) (fun v198 m199 => ?_)
                                              refine rf_lcmp (n := 947) dL_law_946 rfl ?_
                                              refine rf_if_eq (tg := 1547) (n := 950) dL_law_947 rfl rfl (fun c200 => ?_) (fun c200 => ?_)
                                              · refine rf_widen (k1 := n1 + 1) (k2 := n2 + 6) (Nat.le_succ _) (Nat.le_add_right _ _) hw1 hw2 ?_
                                                exact pL_law_K1547 hG hk hst hE hX hend9 _ r23 hr23 _
                                              · refine rf_iconst (n := 951) (0 : Int32) dL_law_950 cciconst_0 rfl ?_
                                                exact rf_none
                                            · refine rf_split (fun c201 => ?_) (fun c201 => ?_)
                                              · refine rf_tabIn (tg := 952) (21 : Int32) c201 dL_law_40 (by decide) rfl rfl ?_
                                                refine rf_aload_n (n := 953) 1 dL_law_952 rfl rfl rfl ?_
                                                refine rf_aload_n (n := 954) 0 dL_law_953 rfl rfl rfl ?_
                                                refine rf_iload (n := 956) 4 dL_law_954 rfl rfl ?_
                                                refine rf_iconst (n := 957) (1 : Int32) dL_law_956 cciconst_1 rfl ?_
                                                refine rf_iadd (n := 958) dL_law_957 rfl ?_
                                                refine rf_scd (n := 959) hX dL_law_958 rfl (fun v202 => ?_)
                                                refine rf_cV1I (n := 962) hG (okX8_pad _ _) lVL_116 hhX8_pad kk_0 sS_0 ⟨_, rfl, rfl⟩ dL_law_959 rfl (Nat.le_of_ble_eq_true rfl) (Nat.le_of_ble_eq_true rfl) (fun v203 m204 => ?_)
                                                refine rf_aload_n (n := 963) 2 dL_law_962 rfl rfl rfl ?_
                                                refine rf_aload_n (n := 964) 0 dL_law_963 rfl rfl rfl ?_
                                                refine rf_iload (n := 966) 4 dL_law_964 rfl rfl ?_
                                                refine rf_iconst (n := 967) (1 : Int32) dL_law_966 cciconst_1 rfl ?_
                                                refine rf_iadd (n := 968) dL_law_967 rfl ?_
                                                refine rf_scd (n := 969) hX dL_law_968 rfl (fun v205 => ?_)
                                                refine rf_cV1I (n := 972) hG (okX9_pad _ _) lVL_119 hhX9_pad kk_57 sS_57 ⟨_, rfl, rfl⟩ dL_law_969 rfl (Nat.le_of_ble_eq_true rfl) (Nat.le_of_ble_eq_true rfl) (fun v206 m207 => ?_)
                                                refine rf_icmp_eq (tg := 1547) (n := 975) dL_law_972 rfl rfl (fun c208 => ?_) (fun c208 => ?_)
                                                · refine rf_widen (k1 := n1 + 1) (k2 := n2 + 6) (Nat.le_succ _) (Nat.le_add_right _ _) hw1 hw2 ?_
                                                  exact pL_law_K1547 hG hk hst hE hX hend9 _ r23 hr23 _
                                                · refine rf_iconst (n := 976) (0 : Int32) dL_law_975 cciconst_0 rfl ?_
                                                  exact rf_none
                                              · refine rf_split (fun c209 => ?_) (fun c209 => ?_)
                                                · refine rf_tabIn (tg := 977) (22 : Int32) c209 dL_law_40 (by decide) rfl rfl ?_
                                                  refine rf_aload_n (n := 978) 1 dL_law_977 rfl rfl rfl ?_
                                                  refine rf_cV0I (n := 981) hG (okX8_pads _) lVL_120 hhX8_pads kk_0 sS_0 ⟨_, rfl, rfl⟩ dL_law_978 rfl (Nat.le_of_ble_eq_true rfl) (Nat.le_of_ble_eq_true rfl) (fun v210 m211 => ?_)
                                                  refine rf_aload_n (n := 982) 2 dL_law_981 rfl rfl rfl ?_
                                                  refine rf_cV0I (n := 985) hG (okX9_pads _) lVL_123 hhX9_pads kk_57 sS_57 ⟨_, rfl, rfl⟩ dL_law_982 rfl (Nat.le_of_ble_eq_true rfl) (Nat.le_of_ble_eq_true rfl) (fun v212 m213 => ?_)
                                                  refine rf_icmp_eq (tg := 1547) (n := 988) dL_law_985 rfl rfl (fun c214 => ?_) (fun c214 => ?_)
                                                  · refine rf_widen (k1 := n1 + 1) (k2 := n2 + 6) (Nat.le_succ _) (Nat.le_add_right _ _) hw1 hw2 ?_
                                                    exact pL_law_K1547 hG hk hst hE hX hend9 _ r23 hr23 _
                                                  · refine rf_iconst (n := 989) (0 : Int32) dL_law_988 cciconst_0 rfl ?_
                                                    exact rf_none
                                                · refine rf_split (fun c215 => ?_) (fun c215 => ?_)
                                                  · refine rf_tabIn (tg := 990) (23 : Int32) c215 dL_law_40 (by decide) rfl rfl ?_
                                                    refine rf_aload_n (n := 991) 1 dL_law_990 rfl rfl rfl ?_
                                                    refine rf_aload_n (n := 992) 0 dL_law_991 rfl rfl rfl ?_
                                                    refine rf_iload (n := 994) 4 dL_law_992 rfl rfl ?_
                                                    refine rf_iconst (n := 995) (1 : Int32) dL_law_994 cciconst_1 rfl ?_
                                                    refine rf_iadd (n := 996) dL_law_995 rfl ?_
                                                    refine rf_scd (n := 997) hX dL_law_996 rfl (fun v216 => ?_)
                                                    refine rf_aload_n (n := 998) 0 dL_law_997 rfl rfl rfl ?_
                                                    refine rf_iload (n := 1000) 4 dL_law_998 rfl rfl ?_
                                                    refine rf_iconst (n := 1001) (2 : Int32) dL_law_1000 cciconst_2 rfl ?_
                                                    refine rf_iadd (n := 1002) dL_law_1001 rfl ?_
                                                    refine rf_scd (n := 1003) hX dL_law_1002 rfl (fun v217 => ?_)
                                                    refine rf_cV2L (n := 1006) hG (okX8_wave _ _ _) lVL_124 hhX8_wave kk_0 sS_0 ⟨_, rfl, rfl⟩ dL_law_1003 rfl (Nat.le_of_ble_eq_true rfl) (Nat.le_of_ble_eq_true rfl) (fun v218 m219 => ?_)
                                                    refine rf_aload_n (n := 1007) 2 dL_law_1006 rfl rfl rfl ?_
                                                    refine rf_aload_n (n := 1008) 0 dL_law_1007 rfl rfl rfl ?_
                                                    refine rf_iload (n := 1010) 4 dL_law_1008 rfl rfl ?_
                                                    refine rf_iconst (n := 1011) (1 : Int32) dL_law_1010 cciconst_1 rfl ?_
                                                    refine rf_iadd (n := 1012) dL_law_1011 rfl ?_
                                                    refine rf_scd (n := 1013) hX dL_law_1012 rfl (fun v220 => ?_)
                                                    refine rf_aload_n (n := 1014) 0 dL_law_1013 rfl rfl rfl ?_
                                                    refine rf_iload (n := 1016) 4 dL_law_1014 rfl rfl ?_
                                                    refine rf_iconst (n := 1017) (2 : Int32) dL_law_1016 cciconst_2 rfl ?_
                                                    refine rf_iadd (n := 1018) dL_law_1017 rfl ?_
                                                    refine rf_scd (n := 1019) hX dL_law_1018 rfl (fun v221 => ?_)
                                                    refine rf_cV2L (n := 1022) hG (okX9_wave _ _ _) lVL_128 hhX9_wave kk_57 sS_57 ⟨_, rfl, rfl⟩ dL_law_1019 rfl (Nat.le_of_ble_eq_true rfl) (Nat.le_of_ble_eq_true rfl) (fun v222 m223 => ?_)
                                                    refine rf_lcmp (n := 1023) dL_law_1022 rfl ?_
                                                    refine rf_if_eq (tg := 1547) (n := 1026) dL_law_1023 rfl rfl (fun c224 => ?_) (fun c224 => ?_)
                                                    · refine rf_widen (k1 := n1 + 1) (k2 := n2 + 6) (Nat.le_succ _) (Nat.le_add_right _ _) hw1 hw2 ?_
                                                      exact pL_law_K1547 hG hk hst hE hX hend9 _ r23 hr23 _
                                                    · refine rf_iconst (n := 1027) (0 : Int32) dL_law_1026 cciconst_0 rfl ?_
                                                      exact rf_none
                                                  · refine rf_split (fun c225 => ?_) (fun c225 => ?_)
                                                    · refine rf_tabIn (tg := 1028) (24 : Int32) c225 dL_law_40 (by decide) rfl rfl ?_
                                                      refine rf_aload_n (n := 1029) 1 dL_law_1028 rfl rfl rfl ?_
                                                      refine rf_aload_n (n := 1030) 0 dL_law_1029 rfl rfl rfl ?_
                                                      refine rf_iload (n := 1032) 4 dL_law_1030 rfl rfl ?_
                                                      refine rf_iconst (n := 1033) (1 : Int32) dL_law_1032 cciconst_1 rfl ?_
                                                      refine rf_iadd (n := 1034) dL_law_1033 rfl ?_
                                                      refine rf_scd (n := 1035) hX dL_law_1034 rfl (fun v226 => ?_)
                                                      refine rf_cV1I (n := 1038) hG (okX8_fails _ _) lVL_129 hhX8_fails kk_0 sS_0 ⟨_, rfl, rfl⟩ dL_law_1035 rfl (Nat.le_of_ble_eq_true rfl) (Nat.le_of_ble_eq_true rfl) (fun v227 m228 => ?_)
                                                      refine rf_aload_n (n := 1039) 2 dL_law_1038 rfl rfl rfl ?_
                                                      refine rf_aload_n (n := 1040) 0 dL_law_1039 rfl rfl rfl ?_
                                                      refine rf_iload (n := 1042) 4 dL_law_1040 rfl rfl ?_
                                                      refine rf_iconst (n := 1043) (1 : Int32) dL_law_1042 cciconst_1 rfl ?_
                                                      refine rf_iadd (n := 1044) dL_law_1043 rfl ?_
                                                      refine rf_scd (n := 1045) hX dL_law_1044 rfl (fun v229 => ?_)
                                                      refine rf_cV1I (n := 1048) hG (okX9_fails _ _) lVL_132 hhX9_fails kk_57 sS_57 ⟨_, rfl, rfl⟩ dL_law_1045 rfl (Nat.le_of_ble_eq_true rfl) (Nat.le_of_ble_eq_true rfl) (fun v230 m231 => ?_)
                                                      refine rf_icmp_eq (tg := 1547) (n := 1051) dL_law_1048 rfl rfl (fun c232 => ?_) (fun c232 => ?_)
                                                      · refine rf_widen (k1 := n1 + 1) (k2 := n2 + 6) (Nat.le_succ _) (Nat.le_add_right _ _) hw1 hw2 ?_
                                                        exact pL_law_K1547 hG hk hst hE hX hend9 _ r23 hr23 _
                                                      · refine rf_iconst (n := 1052) (0 : Int32) dL_law_1051 cciconst_0 rfl ?_
                                                        exact rf_none
                                                    · refine rf_split (fun c233 => ?_) (fun c233 => ?_)
                                                      · refine rf_tabIn (tg := 1053) (25 : Int32) c233 dL_law_40 (by decide) rfl rfl ?_
                                                        refine rf_aload_n (n := 1054) 1 dL_law_1053 rfl rfl rfl ?_
                                                        refine rf_aload_n (n := 1055) 0 dL_law_1054 rfl rfl rfl ?_
                                                        refine rf_iload (n := 1057) 4 dL_law_1055 rfl rfl ?_
                                                        refine rf_iconst (n := 1058) (1 : Int32) dL_law_1057 cciconst_1 rfl ?_
                                                        refine rf_iadd (n := 1059) dL_law_1058 rfl ?_
                                                        refine rf_scd (n := 1060) hX dL_law_1059 rfl (fun v234 => ?_)
                                                        refine rf_if_eq (tg := 1067) (n := 1063) dL_law_1060 rfl rfl (fun c242 => ?_) (fun c242 => ?_)
                                                        · refine rf_iconst (n := 1068) (0 : Int32) dL_law_1067 cciconst_0 rfl ?_
                                                          exact pL_law_K1068 hG hk hst hE hX hend9 hw1 hw2 _ _ r23 hr23 _
                                                        · refine rf_iconst (n := 1064) (1 : Int32) dL_law_1063 cciconst_1 rfl ?_
                                                          refine rf_goto (tg := 1068) dL_law_1064 rfl ?_
                                                          exact pL_law_K1068 hG hk hst hE hX hend9 hw1 hw2 _ _ r23 hr23 _
                                                      · refine rf_split (fun c243 => ?_) (fun c243 => ?_)
                                                        · refine rf_tabIn (tg := 1095) (26 : Int32) c243 dL_law_40 (by decide) rfl rfl ?_
                                                          refine rf_aload_n (n := 1096) 1 dL_law_1095 rfl rfl rfl ?_
                                                          refine rf_aload_n (n := 1097) 0 dL_law_1096 rfl rfl rfl ?_
                                                          refine rf_iload (n := 1099) 4 dL_law_1097 rfl rfl ?_
                                                          refine rf_iconst (n := 1100) (1 : Int32) dL_law_1099 cciconst_1 rfl ?_
                                                          refine rf_iadd (n := 1101) dL_law_1100 rfl ?_
                                                          refine rf_scd (n := 1102) hX dL_law_1101 rfl (fun v244 => ?_)
                                                          refine rf_cV1I (n := 1105) hG (okX8_loop _ _) lVL_138 hhX8_loop kk_0 sS_0 ⟨_, rfl, rfl⟩ dL_law_1102 rfl (Nat.le_of_ble_eq_true rfl) (Nat.le_of_ble_eq_true rfl) (fun v245 m246 => ?_)
                                                          refine rf_aload_n (n := 1106) 2 dL_law_1105 rfl rfl rfl ?_
                                                          refine rf_aload_n (n := 1107) 0 dL_law_1106 rfl rfl rfl ?_
                                                          refine rf_iload (n := 1109) 4 dL_law_1107 rfl rfl ?_
                                                          refine rf_iconst (n := 1110) (1 : Int32) dL_law_1109 cciconst_1 rfl ?_
                                                          refine rf_iadd (n := 1111) dL_law_1110 rfl ?_
                                                          refine rf_scd (n := 1112) hX dL_law_1111 rfl (fun v247 => ?_)
                                                          refine rf_cV1I (n := 1115) hG (okX9_loop _ _) lVL_141 hhX9_loop kk_57 sS_57 ⟨_, rfl, rfl⟩ dL_law_1112 rfl (Nat.le_of_ble_eq_true rfl) (Nat.le_of_ble_eq_true rfl) (fun v248 m249 => ?_)
                                                          refine rf_icmp_eq (tg := 1547) (n := 1118) dL_law_1115 rfl rfl (fun c250 => ?_) (fun c250 => ?_)
                                                          · refine rf_widen (k1 := n1 + 1) (k2 := n2 + 6) (Nat.le_succ _) (Nat.le_add_right _ _) hw1 hw2 ?_
                                                            exact pL_law_K1547 hG hk hst hE hX hend9 _ r23 hr23 _
                                                          · refine rf_iconst (n := 1119) (0 : Int32) dL_law_1118 cciconst_0 rfl ?_
                                                            exact rf_none
                                                        · refine rf_split (fun c251 => ?_) (fun c251 => ?_)
                                                          · refine rf_tabIn (tg := 1120) (27 : Int32) c251 dL_law_40 (by decide) rfl rfl ?_
                                                            refine rf_aload_n (n := 1121) 1 dL_law_1120 rfl rfl rfl ?_
                                                            refine rf_cV0I (n := 1124) hG (okX8_leastPeriod _) lVL_142 hhX8_leastPeriod kk_0 sS_0 ⟨_, rfl, rfl⟩ dL_law_1121 rfl (Nat.le_of_ble_eq_true rfl) (Nat.le_of_ble_eq_true rfl) (fun v252 m253 => ?_)
                                                            refine rf_aload_n (n := 1125) 2 dL_law_1124 rfl rfl rfl ?_
                                                            refine rf_cV0I (n := 1128) hG (okX9_leastPeriod _) lVL_145 hhX9_leastPeriod kk_57 sS_57 ⟨_, rfl, rfl⟩ dL_law_1125 rfl (Nat.le_of_ble_eq_true rfl) (Nat.le_of_ble_eq_true rfl) (fun v254 m255 => ?_)
                                                            refine rf_icmp_eq (tg := 1547) (n := 1131) dL_law_1128 rfl rfl (fun c256 => ?_) (fun c256 => ?_)
                                                            · refine rf_widen (k1 := n1 + 1) (k2 := n2 + 6) (Nat.le_succ _) (Nat.le_add_right _ _) hw1 hw2 ?_
                                                              exact pL_law_K1547 hG hk hst hE hX hend9 _ r23 hr23 _
                                                            · refine rf_iconst (n := 1132) (0 : Int32) dL_law_1131 cciconst_0 rfl ?_
                                                              exact rf_none
                                                          · refine rf_split (fun c257 => ?_) (fun c257 => ?_)
                                                            · refine rf_tabIn (tg := 1133) (28 : Int32) c257 dL_law_40 (by decide) rfl rfl ?_
                                                              refine rf_aload_n (n := 1134) 1 dL_law_1133 rfl rfl rfl ?_
                                                              refine rf_aload_n (n := 1135) 0 dL_law_1134 rfl rfl rfl ?_
                                                              refine rf_iload (n := 1137) 4 dL_law_1135 rfl rfl ?_
                                                              refine rf_iconst (n := 1138) (1 : Int32) dL_law_1137 cciconst_1 rfl ?_
                                                              refine rf_iadd (n := 1139) dL_law_1138 rfl ?_
                                                              refine rf_scd (n := 1140) hX dL_law_1139 rfl (fun v258 => ?_)
                                                              refine rf_cV1I (n := 1143) hG (okX8_slower _ _) lVL_146 hhX8_slower kk_0 sS_0 ⟨_, rfl, rfl⟩ dL_law_1140 rfl (Nat.le_of_ble_eq_true rfl) (Nat.le_of_ble_eq_true rfl) (fun v259 m260 => ?_)
                                                              refine rf_aload_n (n := 1144) 2 dL_law_1143 rfl rfl rfl ?_
                                                              refine rf_aload_n (n := 1145) 0 dL_law_1144 rfl rfl rfl ?_
                                                              refine rf_iload (n := 1147) 4 dL_law_1145 rfl rfl ?_
                                                              refine rf_iconst (n := 1148) (1 : Int32) dL_law_1147 cciconst_1 rfl ?_
                                                              refine rf_iadd (n := 1149) dL_law_1148 rfl ?_
                                                              refine rf_scd (n := 1150) hX dL_law_1149 rfl (fun v261 => ?_)
                                                              refine rf_cV1I (n := 1153) hG (okX9_slower _ _) lVL_149 hhX9_slower kk_57 sS_57 ⟨_, rfl, rfl⟩ dL_law_1150 rfl (Nat.le_of_ble_eq_true rfl) (Nat.le_of_ble_eq_true rfl) (fun v262 m263 => ?_)
                                                              refine rf_icmp_eq (tg := 1547) (n := 1156) dL_law_1153 rfl rfl (fun c264 => ?_) (fun c264 => ?_)
                                                              · refine rf_widen (k1 := n1 + 1) (k2 := n2 + 6) (Nat.le_succ _) (Nat.le_add_right _ _) hw1 hw2 ?_
                                                                exact pL_law_K1547 hG hk hst hE hX hend9 _ r23 hr23 _
                                                              · refine rf_iconst (n := 1157) (0 : Int32) dL_law_1156 cciconst_0 rfl ?_
                                                                exact rf_none
                                                            · refine rf_split (fun c265 => ?_) (fun c265 => ?_)
                                                              · refine rf_tabIn (tg := 1158) (29 : Int32) c265 dL_law_40 (by decide) rfl rfl ?_
                                                                refine rf_aload_n (n := 1159) 1 dL_law_1158 rfl rfl rfl ?_
                                                                refine rf_aload_n (n := 1160) 0 dL_law_1159 rfl rfl rfl ?_
                                                                refine rf_iload (n := 1162) 4 dL_law_1160 rfl rfl ?_
                                                                refine rf_iconst (n := 1163) (1 : Int32) dL_law_1162 cciconst_1 rfl ?_
                                                                refine rf_iadd (n := 1164) dL_law_1163 rfl ?_
                                                                refine rf_scd (n := 1165) hX dL_law_1164 rfl (fun v266 => ?_)
                                                                refine rf_cV1I (n := 1168) hG (okX8_bestOpens _ _) lVL_150 hhX8_bestOpens kk_0 sS_0 ⟨_, rfl, rfl⟩ dL_law_1165 rfl (Nat.le_of_ble_eq_true rfl) (Nat.le_of_ble_eq_true rfl) (fun v267 m268 => ?_)
                                                                refine rf_aload_n (n := 1169) 2 dL_law_1168 rfl rfl rfl ?_
                                                                refine rf_aload_n (n := 1170) 0 dL_law_1169 rfl rfl rfl ?_
                                                                refine rf_iload (n := 1172) 4 dL_law_1170 rfl rfl ?_
                                                                refine rf_iconst (n := 1173) (1 : Int32) dL_law_1172 cciconst_1 rfl ?_
                                                                refine rf_iadd (n := 1174) dL_law_1173 rfl ?_
                                                                refine rf_scd (n := 1175) hX dL_law_1174 rfl (fun v269 => ?_)
                                                                refine rf_cV1I (n := 1178) hG (okX9_bestOpens _ _) lVL_153 hhX9_bestOpens kk_57 sS_57 ⟨_, rfl, rfl⟩ dL_law_1175 rfl (Nat.le_of_ble_eq_true rfl) (Nat.le_of_ble_eq_true rfl) (fun v270 m271 => ?_)
                                                                refine rf_icmp_eq (tg := 1547) (n := 1181) dL_law_1178 rfl rfl (fun c272 => ?_) (fun c272 => ?_)
                                                                · refine rf_widen (k1 := n1 + 1) (k2 := n2 + 6) (Nat.le_succ _) (Nat.le_add_right _ _) hw1 hw2 ?_
                                                                  exact pL_law_K1547 hG hk hst hE hX hend9 _ r23 hr23 _
                                                                · refine rf_iconst (n := 1182) (0 : Int32) dL_law_1181 cciconst_0 rfl ?_
                                                                  exact rf_none
                                                              · refine rf_split (fun c273 => ?_) (fun c273 => ?_)
                                                                · refine rf_tabIn (tg := 1183) (30 : Int32) c273 dL_law_40 (by decide) rfl rfl ?_
                                                                  refine rf_aload_n (n := 1184) 1 dL_law_1183 rfl rfl rfl ?_
                                                                  refine rf_aload_n (n := 1185) 0 dL_law_1184 rfl rfl rfl ?_
                                                                  refine rf_iload (n := 1187) 4 dL_law_1185 rfl rfl ?_
                                                                  refine rf_iconst (n := 1188) (1 : Int32) dL_law_1187 cciconst_1 rfl ?_
                                                                  refine rf_iadd (n := 1189) dL_law_1188 rfl ?_
                                                                  refine rf_scd (n := 1190) hX dL_law_1189 rfl (fun v274 => ?_)
                                                                  refine rf_aload_n (n := 1191) 0 dL_law_1190 rfl rfl rfl ?_
                                                                  refine rf_iload (n := 1193) 4 dL_law_1191 rfl rfl ?_
                                                                  refine rf_iconst (n := 1194) (2 : Int32) dL_law_1193 cciconst_2 rfl ?_
                                                                  refine rf_iadd (n := 1195) dL_law_1194 rfl ?_
                                                                  refine rf_scd (n := 1196) hX dL_law_1195 rfl (fun v275 => ?_)
                                                                  refine rf_cV2I (n := 1199) hG (okX8_bestTwo _ _ _) lVL_154 hhX8_bestTwo kk_0 sS_0 ⟨_, rfl, rfl⟩ dL_law_1196 rfl (Nat.le_of_ble_eq_true rfl) (Nat.le_of_ble_eq_true rfl) (fun v276 m277 => ?_)
                                                                  refine rf_aload_n (n := 1200) 2 dL_law_1199 rfl rfl rfl ?_
                                                                  refine rf_aload_n (n := 1201) 0 dL_law_1200 rfl rfl rfl ?_
                                                                  refine rf_iload (n := 1203) 4 dL_law_1201 rfl rfl ?_
                                                                  refine rf_iconst (n := 1204) (1 : Int32) dL_law_1203 cciconst_1 rfl ?_
                                                                  refine rf_iadd (n := 1205) dL_law_1204 rfl ?_
                                                                  refine rf_scd (n := 1206) hX dL_law_1205 rfl (fun v278 => ?_)
                                                                  refine rf_aload_n (n := 1207) 0 dL_law_1206 rfl rfl rfl ?_
                                                                  refine rf_iload (n := 1209) 4 dL_law_1207 rfl rfl ?_
                                                                  refine rf_iconst (n := 1210) (2 : Int32) dL_law_1209 cciconst_2 rfl ?_
                                                                  refine rf_iadd (n := 1211) dL_law_1210 rfl ?_
                                                                  refine rf_scd (n := 1212) hX dL_law_1211 rfl (fun v279 => ?_)
                                                                  refine rf_cV2I (n := 1215) hG (okX9_bestTwo _ _ _) lVL_157 hhX9_bestTwo kk_57 sS_57 ⟨_, rfl, rfl⟩ dL_law_1212 rfl (Nat.le_of_ble_eq_true rfl) (Nat.le_of_ble_eq_true rfl) (fun v280 m281 => ?_)
                                                                  refine rf_icmp_eq (tg := 1547) (n := 1218) dL_law_1215 rfl rfl (fun c282 => ?_) (fun c282 => ?_)
                                                                  · refine rf_widen (k1 := n1 + 1) (k2 := n2 + 6) (Nat.le_succ _) (Nat.le_add_right _ _) hw1 hw2 ?_
                                                                    exact pL_law_K1547 hG hk hst hE hX hend9 _ r23 hr23 _
                                                                  · refine rf_iconst (n := 1219) (0 : Int32) dL_law_1218 cciconst_0 rfl ?_
                                                                    exact rf_none
                                                                · refine rf_split (fun c283 => ?_) (fun c283 => ?_)
                                                                  · refine rf_tabIn (tg := 1220) (31 : Int32) c283 dL_law_40 (by decide) rfl rfl ?_
                                                                    refine rf_aload_n (n := 1221) 1 dL_law_1220 rfl rfl rfl ?_
                                                                    refine rf_aload_n (n := 1222) 0 dL_law_1221 rfl rfl rfl ?_
                                                                    refine rf_iload (n := 1224) 4 dL_law_1222 rfl rfl ?_
                                                                    refine rf_iconst (n := 1225) (1 : Int32) dL_law_1224 cciconst_1 rfl ?_
                                                                    refine rf_iadd (n := 1226) dL_law_1225 rfl ?_
                                                                    refine rf_scd (n := 1227) hX dL_law_1226 rfl (fun v284 => ?_)
                                                                    refine rf_cV1I (n := 1230) hG (okX8_gain _ _) lVL_158 hhX8_gain kk_0 sS_0 ⟨_, rfl, rfl⟩ dL_law_1227 rfl (Nat.le_of_ble_eq_true rfl) (Nat.le_of_ble_eq_true rfl) (fun v285 m286 => ?_)
                                                                    refine rf_aload_n (n := 1231) 2 dL_law_1230 rfl rfl rfl ?_
                                                                    refine rf_aload_n (n := 1232) 0 dL_law_1231 rfl rfl rfl ?_
                                                                    refine rf_iload (n := 1234) 4 dL_law_1232 rfl rfl ?_
                                                                    refine rf_iconst (n := 1235) (1 : Int32) dL_law_1234 cciconst_1 rfl ?_
                                                                    refine rf_iadd (n := 1236) dL_law_1235 rfl ?_
                                                                    refine rf_scd (n := 1237) hX dL_law_1236 rfl (fun v287 => ?_)
                                                                    refine rf_cV1I (n := 1240) hG (okX9_gain _ _) lVL_161 hhX9_gain kk_57 sS_57 ⟨_, rfl, rfl⟩ dL_law_1237 rfl (Nat.le_of_ble_eq_true rfl) (Nat.le_of_ble_eq_true rfl) (fun v288 m289 => ?_)
                                                                    refine rf_icmp_eq (tg := 1547) (n := 1243) dL_law_1240 rfl rfl (fun c290 => ?_) (fun c290 => ?_)
                                                                    · refine rf_widen (k1 := n1 + 1) (k2 := n2 + 6) (Nat.le_succ _) (Nat.le_add_right _ _) hw1 hw2 ?_
                                                                      exact pL_law_K1547 hG hk hst hE hX hend9 _ r23 hr23 _
                                                                    · refine rf_iconst (n := 1244) (0 : Int32) dL_law_1243 cciconst_0 rfl ?_
                                                                      exact rf_none
                                                                  · refine rf_split (fun c291 => ?_) (fun c291 => ?_)
                                                                    · refine rf_tabIn (tg := 1245) (32 : Int32) c291 dL_law_40 (by decide) rfl rfl ?_
                                                                      refine rf_aload_n (n := 1246) 1 dL_law_1245 rfl rfl rfl ?_
                                                                      refine rf_cV0I (n := 1249) hG (okX8_breaks _) lVL_162 hhX8_breaks kk_0 sS_0 ⟨_, rfl, rfl⟩ dL_law_1246 rfl (Nat.le_of_ble_eq_true rfl) (Nat.le_of_ble_eq_true rfl) (fun v292 m293 => ?_)
                                                                      refine rf_aload_n (n := 1250) 2 dL_law_1249 rfl rfl rfl ?_
                                                                      refine rf_cV0I (n := 1253) hG (okX9_breaks _) lVL_165 hhX9_breaks kk_57 sS_57 ⟨_, rfl, rfl⟩ dL_law_1250 rfl (Nat.le_of_ble_eq_true rfl) (Nat.le_of_ble_eq_true rfl) (fun v294 m295 => ?_)
                                                                      refine rf_icmp_eq (tg := 1547) (n := 1256) dL_law_1253 rfl rfl (fun c296 => ?_) (fun c296 => ?_)
                                                                      · refine rf_widen (k1 := n1 + 1) (k2 := n2 + 6) (Nat.le_succ _) (Nat.le_add_right _ _) hw1 hw2 ?_
                                                                        exact pL_law_K1547 hG hk hst hE hX hend9 _ r23 hr23 _
                                                                      · refine rf_iconst (n := 1257) (0 : Int32) dL_law_1256 cciconst_0 rfl ?_
                                                                        exact rf_none
                                                                    · refine rf_split (fun c297 => ?_) (fun c297 => ?_)
                                                                      · refine rf_tabIn (tg := 1258) (33 : Int32) c297 dL_law_40 (by decide) rfl rfl ?_
                                                                        refine rf_aload_n (n := 1259) 1 dL_law_1258 rfl rfl rfl ?_
                                                                        refine rf_aload_n (n := 1260) 0 dL_law_1259 rfl rfl rfl ?_
                                                                        refine rf_iload (n := 1262) 4 dL_law_1260 rfl rfl ?_
                                                                        refine rf_iconst (n := 1263) (1 : Int32) dL_law_1262 cciconst_1 rfl ?_
                                                                        refine rf_iadd (n := 1264) dL_law_1263 rfl ?_
                                                                        refine rf_scd (n := 1265) hX dL_law_1264 rfl (fun v298 => ?_)
                                                                        refine rf_cV1I (n := 1268) hG (okX8_bestMove _ _) lVL_166 hhX8_bestMove kk_0 sS_0 ⟨_, rfl, rfl⟩ dL_law_1265 rfl (Nat.le_of_ble_eq_true rfl) (Nat.le_of_ble_eq_true rfl) (fun v299 m300 => ?_)
                                                                        refine rf_aload_n (n := 1269) 2 dL_law_1268 rfl rfl rfl ?_
                                                                        refine rf_aload_n (n := 1270) 0 dL_law_1269 rfl rfl rfl ?_
                                                                        refine rf_iload (n := 1272) 4 dL_law_1270 rfl rfl ?_
                                                                        refine rf_iconst (n := 1273) (1 : Int32) dL_law_1272 cciconst_1 rfl ?_
                                                                        refine rf_iadd (n := 1274) dL_law_1273 rfl ?_
                                                                        refine rf_scd (n := 1275) hX dL_law_1274 rfl (fun v301 => ?_)
                                                                        refine rf_cV1I (n := 1278) hG (okX9_bestMove _ _) lVL_169 hhX9_bestMove kk_57 sS_57 ⟨_, rfl, rfl⟩ dL_law_1275 rfl (Nat.le_of_ble_eq_true rfl) (Nat.le_of_ble_eq_true rfl) (fun v302 m303 => ?_)
                                                                        refine rf_icmp_eq (tg := 1547) (n := 1281) dL_law_1278 rfl rfl (fun c304 => ?_) (fun c304 => ?_)
                                                                        · refine rf_widen (k1 := n1 + 1) (k2 := n2 + 6) (Nat.le_succ _) (Nat.le_add_right _ _) hw1 hw2 ?_
                                                                          exact pL_law_K1547 hG hk hst hE hX hend9 _ r23 hr23 _
                                                                        · refine rf_iconst (n := 1282) (0 : Int32) dL_law_1281 cciconst_0 rfl ?_
                                                                          exact rf_none
                                                                      · refine rf_split (fun c305 => ?_) (fun c305 => ?_)
                                                                        · refine rf_tabIn (tg := 1283) (34 : Int32) c305 dL_law_40 (by decide) rfl rfl ?_
                                                                          refine rf_aload_n (n := 1284) 1 dL_law_1283 rfl rfl rfl ?_
                                                                          refine rf_aload_n (n := 1285) 0 dL_law_1284 rfl rfl rfl ?_
                                                                          refine rf_iload (n := 1287) 4 dL_law_1285 rfl rfl ?_
                                                                          refine rf_iconst (n := 1288) (1 : Int32) dL_law_1287 cciconst_1 rfl ?_
                                                                          refine rf_iadd (n := 1289) dL_law_1288 rfl ?_
                                                                          refine rf_scd (n := 1290) hX dL_law_1289 rfl (fun v306 => ?_)
                                                                          refine rf_cV1I (n := 1293) hG (okX8_leastWidth _ _) lVL_170 hhX8_leastWidth kk_0 sS_0 ⟨_, rfl, rfl⟩ dL_law_1290 rfl (Nat.le_of_ble_eq_true rfl) (Nat.le_of_ble_eq_true rfl) (fun v307 m308 => ?_)
                                                                          refine rf_aload_n (n := 1294) 2 dL_law_1293 rfl rfl rfl ?_
                                                                          refine rf_aload_n (n := 1295) 0 dL_law_1294 rfl rfl rfl ?_
                                                                          refine rf_iload (n := 1297) 4 dL_law_1295 rfl rfl ?_
                                                                          refine rf_iconst (n := 1298) (1 : Int32) dL_law_1297 cciconst_1 rfl ?_
                                                                          refine rf_iadd (n := 1299) dL_law_1298 rfl ?_
                                                                          refine rf_scd (n := 1300) hX dL_law_1299 rfl (fun v309 => ?_)
                                                                          refine rf_cV1I (n := 1303) hG (okX9_leastWidth _ _) lVL_173 hhX9_leastWidth kk_57 sS_57 ⟨_, rfl, rfl⟩ dL_law_1300 rfl (Nat.le_of_ble_eq_true rfl) (Nat.le_of_ble_eq_true rfl) (fun v310 m311 => ?_)
                                                                          refine rf_icmp_eq (tg := 1547) (n := 1306) dL_law_1303 rfl rfl (fun c312 => ?_) (fun c312 => ?_)
                                                                          · refine rf_widen (k1 := n1 + 1) (k2 := n2 + 6) (Nat.le_succ _) (Nat.le_add_right _ _) hw1 hw2 ?_
                                                                            exact pL_law_K1547 hG hk hst hE hX hend9 _ r23 hr23 _
                                                                          · refine rf_iconst (n := 1307) (0 : Int32) dL_law_1306 cciconst_0 rfl ?_
                                                                            exact rf_none
                                                                        · refine rf_split (fun c313 => ?_) (fun c313 => ?_)
                                                                          · refine rf_tabIn (tg := 1308) (35 : Int32) c313 dL_law_40 (by decide) rfl rfl ?_
                                                                            refine rf_aload_n (n := 1309) 1 dL_law_1308 rfl rfl rfl ?_
                                                                            refine rf_cV0I (n := 1312) hG (okX8_flops _) lVL_174 hhX8_flops kk_0 sS_0 ⟨_, rfl, rfl⟩ dL_law_1309 rfl (Nat.le_of_ble_eq_true rfl) (Nat.le_of_ble_eq_true rfl) (fun v314 m315 => ?_)
                                                                            refine rf_aload_n (n := 1313) 2 dL_law_1312 rfl rfl rfl ?_
                                                                            refine rf_cV0I (n := 1316) hG (okX9_flops _) lVL_177 hhX9_flops kk_57 sS_57 ⟨_, rfl, rfl⟩ dL_law_1313 rfl (Nat.le_of_ble_eq_true rfl) (Nat.le_of_ble_eq_true rfl) (fun v316 m317 => ?_)
                                                                            refine rf_icmp_eq (tg := 1547) (n := 1319) dL_law_1316 rfl rfl (fun c318 => ?_) (fun c318 => ?_)
                                                                            · refine rf_widen (k1 := n1 + 1) (k2 := n2 + 6) (Nat.le_succ _) (Nat.le_add_right _ _) hw1 hw2 ?_
                                                                              exact pL_law_K1547 hG hk hst hE hX hend9 _ r23 hr23 _
                                                                            · refine rf_iconst (n := 1320) (0 : Int32) dL_law_1319 cciconst_0 rfl ?_
                                                                              exact rf_none
                                                                          · refine rf_split (fun c319 => ?_) (fun c319 => ?_)
                                                                            · refine rf_tabIn (tg := 1321) (36 : Int32) c319 dL_law_40 (by decide) rfl rfl ?_
                                                                              refine rf_aload_n (n := 1322) 1 dL_law_1321 rfl rfl rfl ?_
                                                                              refine rf_aload_n (n := 1323) 0 dL_law_1322 rfl rfl rfl ?_
                                                                              refine rf_iload (n := 1325) 4 dL_law_1323 rfl rfl ?_
                                                                              refine rf_iconst (n := 1326) (1 : Int32) dL_law_1325 cciconst_1 rfl ?_
                                                                              refine rf_iadd (n := 1327) dL_law_1326 rfl ?_
                                                                              refine rf_scd (n := 1328) hX dL_law_1327 rfl (fun v320 => ?_)
                                                                              refine rf_cV1L (n := 1331) hG (okX8_near _ _) lVL_178 hhX8_near kk_0 sS_0 ⟨_, rfl, rfl⟩ dL_law_1328 rfl (Nat.le_of_ble_eq_true rfl) (Nat.le_of_ble_eq_true rfl) (fun v321 m322 => ?_)
                                                                              refine rf_aload_n (n := 1332) 2 dL_law_1331 rfl rfl rfl ?_
                                                                              refine rf_aload_n (n := 1333) 0 dL_law_1332 rfl rfl rfl ?_
                                                                              refine rf_iload (n := 1335) 4 dL_law_1333 rfl rfl ?_
                                                                              refine rf_iconst (n := 1336) (1 : Int32) dL_law_1335 cciconst_1 rfl ?_
                                                                              refine rf_iadd (n := 1337) dL_law_1336 rfl ?_
                                                                              refine rf_scd (n := 1338) hX dL_law_1337 rfl (fun v323 => ?_)
                                                                              refine rf_cV1L (n := 1341) hG (okX9_near _ _) lVL_181 hhX9_near kk_57 sS_57 ⟨_, rfl, rfl⟩ dL_law_1338 rfl (Nat.le_of_ble_eq_true rfl) (Nat.le_of_ble_eq_true rfl) (fun v324 m325 => ?_)
                                                                              refine rf_lcmp (n := 1342) dL_law_1341 rfl ?_
                                                                              refine rf_if_eq (tg := 1547) (n := 1345) dL_law_1342 rfl rfl (fun c326 => ?_) (fun c326 => ?_)
                                                                              · refine rf_widen (k1 := n1 + 1) (k2 := n2 + 6) (Nat.le_succ _) (Nat.le_add_right _ _) hw1 hw2 ?_
                                                                                exact pL_law_K1547 hG hk hst hE hX hend9 _ r23 hr23 _
                                                                              · refine rf_iconst (n := 1346) (0 : Int32) dL_law_1345 cciconst_0 rfl ?_
                                                                                exact rf_none
                                                                            · refine rf_split (fun c327 => ?_) (fun c327 => ?_)
                                                                              · refine rf_tabIn (tg := 1347) (37 : Int32) c327 dL_law_40 (by decide) rfl rfl ?_
                                                                                refine rf_aload_n (n := 1348) 1 dL_law_1347 rfl rfl rfl ?_
                                                                                refine rf_aload_n (n := 1349) 0 dL_law_1348 rfl rfl rfl ?_
                                                                                refine rf_iload (n := 1351) 4 dL_law_1349 rfl rfl ?_
                                                                                refine rf_iconst (n := 1352) (1 : Int32) dL_law_1351 cciconst_1 rfl ?_
                                                                                refine rf_iadd (n := 1353) dL_law_1352 rfl ?_
                                                                                refine rf_scd (n := 1354) hX dL_law_1353 rfl (fun v328 => ?_)
                                                                                refine rf_cV1I (n := 1357) hG (okX8_nearest _ _) lVL_182 hhX8_nearest kk_0 sS_0 ⟨_, rfl, rfl⟩ dL_law_1354 rfl (Nat.le_of_ble_eq_true rfl) (Nat.le_of_ble_eq_true rfl) (fun v329 m330 => ?_)
                                                                                refine rf_aload_n (n := 1358) 2 dL_law_1357 rfl rfl rfl ?_
                                                                                refine rf_aload_n (n := 1359) 0 dL_law_1358 rfl rfl rfl ?_
                                                                                refine rf_iload (n := 1361) 4 dL_law_1359 rfl rfl ?_
                                                                                refine rf_iconst (n := 1362) (1 : Int32) dL_law_1361 cciconst_1 rfl ?_
                                                                                refine rf_iadd (n := 1363) dL_law_1362 rfl ?_
                                                                                refine rf_scd (n := 1364) hX dL_law_1363 rfl (fun v331 => ?_)
                                                                                refine rf_cV1I (n := 1367) hG (okX9_nearest _ _) lVL_185 hhX9_nearest kk_57 sS_57 ⟨_, rfl, rfl⟩ dL_law_1364 rfl (Nat.le_of_ble_eq_true rfl) (Nat.le_of_ble_eq_true rfl) (fun v332 m333 => ?_)
                                                                                refine rf_icmp_eq (tg := 1547) (n := 1370) dL_law_1367 rfl rfl (fun c334 => ?_) (fun c334 => ?_)
                                                                                · refine rf_widen (k1 := n1 + 1) (k2 := n2 + 6) (Nat.le_succ _) (Nat.le_add_right _ _) hw1 hw2 ?_
                                                                                  exact pL_law_K1547 hG hk hst hE hX hend9 _ r23 hr23 _
                                                                                · refine rf_iconst (n := 1371) (0 : Int32) dL_law_1370 cciconst_0 rfl ?_
                                                                                  exact rf_none
                                                                              · refine rf_split (fun c335 => ?_) (fun c335 => ?_)
                                                                                · refine rf_tabIn (tg := 1372) (38 : Int32) c335 dL_law_40 (by decide) rfl rfl ?_
                                                                                  refine rf_aload_n (n := 1373) 1 dL_law_1372 rfl rfl rfl ?_
                                                                                  refine rf_aload_n (n := 1374) 0 dL_law_1373 rfl rfl rfl ?_
                                                                                  refine rf_iload (n := 1376) 4 dL_law_1374 rfl rfl ?_
                                                                                  refine rf_iconst (n := 1377) (1 : Int32) dL_law_1376 cciconst_1 rfl ?_
                                                                                  refine rf_iadd (n := 1378) dL_law_1377 rfl ?_
                                                                                  refine rf_scd (n := 1379) hX dL_law_1378 rfl (fun v336 => ?_)
                                                                                  refine rf_aload_n (n := 1380) 0 dL_law_1379 rfl rfl rfl ?_
                                                                                  refine rf_iload (n := 1382) 4 dL_law_1380 rfl rfl ?_
                                                                                  refine rf_iconst (n := 1383) (2 : Int32) dL_law_1382 cciconst_2 rfl ?_
                                                                                  refine rf_iadd (n := 1384) dL_law_1383 rfl ?_
                                                                                  refine rf_scd (n := 1385) hX dL_law_1384 rfl (fun v337 => ?_)
                                                                                  refine rf_cV2I (n := 1388) hG (okX8_event _ _ _) lVL_186 hhX8_event kk_0 sS_0 ⟨_, rfl, rfl⟩ dL_law_1385 rfl (Nat.le_of_ble_eq_true rfl) (Nat.le_of_ble_eq_true rfl) (fun v338 m339 => ?_)
                                                                                  refine rf_aload_n (n := 1389) 2 dL_law_1388 rfl rfl rfl ?_
                                                                                  refine rf_aload_n (n := 1390) 0 dL_law_1389 rfl rfl rfl ?_
                                                                                  refine rf_iload (n := 1392) 4 dL_law_1390 rfl rfl ?_
                                                                                  refine rf_iconst (n := 1393) (1 : Int32) dL_law_1392 cciconst_1 rfl ?_
                                                                                  refine rf_iadd (n := 1394) dL_law_1393 rfl ?_
                                                                                  refine rf_scd (n := 1395) hX dL_law_1394 rfl (fun v340 => ?_)
                                                                                  refine rf_aload_n (n := 1396) 0 dL_law_1395 rfl rfl rfl ?_
                                                                                  refine rf_iload (n := 1398) 4 dL_law_1396 rfl rfl ?_
                                                                                  refine rf_iconst (n := 1399) (2 : Int32) dL_law_1398 cciconst_2 rfl ?_
                                                                                  refine rf_iadd (n := 1400) dL_law_1399 rfl ?_
                                                                                  refine rf_scd (n := 1401) hX dL_law_1400 rfl (fun v341 => ?_)
                                                                                  refine rf_cV2I (n := 1404) hG (okX9_event _ _ _) lVL_189 hhX9_event kk_57 sS_57 ⟨_, rfl, rfl⟩ dL_law_1401 rfl (Nat.le_of_ble_eq_true rfl) (Nat.le_of_ble_eq_true rfl) (fun v342 m343 => ?_)
                                                                                  refine rf_icmp_eq (tg := 1547) (n := 1407) dL_law_1404 rfl rfl (fun c344 => ?_) (fun c344 => ?_)
                                                                                  · refine rf_widen (k1 := n1 + 1) (k2 := n2 + 6) (Nat.le_succ _) (Nat.le_add_right _ _) hw1 hw2 ?_
                                                                                    exact pL_law_K1547 hG hk hst hE hX hend9 _ r23 hr23 _
                                                                                  · refine rf_iconst (n := 1408) (0 : Int32) dL_law_1407 cciconst_0 rfl ?_
                                                                                    exact rf_none
                                                                                · refine rf_split (fun c345 => ?_) (fun c345 => ?_)
                                                                                  · refine rf_tabIn (tg := 1409) (39 : Int32) c345 dL_law_40 (by decide) rfl rfl ?_
                                                                                    refine rf_aload_n (n := 1410) 1 dL_law_1409 rfl rfl rfl ?_
                                                                                    refine rf_aload_n (n := 1411) 0 dL_law_1410 rfl rfl rfl ?_
                                                                                    refine rf_iload (n := 1413) 4 dL_law_1411 rfl rfl ?_
                                                                                    refine rf_iconst (n := 1414) (1 : Int32) dL_law_1413 cciconst_1 rfl ?_
                                                                                    refine rf_iadd (n := 1415) dL_law_1414 rfl ?_
                                                                                    refine rf_scd (n := 1416) hX dL_law_1415 rfl (fun v346 => ?_)
                                                                                    refine rf_cV1I (n := 1419) hG (okX8_open _ _) lVL_190 hhX8_open kk_0 sS_0 ⟨_, rfl, rfl⟩ dL_law_1416 rfl (Nat.le_of_ble_eq_true rfl) (Nat.le_of_ble_eq_true rfl) (fun v347 m348 => ?_)
                                                                                    refine rf_aload_n (n := 1420) 2 dL_law_1419 rfl rfl rfl ?_
                                                                                    refine rf_aload_n (n := 1421) 0 dL_law_1420 rfl rfl rfl ?_
                                                                                    refine rf_iload (n := 1423) 4 dL_law_1421 rfl rfl ?_
                                                                                    refine rf_iconst (n := 1424) (1 : Int32) dL_law_1423 cciconst_1 rfl ?_
                                                                                    refine rf_iadd (n := 1425) dL_law_1424 rfl ?_
                                                                                    refine rf_scd (n := 1426) hX dL_law_1425 rfl (fun v349 => ?_)
                                                                                    refine rf_cV1I (n := 1429) hG (okX9_open _ _) lVL_193 hhX9_open kk_57 sS_57 ⟨_, rfl, rfl⟩ dL_law_1426 rfl (Nat.le_of_ble_eq_true rfl) (Nat.le_of_ble_eq_true rfl) (fun v350 m351 => ?_)
                                                                                    refine rf_icmp_eq (tg := 1547) (n := 1432) dL_law_1429 rfl rfl (fun c352 => ?_) (fun c352 => ?_)
                                                                                    · refine rf_widen (k1 := n1 + 1) (k2 := n2 + 6) (Nat.le_succ _) (Nat.le_add_right _ _) hw1 hw2 ?_
                                                                                      exact pL_law_K1547 hG hk hst hE hX hend9 _ r23 hr23 _
                                                                                    · refine rf_iconst (n := 1433) (0 : Int32) dL_law_1432 cciconst_0 rfl ?_
                                                                                      exact rf_none
                                                                                  · refine rf_split (fun c353 => ?_) (fun c353 => ?_)
                                                                                    · refine rf_tabIn (tg := 1434) (40 : Int32) c353 dL_law_40 (by decide) rfl rfl ?_
                                                                                      refine rf_aload_n (n := 1435) 1 dL_law_1434 rfl rfl rfl ?_
                                                                                      refine rf_aload_n (n := 1436) 0 dL_law_1435 rfl rfl rfl ?_
                                                                                      refine rf_iload (n := 1438) 4 dL_law_1436 rfl rfl ?_
                                                                                      refine rf_iconst (n := 1439) (1 : Int32) dL_law_1438 cciconst_1 rfl ?_
                                                                                      refine rf_iadd (n := 1440) dL_law_1439 rfl ?_
                                                                                      refine rf_scd (n := 1441) hX dL_law_1440 rfl (fun v354 => ?_)
                                                                                      refine rf_aload_n (n := 1442) 0 dL_law_1441 rfl rfl rfl ?_
                                                                                      refine rf_iload (n := 1444) 4 dL_law_1442 rfl rfl ?_
                                                                                      refine rf_iconst (n := 1445) (2 : Int32) dL_law_1444 cciconst_2 rfl ?_
                                                                                      refine rf_iadd (n := 1446) dL_law_1445 rfl ?_
                                                                                      refine rf_scd (n := 1447) hX dL_law_1446 rfl (fun v355 => ?_)
                                                                                      refine rf_aload_n (n := 1448) 0 dL_law_1447 rfl rfl rfl ?_
                                                                                      refine rf_iload (n := 1450) 4 dL_law_1448 rfl rfl ?_
                                                                                      refine rf_iconst (n := 1451) (3 : Int32) dL_law_1450 cciconst_3 rfl ?_
                                                                                      refine rf_iadd (n := 1452) dL_law_1451 rfl ?_
                                                                                      refine rf_scd (n := 1453) hX dL_law_1452 rfl (fun v356 => ?_)
                                                                                      refine rf_cV3I (n := 1456) hG (okX8_chance _ _ _ _) lVL_194 hhX8_chance kk_0 sS_0 ⟨_, rfl, rfl⟩ dL_law_1453 rfl (Nat.le_of_ble_eq_true rfl) (Nat.le_of_ble_eq_true rfl) (fun v357 m358 => ?_)
                                                                                      refine rf_aload_n (n := 1457) 2 dL_law_1456 rfl rfl rfl ?_
                                                                                      refine rf_aload_n (n := 1458) 0 dL_law_1457 rfl rfl rfl ?_
                                                                                      refine rf_iload (n := 1460) 4 dL_law_1458 rfl rfl ?_
                                                                                      refine rf_iconst (n := 1461) (1 : Int32) dL_law_1460 cciconst_1 rfl ?_
                                                                                      refine rf_iadd (n := 1462) dL_law_1461 rfl ?_
                                                                                      refine rf_scd (n := 1463) hX dL_law_1462 rfl (fun v359 => ?_)
                                                                                      refine rf_aload_n (n := 1464) 0 dL_law_1463 rfl rfl rfl ?_
                                                                                      refine rf_iload (n := 1466) 4 dL_law_1464 rfl rfl ?_
                                                                                      refine rf_iconst (n := 1467) (2 : Int32) dL_law_1466 cciconst_2 rfl ?_
                                                                                      refine rf_iadd (n := 1468) dL_law_1467 rfl ?_
                                                                                      refine rf_scd (n := 1469) hX dL_law_1468 rfl (fun v360 => ?_)
                                                                                      refine rf_aload_n (n := 1470) 0 dL_law_1469 rfl rfl rfl ?_
                                                                                      refine rf_iload (n := 1472) 4 dL_law_1470 rfl rfl ?_
                                                                                      refine rf_iconst (n := 1473) (3 : Int32) dL_law_1472 cciconst_3 rfl ?_
                                                                                      refine rf_iadd (n := 1474) dL_law_1473 rfl ?_
                                                                                      refine rf_scd (n := 1475) hX dL_law_1474 rfl (fun v361 => ?_)
                                                                                      refine rf_cV3I (n := 1478) hG (okX9_chance _ _ _ _) lVL_198 hhX9_chance kk_57 sS_57 ⟨_, rfl, rfl⟩ dL_law_1475 rfl (Nat.le_of_ble_eq_true rfl) (Nat.le_of_ble_eq_true rfl) (fun v362 m363 => ?_)
                                                                                      refine rf_icmp_eq (tg := 1547) (n := 1481) dL_law_1478 rfl rfl (fun c364 => ?_) (fun c364 => ?_)
                                                                                      · refine rf_widen (k1 := n1 + 1) (k2 := n2 + 6) (Nat.le_succ _) (Nat.le_add_right _ _) hw1 hw2 ?_
                                                                                        exact pL_law_K1547 hG hk hst hE hX hend9 _ r23 hr23 _
                                                                                      · refine rf_iconst (n := 1482) (0 : Int32) dL_law_1481 cciconst_0 rfl ?_
                                                                                        exact rf_none
                                                                                    · refine rf_split (fun c365 => ?_) (fun c365 => ?_)
                                                                                      · refine rf_tabIn (tg := 1483) (41 : Int32) c365 dL_law_40 (by decide) rfl rfl ?_
                                                                                        refine rf_aload_n (n := 1484) 1 dL_law_1483 rfl rfl rfl ?_
                                                                                        refine rf_cV0I (n := 1487) hG (okX8_undo _) lVL_199 hhX8_undo kk_0 sS_0 ⟨_, rfl, rfl⟩ dL_law_1484 rfl (Nat.le_of_ble_eq_true rfl) (Nat.le_of_ble_eq_true rfl) (fun v366 m367 => ?_)
                                                                                        refine rf_aload_n (n := 1488) 2 dL_law_1487 rfl rfl rfl ?_
                                                                                        refine rf_cV0I (n := 1491) hG (okX9_undo _) lVL_202 hhX9_undo kk_57 sS_57 ⟨_, rfl, rfl⟩ dL_law_1488 rfl (Nat.le_of_ble_eq_true rfl) (Nat.le_of_ble_eq_true rfl) (fun v368 m369 => ?_)
                                                                                        refine rf_icmp_eq (tg := 1547) (n := 1494) dL_law_1491 rfl rfl (fun c370 => ?_) (fun c370 => ?_)
                                                                                        · refine rf_widen (k1 := n1 + 1) (k2 := n2 + 6) (Nat.le_succ _) (Nat.le_add_right _ _) hw1 hw2 ?_
                                                                                          exact pL_law_K1547 hG hk hst hE hX hend9 _ r23 hr23 _
                                                                                        · refine rf_iconst (n := 1495) (0 : Int32) dL_law_1494 cciconst_0 rfl ?_
                                                                                          exact rf_none
                                                                                      · refine rf_split (fun c371 => ?_) (fun c371 => ?_)
                                                                                        · refine rf_tabIn (tg := 1496) (42 : Int32) c371 dL_law_40 (by decide) rfl rfl ?_
                                                                                          refine rf_aload_n (n := 1497) 1 dL_law_1496 rfl rfl rfl ?_
                                                                                          refine rf_cV0I (n := 1500) hG (okX8_keep _) lVL_203 hhX8_keep kk_0 sS_0 ⟨_, rfl, rfl⟩ dL_law_1497 rfl (Nat.le_of_ble_eq_true rfl) (Nat.le_of_ble_eq_true rfl) (fun v372 m373 => ?_)
                                                                                          refine rf_aload_n (n := 1501) 2 dL_law_1500 rfl rfl rfl ?_
                                                                                          refine rf_cV0I (n := 1504) hG (okX9_keep _) lVL_206 hhX9_keep kk_57 sS_57 ⟨_, rfl, rfl⟩ dL_law_1501 rfl (Nat.le_of_ble_eq_true rfl) (Nat.le_of_ble_eq_true rfl) (fun v374 m375 => ?_)
                                                                                          refine rf_icmp_eq (tg := 1547) (n := 1507) dL_law_1504 rfl rfl (fun c376 => ?_) (fun c376 => ?_)
                                                                                          · refine rf_widen (k1 := n1 + 1) (k2 := n2 + 6) (Nat.le_succ _) (Nat.le_add_right _ _) hw1 hw2 ?_
                                                                                            exact pL_law_K1547 hG hk hst hE hX hend9 _ r23 hr23 _
                                                                                          · refine rf_iconst (n := 1508) (0 : Int32) dL_law_1507 cciconst_0 rfl ?_
                                                                                            exact rf_none
                                                                                        · refine rf_split (fun c377 => ?_) (fun c377 => ?_)
                                                                                          · refine rf_tabIn (tg := 1509) (43 : Int32) c377 dL_law_40 (by decide) rfl rfl ?_
                                                                                            refine rf_aload_n (n := 1510) 1 dL_law_1509 rfl rfl rfl ?_
                                                                                            refine rf_cV0I (n := 1513) hG (okX8_back _) lVL_207 hhX8_back kk_0 sS_0 ⟨_, rfl, rfl⟩ dL_law_1510 rfl (Nat.le_of_ble_eq_true rfl) (Nat.le_of_ble_eq_true rfl) (fun v378 m379 => ?_)
                                                                                            refine rf_aload_n (n := 1514) 2 dL_law_1513 rfl rfl rfl ?_
                                                                                            refine rf_cV0I (n := 1517) hG (okX9_back _) lVL_210 hhX9_back kk_57 sS_57 ⟨_, rfl, rfl⟩ dL_law_1514 rfl (Nat.le_of_ble_eq_true rfl) (Nat.le_of_ble_eq_true rfl) (fun v380 m381 => ?_)
                                                                                            refine rf_icmp_eq (tg := 1547) (n := 1520) dL_law_1517 rfl rfl (fun c382 => ?_) (fun c382 => ?_)
                                                                                            · refine rf_widen (k1 := n1 + 1) (k2 := n2 + 6) (Nat.le_succ _) (Nat.le_add_right _ _) hw1 hw2 ?_
                                                                                              exact pL_law_K1547 hG hk hst hE hX hend9 _ r23 hr23 _
                                                                                            · refine rf_iconst (n := 1521) (0 : Int32) dL_law_1520 cciconst_0 rfl ?_
                                                                                              exact rf_none
                                                                                          · refine rf_split (fun c383 => ?_) (fun c383 => ?_)
                                                                                            · refine rf_tabIn (tg := 1522) (44 : Int32) c383 dL_law_40 (by decide) rfl rfl ?_
                                                                                              refine rf_aload_n (n := 1523) 1 dL_law_1522 rfl rfl rfl ?_
                                                                                              refine rf_aload_n (n := 1524) 0 dL_law_1523 rfl rfl rfl ?_
                                                                                              refine rf_iload (n := 1526) 4 dL_law_1524 rfl rfl ?_
                                                                                              refine rf_iconst (n := 1527) (1 : Int32) dL_law_1526 cciconst_1 rfl ?_
                                                                                              refine rf_iadd (n := 1528) dL_law_1527 rfl ?_
                                                                                              refine rf_scd (n := 1529) hX dL_law_1528 rfl (fun v384 => ?_)
                                                                                              refine rf_cV1I (n := 1532) hG (okX8_count _ _) lVL_211 hhX8_count kk_0 sS_0 ⟨_, rfl, rfl⟩ dL_law_1529 rfl (Nat.le_of_ble_eq_true rfl) (Nat.le_of_ble_eq_true rfl) (fun v385 m386 => ?_)
                                                                                              refine rf_aload_n (n := 1533) 2 dL_law_1532 rfl rfl rfl ?_
                                                                                              refine rf_aload_n (n := 1534) 0 dL_law_1533 rfl rfl rfl ?_
                                                                                              refine rf_iload (n := 1536) 4 dL_law_1534 rfl rfl ?_
                                                                                              refine rf_iconst (n := 1537) (1 : Int32) dL_law_1536 cciconst_1 rfl ?_
                                                                                              refine rf_iadd (n := 1538) dL_law_1537 rfl ?_
                                                                                              refine rf_scd (n := 1539) hX dL_law_1538 rfl (fun v387 => ?_)
                                                                                              refine rf_cV1I (n := 1542) hG (okX9_count _ _) lVL_214 hhX9_count kk_57 sS_57 ⟨_, rfl, rfl⟩ dL_law_1539 rfl (Nat.le_of_ble_eq_true rfl) (Nat.le_of_ble_eq_true rfl) (fun v388 m389 => ?_)
                                                                                              refine rf_icmp_eq (tg := 1547) (n := 1545) dL_law_1542 rfl rfl (fun c390 => ?_) (fun c390 => ?_)
                                                                                              · refine rf_widen (k1 := n1 + 1) (k2 := n2 + 6) (Nat.le_succ _) (Nat.le_add_right _ _) hw1 hw2 ?_
                                                                                                exact pL_law_K1547 hG hk hst hE hX hend9 _ r23 hr23 _
                                                                                              · refine rf_iconst (n := 1546) (0 : Int32) dL_law_1545 cciconst_0 rfl ?_
                                                                                                exact rf_none
                                                                                            · refine rf_tabOut (tg := 1547) [(0 : Int32), (1 : Int32), (2 : Int32), (3 : Int32), (4 : Int32), (5 : Int32), (6 : Int32), (7 : Int32), (8 : Int32), (9 : Int32), (10 : Int32), (11 : Int32), (12 : Int32), (13 : Int32), (14 : Int32), (15 : Int32), (16 : Int32), (17 : Int32), (18 : Int32), (19 : Int32), (20 : Int32), (21 : Int32), (22 : Int32), (23 : Int32), (24 : Int32), (25 : Int32), (26 : Int32), (27 : Int32), (28 : Int32), (29 : Int32), (30 : Int32), (31 : Int32), (32 : Int32), (33 : Int32), (34 : Int32), (35 : Int32), (36 : Int32), (37 : Int32), (38 : Int32), (39 : Int32), (40 : Int32), (41 : Int32), (42 : Int32), (43 : Int32), (44 : Int32)] (List.forall_mem_cons.mpr ⟨c2, List.forall_mem_cons.mpr ⟨c18, List.forall_mem_cons.mpr ⟨c26, List.forall_mem_cons.mpr ⟨c34, List.forall_mem_cons.mpr ⟨c44, List.forall_mem_cons.mpr ⟨c52, List.forall_mem_cons.mpr ⟨c64, List.forall_mem_cons.mpr ⟨c76, List.forall_mem_cons.mpr ⟨c84, List.forall_mem_cons.mpr ⟨c92, List.forall_mem_cons.mpr ⟨c102, List.forall_mem_cons.mpr ⟨c117, List.forall_mem_cons.mpr ⟨c127, List.forall_mem_cons.mpr ⟨c137, List.forall_mem_cons.mpr ⟨c145, List.forall_mem_cons.mpr ⟨c153, List.forall_mem_cons.mpr ⟨c161, List.forall_mem_cons.mpr ⟨c169, List.forall_mem_cons.mpr ⟨c179, List.forall_mem_cons.mpr ⟨c187, List.forall_mem_cons.mpr ⟨c193, List.forall_mem_cons.mpr ⟨c201, List.forall_mem_cons.mpr ⟨c209, List.forall_mem_cons.mpr ⟨c215, List.forall_mem_cons.mpr ⟨c225, List.forall_mem_cons.mpr ⟨c233, List.forall_mem_cons.mpr ⟨c243, List.forall_mem_cons.mpr ⟨c251, List.forall_mem_cons.mpr ⟨c257, List.forall_mem_cons.mpr ⟨c265, List.forall_mem_cons.mpr ⟨c273, List.forall_mem_cons.mpr ⟨c283, List.forall_mem_cons.mpr ⟨c291, List.forall_mem_cons.mpr ⟨c297, List.forall_mem_cons.mpr ⟨c305, List.forall_mem_cons.mpr ⟨c313, List.forall_mem_cons.mpr ⟨c319, List.forall_mem_cons.mpr ⟨c327, List.forall_mem_cons.mpr ⟨c335, List.forall_mem_cons.mpr ⟨c345, List.forall_mem_cons.mpr ⟨c353, List.forall_mem_cons.mpr ⟨c365, List.forall_mem_cons.mpr ⟨c371, List.forall_mem_cons.mpr ⟨c377, List.forall_mem_cons.mpr ⟨c383, List.forall_mem_nil _⟩⟩⟩⟩⟩⟩⟩⟩⟩⟩⟩⟩⟩⟩⟩⟩⟩⟩⟩⟩⟩⟩⟩⟩⟩⟩⟩⟩⟩⟩⟩⟩⟩⟩⟩⟩⟩⟩⟩⟩⟩⟩⟩⟩⟩) dL_law_40 (by decide) rfl ?_
                                                                                              refine rf_widen (k1 := n1 + 1) (k2 := n2 + 6) (Nat.le_succ _) (Nat.le_add_right _ _) hw1 hw2 ?_
                                                                                              exact pL_law_K1547 hG hk hst hE hX hend9 _ r23 hr23 _
