/-! LatchTimes.cell: it returns, or throws one of two -/
def ax_xn : List Cond := [.castable "java/lang/IndexOutOfBoundsException" "java/lang/IndexOutOfBoundsException", .castable "java/util/NoSuchElementException" "java/util/NoSuchElementException", .declares (Bundle.initS "java/lang/RuntimeException"), .declares (Bundle.initS "java/lang/Exception"), .declares (Bundle.initS Bundle.tN)]
theorem ax_xn_warm {s U : State} (hW : s.WarmedH U.vm) (h : ∀ w ∈ ax_xn, va_Nw w s) : ∀ w ∈ ax_xn, va_Nw w U := by
  intro w hw
  have h0 := h w hw
  simp only [ax_xn, List.mem_cons, List.not_mem_nil, or_false] at hw
  rcases hw with rfl | rfl | rfl | rfl | rfl
  · exact va_Nw.warmC hW h0
  · exact va_Nw.warmC hW h0
  · exact va_Nw.warmD hW h0
  · exact va_Nw.warmD hW h0
  · exact va_Nw.warmD hW h0
theorem ax_xn_onT : ∀ w ∈ ax_xn, w.onTables = true := by decide +kernel
def ax_Xe (G : ax_G) (U : State) : Prop := vk_R "LatchTimes" 177 "no such cell" (ax_gx G 1000004) U ∧ vk_R "LatchTimes" 208 "no such what" (ax_gx G 1000005) U ∧ vx_Zq Bundle.tN "UNASSIGNED_STACK" Bundle.steD (ax_A G) U U.heap ∧ vx_Zq Bundle.tN "SUPPRESSED_SENTINEL" Bundle.listD (ax_A G) U U.heap ∧ va_Nc "java/util/NoSuchElementException" "java/lang/IndexOutOfBoundsException" U ∧ ∀ w ∈ ax_xn, va_Nw w U
theorem ax_Xe_moved {G : ax_G} {s U : State} (hW : s.WarmedH U.vm) (hq : ∀ a : Nat, a < s.heap.size → ¬ ax_A G a → U.heap[a]? = s.heap[a]?) (h : ax_Xe G s) : ax_Xe G U := by
  obtain ⟨h1, h2, h3, h4, h5, h6⟩ := h
  exact ⟨h1.warm hW, h2.warm hW, (h3.kept hq).moved hW.alike, (h4.kept hq).moved hW.alike, h5.moved hW.alike, ax_xn_warm hW h6⟩
theorem ax_Xe_same {G : ax_G} {u U : State} (hv : U.vm = u.vm) (hh : U.heap = u.heap) (h : ax_Xe G u) : ax_Xe G U := by
  obtain ⟨h1, h2, h3, h4, h5, h6⟩ := h
  have ha : u.vm.Alike U.vm := by rw [hv]; exact Vm.Alike.refl _
  exact ⟨h1.same hv, h2.same hv, by rw [hh]; exact h3.moved ha, by rw [hh]; exact h4.moved ha, h5.moved ha, fun w hw => va_Nw.same (ax_xn_onT w hw) hv.symm (h6 w hw)⟩
def ax_QX (G : ax_G) (r : Int32 × Int32) (μ : ax_M) : Array Value → State → Outcome → State → Prop := fun _ st oc t => r.1 = 0 ∧ oc = .returned (some (.int r.2)) ∧ ax_Rel G μ t.heap ∧ va_F (ax_A G) st t
def ax_XX (G : ax_G) (r : Int32 × Int32) (μ : ax_M) : String → State → State → Prop := fun E st t => ((r.1 = 1 ∧ E = "java/lang/IndexOutOfBoundsException") ∨ (r.1 = 2 ∧ E = "java/util/NoSuchElementException")) ∧ ax_Rel G μ t.heap ∧ va_F (ax_A G) st t
def ax_ZX (x : ax_X) (G : ax_G) : Int32 × Int32 → ax_M → State → Prop := fun r μ2 => vx_MQ (ax_xb x) (ax_QX G r μ2) (ax_XX G r μ2) (ax_xa x) (ax_xs x) 1 6 (ax_A G)
section AXC
variable {M : ax_Mi} {d : Nat} {x : ax_X} {G : ax_G} {pc : Nat} {lc : List (Option Value)} {μ : ax_M}
theorem rf_retX {v : Int32} (hr : M.2.2.2 = some .int) (hd : decode M.2.1 pc = .ok (.ireturn, 1)) : ax_Rf M d x (ax_ZX x G) G 0 0 pc lc [.int v] μ (some ((0, v), μ)) := by
  intro r μ2 ht hC h1 h2 H locs ls hR hS hl
  cases ht
  refine vx_ret (W.widen (k := 1) (n := 6) (by omega) (by omega) ?_)
  exact W.iret hC.1 hC.2.1 (hC.2.2.2.2.2.1.trans hr) (fun t ht hW => ⟨rfl, rfl, by rw [ht]; exact hR, hS.F ht⟩) hS.2.2 hd hC.2.2.2.2.2.2.1
theorem ax_grown {H : Heap} {locs : List Loc} {s t : State} (hR : ax_Rel G μ H) (hS : va_S (ax_A G) s.heap H locs) (hz : H.size ≤ t.heap.size) (hq : ∀ q : Nat, q < H.size → t.heap[q]? = H[q]?) : ax_Rel G μ t.heap ∧ va_F (ax_A G) s t := by
  refine ⟨va_P.kept hR (fun k q hk => hq q.1 (hR k q hk).lt), Nat.le_trans hS.1 hz, fun q h1 h2 => ?_⟩
  rw [hq q (Nat.lt_of_lt_of_le h1 hS.1)]
  exact hS.2.1 q h1 h2
end AXC
theorem ax_xa1 : ∀ w ∈ (vx_atS RX8 179 "java/lang/IndexOutOfBoundsException" ["java/lang/RuntimeException", "java/lang/Exception"]).filter goodWord, w ∈ lw_tbl := by decide +kernel
theorem ax_xb1 : ∀ w ∈ (vx_atS RX8 179 "java/lang/IndexOutOfBoundsException" ["java/lang/RuntimeException", "java/lang/Exception"]).filter (fun w => !goodWord w), w ∈ ax_xn := by decide +kernel
theorem ax_xw1 {args : Array Value} {s : State} (h1 : ∀ w ∈ ax_tbl, w.before args s = true) (h2 : ∀ w ∈ ax_xn, va_Nw w s) : ∀ w ∈ vx_atS RX8 179 "java/lang/IndexOutOfBoundsException" ["java/lang/RuntimeException", "java/lang/Exception"], w.before args s = true :=
  vx_hat (B := ax_xn) (fun w hw => h1 w (List.mem_filter.mpr ⟨ax_xa1 w hw, (List.mem_filter.mp hw).2⟩)) ax_xb1 (fun w hw => va_Nw.use (ax_xn_onT w hw) (h2 w hw))
theorem ax_xa2 : ∀ w ∈ (ax_atX RX8 210 "java/util/NoSuchElementException" 13 prog_28_method_4_code ["java/lang/RuntimeException", "java/lang/Exception"]).filter goodWord, w ∈ lw_tbl := by decide +kernel
theorem ax_xb2 : ∀ w ∈ (ax_atX RX8 210 "java/util/NoSuchElementException" 13 prog_28_method_4_code ["java/lang/RuntimeException", "java/lang/Exception"]).filter (fun w => !goodWord w), w ∈ ax_xn := by decide +kernel
theorem ax_xw2 {args : Array Value} {s : State} (h1 : ∀ w ∈ ax_tbl, w.before args s = true) (h2 : ∀ w ∈ ax_xn, va_Nw w s) : ∀ w ∈ ax_atX RX8 210 "java/util/NoSuchElementException" 13 prog_28_method_4_code ["java/lang/RuntimeException", "java/lang/Exception"], w.before args s = true :=
  vx_hat (B := ax_xn) (fun w hw => h1 w (List.mem_filter.mpr ⟨ax_xa2 w hw, (List.mem_filter.mp hw).2⟩)) ax_xb2 (fun w hw => va_Nw.use (ax_xn_onT w hw) (h2 w hw))
theorem ax_xg1 : ∀ w ∈ Cond.classLink RX8 175 "java/lang/IndexOutOfBoundsException" :: Cond.initialized "java/lang/IndexOutOfBoundsException" :: vx_atS RX8 179 "java/lang/IndexOutOfBoundsException" ["java/lang/RuntimeException", "java/lang/Exception"], vx_ot w = true := by decide +kernel
theorem ax_xg2 : ∀ w ∈ Cond.classLink RX8 206 "java/util/NoSuchElementException" :: Cond.initialized "java/util/NoSuchElementException" :: ax_atX RX8 210 "java/util/NoSuchElementException" 13 prog_28_method_4_code ["java/lang/RuntimeException", "java/lang/Exception"], vx_ot w = true := by decide +kernel
theorem flX8_182 : ax_fl RX8 182 1 4 := ⟨_, rfl, by decide, rfl, ax_tbl_of 56 (by decide +kernel) rfl⟩
theorem flX8_185 : ax_fl RX8 185 1 5 := ⟨_, rfl, by decide, rfl, ax_tbl_of 61 (by decide +kernel) rfl⟩
theorem flX8_188 : ax_fl RX8 188 1 6 := ⟨_, rfl, by decide, rfl, ax_tbl_of 64 (by decide +kernel) rfl⟩
theorem flX8_191 : ax_fl RX8 191 1 7 := ⟨_, rfl, by decide, rfl, ax_tbl_of 67 (by decide +kernel) rfl⟩
abbrev mX8_countOf : ax_Mi := (yX8_countOf, cX8_countOf, 5, (some .int))
theorem hhX8_countOf : ax_hd mX8_countOf 3 := ⟨by decide +kernel, Nat.le_of_ble_eq_true rfl, ax_tbl_of 1159 (by decide +kernel) rfl, ax_tbl_of 1 (by decide +kernel) rfl⟩
abbrev mX8_cell : ax_Mi := (yX8_cell, cX8_cell, 3, (some .int))
theorem hhX8_cell : ax_hd mX8_cell 2 := ⟨by decide +kernel, Nat.le_of_ble_eq_true rfl, ax_tbl_of 1089 (by decide +kernel) rfl, ax_tbl_of 1 (by decide +kernel) rfl⟩
theorem lSX8_200 : ax_lS RX8 200 mX8_countOf := ⟨ax_tbl_of 1157 (by decide +kernel) rfl, ax_tbl_of 1158 (by decide +kernel) rfl⟩
theorem rf_thr1 {x : ax_X} {G : ax_G} {lc : List (Option Value)} {μ : ax_M} (hE : ax_Xe G (ax_xs x)) (hst : x.2.1.stackTraces = false) (htab : ∀ z ∈ (ax_xc x).exceptionTable.toList, False) (hc1 : 1 ≤ (ax_xR x).cells) (hc2 : 6 ≤ (ax_xR x).slots) : ax_Rf mX8_cell 8 x (ax_ZX x G) G 0 0 11 lc [] μ (some ((1, 0), μ)) := by
  intro r μ2 ht hC h1 h2 H locs ls hR hS hl
  cases ht
  have r1 := hC.2.2.2.2.2.2.2.2.1
  have r2 := hC.2.2.2.2.2.2.2.2.2.1
  exact vx_throwS (cls := "java/lang/IndexOutOfBoundsException") (names := ["java/lang/RuntimeException", "java/lang/Exception"]) (ik := 175) (is := 177) (ic := 179) hC.1 hC.2.1 hst hC.2.2.2.1 (by decide) (by decide) (hC.2.2.2.2.1 _ (ax_tbl_of 1090 (by decide +kernel) rfl)) (hC.2.2.2.2.1 _ (ax_tbl_of 20 (by decide +kernel) rfl)) hE.1 (ax_xw1 hC.2.2.2.2.1 hE.2.2.2.2.2) ax_xg1 hE.2.2.1 hE.2.2.2.1 hS (hl.1.trans hC.2.2.1.symm) dX8_cell_11 dX8_cell_14 dX8_cell_15 dX8_cell_17 dX8_cell_20 (fun z hz => (htab z hz).elim) (by show 2 + 3 < _; omega) (by show 0 + (13 * 3 + 43) ≤ _; omega) (by omega) (by omega) hC.2.2.2.2.2.2.1 (fun t ha hz hq => ⟨Or.inl ⟨rfl, rfl⟩, ax_grown hR hS hz hq⟩) hS.2.2 (by omega) (by omega)
theorem rf_thr2 {x : ax_X} {G : ax_G} {lc : List (Option Value)} {μ : ax_M} (hE : ax_Xe G (ax_xs x)) (hst : x.2.1.stackTraces = false) (htab : ∀ z ∈ (ax_xc x).exceptionTable.toList, False) (hc1 : 1 ≤ (ax_xR x).cells) (hc2 : 6 ≤ (ax_xR x).slots) : ax_Rf mX8_cell 8 x (ax_ZX x G) G 0 0 159 lc [] μ (some ((2, 0), μ)) := by
  intro r μ2 ht hC h1 h2 H locs ls hR hS hl
  cases ht
  have r1 := hC.2.2.2.2.2.2.2.2.1
  have r2 := hC.2.2.2.2.2.2.2.2.2.1
  exact ax_throwX (cls := "java/util/NoSuchElementException") (names := ["java/lang/RuntimeException", "java/lang/Exception"]) (ik := 206) (is := 208) (ic := 210) (ix := 13) (rx := prog_28_method_4_code) hC.1 hC.2.1 hst (by decide +kernel) (by decide +kernel) (by decide +kernel) (by decide +kernel) hC.2.2.2.1 (by decide) (by decide) (hC.2.2.2.2.1 _ (ax_tbl_of 1160 (by decide +kernel) rfl)) (hC.2.2.2.2.1 _ (ax_tbl_of 21 (by decide +kernel) rfl)) hE.2.1 (ax_xw2 hC.2.2.2.2.1 hE.2.2.2.2.2) ax_xg2 hE.2.2.1 hE.2.2.2.1 hS (hl.1.trans hC.2.2.1.symm) dX8_cell_159 dX8_cell_162 dX8_cell_163 dX8_cell_165 dX8_cell_168 (fun z hz => (htab z hz).elim) hC.2.2.2.2.2.2.1 (fun t ha hz hq => ⟨Or.inr ⟨rfl, rfl⟩, ax_grown hR hS hz hq⟩) hS.2.2 (by omega) (by omega) (by show 2 + 3 < _; omega) (by show 0 + (13 * 3 + 43) ≤ _; omega) (by omega) (by omega)
def fX8_countOf_K22 (l1 : Int32) (l2 : Int32) (l3 : Int32) (l4 : Int32) (r5 : Int32 → Int32 → ax_M → Option (Int32 × ax_M)) (μ : ax_M) : Option (Int32 × ax_M) :=
  (r5 l3 (l4 + (1 : Int32)) μ)
theorem pX8_countOf_K22 {x : ax_X} {G : ax_G} (hG : ax_ok G) (l1 : Int32) (l2 : Int32) (l3 : Int32) (l4 : Int32) (r5 : Int32 → Int32 → ax_M → Option (Int32 × ax_M)) (hr5 : ∀ (a3 : Int32) (a4 : Int32) (μ : ax_M), ax_Rf mX8_countOf 0 x (ax_Z ax_jI x G) G 0 0 5 [some (.ref 12), some (.int l1), some (.int l2), some (.int a3), some (.int a4)] [] μ (r5 a3 a4 μ)) (μ : ax_M) : ax_Rf mX8_countOf 0 x (ax_Z ax_jI x G) G 0 0 22 [some (.ref 12), some (.int l1), some (.int l2), some (.int l3), some (.int l4)] [] μ (fX8_countOf_K22 l1 l2 l3 l4 r5 μ) := by
  unfold fX8_countOf_K22
  refine rf_iinc (lc2 := [some (.ref 12), some (.int l1), some (.int l2), some (.int l3), some (.int (l4 + (1 : Int32)))]) (n := 25) (w := (1 : Int32)) 4 dX8_countOf_22 rfl rfl rfl (Nat.le_of_ble_eq_true rfl) rfl rfl ?_
  refine rf_goto (tg := 5) dX8_countOf_25 rfl ?_
  exact hr5 _ _ _
def fX8_countOf_B5 (l1 : Int32) (l2 : Int32) (r5 : Int32 → Int32 → ax_M → Option (Int32 × ax_M)) (l3 : Int32) (l4 : Int32) (μ : ax_M) : Option (Int32 × ax_M) :=
  (if l1 ≤ l4 then (some (l3, μ)) else (Option.bind (ax_rd μ 12 24 l4) (fun v1 => (if v1 = l2 then (fX8_countOf_K22 l1 l2 (l3 + (1 : Int32)) l4 r5 μ) else (fX8_countOf_K22 l1 l2 l3 l4 r5 μ)))))
theorem pX8_countOf_B5 {x : ax_X} {G : ax_G} (hG : ax_ok G) (l1 : Int32) (l2 : Int32) (r5 : Int32 → Int32 → ax_M → Option (Int32 × ax_M)) (hr5 : ∀ (a3 : Int32) (a4 : Int32) (μ : ax_M), ax_Rf mX8_countOf 0 x (ax_Z ax_jI x G) G 0 0 5 [some (.ref 12), some (.int l1), some (.int l2), some (.int a3), some (.int a4)] [] μ (r5 a3 a4 μ)) (l3 : Int32) (l4 : Int32) (μ : ax_M) : ax_Rf mX8_countOf 0 x (ax_Z ax_jI x G) G 0 0 5 [some (.ref 12), some (.int l1), some (.int l2), some (.int l3), some (.int l4)] [] μ (fX8_countOf_B5 l1 l2 r5 l3 l4 μ) := by
  unfold fX8_countOf_B5
  refine rf_iload (n := 7) 4 dX8_countOf_5 rfl rfl ?_
  refine rf_iload_n (n := 8) 1 dX8_countOf_7 rfl rfl rfl ?_
  refine rf_icmp_ge (tg := 28) (n := 11) dX8_countOf_8 rfl rfl (fun c3 => ?_) (fun c3 => ?_)
  · refine rf_iload_n (n := 29) 3 dX8_countOf_28 rfl rfl rfl ?_
    exact rf_retI rfl dX8_countOf_29
  · refine rf_aload_n (n := 12) 0 dX8_countOf_11 rfl rfl rfl ?_
    refine rf_iload (n := 14) 4 dX8_countOf_12 rfl rfl ?_
    refine rf_iald (n := 15) hG dX8_countOf_14 sS_12 kk_12 rfl (fun v1 => ?_)
    refine rf_iload_n (n := 16) 2 dX8_countOf_15 rfl rfl rfl ?_
    refine rf_icmp_ne (tg := 22) (n := 19) dX8_countOf_16 rfl rfl (fun c2 => ?_) (fun c2 => ?_)
    · exact pX8_countOf_K22 hG _ _ _ _ r5 hr5 _
    · refine rf_iinc (lc2 := [some (.ref 12), some (.int l1), some (.int l2), some (.int (l3 + (1 : Int32))), some (.int l4)]) (n := 22) (w := (1 : Int32)) 3 dX8_countOf_19 rfl rfl rfl (Nat.le_of_ble_eq_true rfl) rfl rfl ?_
      exact pX8_countOf_K22 hG _ _ _ _ r5 hr5 _
theorem pX8_countOf_L5 {x : ax_X} {G : ax_G} (hG : ax_ok G) (l1 : Int32) (l2 : Int32) (n : Nat) (a3 : Int32) (a4 : Int32) (μ : ax_M) : ax_Rf mX8_countOf 0 x (ax_Z ax_jI x G) G 0 0 5 [some (.ref 12), some (.int l1), some (.int l2), some (.int a3), some (.int a4)] [] μ (ax_lp2 (fX8_countOf_B5 l1 l2) n a3 a4 μ) :=
  rf_lp2 (P := fun a3 a4 μ t => ax_Rf mX8_countOf 0 x (ax_Z ax_jI x G) G 0 0 5 [some (.ref 12), some (.int l1), some (.int l2), some (.int a3), some (.int a4)] [] μ t) (fun _ _ _ => rf_none) (fun rc hrc a3 a4 μ => pX8_countOf_B5 hG l1 l2 rc hrc a3 a4 μ) n a3 a4 μ
def fX8_countOf (p1 : Int32) (p2 : Int32) (μ : ax_M) : Option (Int32 × ax_M) :=
  (ax_lp2 (fX8_countOf_B5 p1 p2) ax_FU (0 : Int32) (0 : Int32) μ)
theorem okX8_countOf (p1 : Int32) (p2 : Int32) (μ : ax_M) : ax_Ok mX8_countOf 0 ax_jI [.ref 12, .int p1, .int p2] μ (fX8_countOf p1 p2 μ) := by
  refine ax_start (lc := [some (.ref 12), some (.int p1), some (.int p2), none, none]) 2 (by decide +kernel) rfl (Nat.le_of_ble_eq_true rfl) (fun x G hG => ?_)
  unfold fX8_countOf
  refine rf_iconst (n := 1) (0 : Int32) dX8_countOf_0 cciconst_0 rfl ?_
  refine rf_istore_n (lc2 := [some (.ref 12), some (.int p1), some (.int p2), some (.int (0 : Int32)), none]) (n := 2) 3 dX8_countOf_1 rfl rfl (Nat.le_of_ble_eq_true rfl) rfl rfl ?_
  refine rf_iconst (n := 3) (0 : Int32) dX8_countOf_2 cciconst_0 rfl ?_
  refine rf_istore (lc2 := [some (.ref 12), some (.int p1), some (.int p2), some (.int (0 : Int32)), some (.int (0 : Int32))]) (n := 5) 4 dX8_countOf_3 rfl (Nat.le_of_ble_eq_true rfl) rfl rfl ?_
  exact pX8_countOf_L5 hG _ _ _ _ _ _
def fX8_countOf_1_K22 (l1 : Int32) (l2 : Int32) (l3 : Int32) (l4 : Int32) (r5 : Int32 → Int32 → ax_M → Option (Int32 × ax_M)) (μ : ax_M) : Option (Int32 × ax_M) :=
  (r5 l3 (l4 + (1 : Int32)) μ)
theorem pX8_countOf_1_K22 {x : ax_X} {G : ax_G} (hG : ax_ok G) (l1 : Int32) (l2 : Int32) (l3 : Int32) (l4 : Int32) (r5 : Int32 → Int32 → ax_M → Option (Int32 × ax_M)) (hr5 : ∀ (a3 : Int32) (a4 : Int32) (μ : ax_M), ax_Rf mX8_countOf 0 x (ax_Z ax_jI x G) G 0 0 5 [some (.ref 11), some (.int l1), some (.int l2), some (.int a3), some (.int a4)] [] μ (r5 a3 a4 μ)) (μ : ax_M) : ax_Rf mX8_countOf 0 x (ax_Z ax_jI x G) G 0 0 22 [some (.ref 11), some (.int l1), some (.int l2), some (.int l3), some (.int l4)] [] μ (fX8_countOf_1_K22 l1 l2 l3 l4 r5 μ) := by
  unfold fX8_countOf_1_K22
  refine rf_iinc (lc2 := [some (.ref 11), some (.int l1), some (.int l2), some (.int l3), some (.int (l4 + (1 : Int32)))]) (n := 25) (w := (1 : Int32)) 4 dX8_countOf_22 rfl rfl rfl (Nat.le_of_ble_eq_true rfl) rfl rfl ?_
  refine rf_goto (tg := 5) dX8_countOf_25 rfl ?_
  exact hr5 _ _ _
def fX8_countOf_1_B5 (l1 : Int32) (l2 : Int32) (r5 : Int32 → Int32 → ax_M → Option (Int32 × ax_M)) (l3 : Int32) (l4 : Int32) (μ : ax_M) : Option (Int32 × ax_M) :=
  (if l1 ≤ l4 then (some (l3, μ)) else (Option.bind (ax_rd μ 11 24 l4) (fun v1 => (if v1 = l2 then (fX8_countOf_1_K22 l1 l2 (l3 + (1 : Int32)) l4 r5 μ) else (fX8_countOf_1_K22 l1 l2 l3 l4 r5 μ)))))
theorem pX8_countOf_1_B5 {x : ax_X} {G : ax_G} (hG : ax_ok G) (l1 : Int32) (l2 : Int32) (r5 : Int32 → Int32 → ax_M → Option (Int32 × ax_M)) (hr5 : ∀ (a3 : Int32) (a4 : Int32) (μ : ax_M), ax_Rf mX8_countOf 0 x (ax_Z ax_jI x G) G 0 0 5 [some (.ref 11), some (.int l1), some (.int l2), some (.int a3), some (.int a4)] [] μ (r5 a3 a4 μ)) (l3 : Int32) (l4 : Int32) (μ : ax_M) : ax_Rf mX8_countOf 0 x (ax_Z ax_jI x G) G 0 0 5 [some (.ref 11), some (.int l1), some (.int l2), some (.int l3), some (.int l4)] [] μ (fX8_countOf_1_B5 l1 l2 r5 l3 l4 μ) := by
  unfold fX8_countOf_1_B5
  refine rf_iload (n := 7) 4 dX8_countOf_5 rfl rfl ?_
  refine rf_iload_n (n := 8) 1 dX8_countOf_7 rfl rfl rfl ?_
  refine rf_icmp_ge (tg := 28) (n := 11) dX8_countOf_8 rfl rfl (fun c3 => ?_) (fun c3 => ?_)
  · refine rf_iload_n (n := 29) 3 dX8_countOf_28 rfl rfl rfl ?_
    exact rf_retI rfl dX8_countOf_29
  · refine rf_aload_n (n := 12) 0 dX8_countOf_11 rfl rfl rfl ?_
    refine rf_iload (n := 14) 4 dX8_countOf_12 rfl rfl ?_
    refine rf_iald (n := 15) hG dX8_countOf_14 sS_11 kk_11 rfl (fun v1 => ?_)
    refine rf_iload_n (n := 16) 2 dX8_countOf_15 rfl rfl rfl ?_
    refine rf_icmp_ne (tg := 22) (n := 19) dX8_countOf_16 rfl rfl (fun c2 => ?_) (fun c2 => ?_)
    · exact pX8_countOf_1_K22 hG _ _ _ _ r5 hr5 _
    · refine rf_iinc (lc2 := [some (.ref 11), some (.int l1), some (.int l2), some (.int (l3 + (1 : Int32))), some (.int l4)]) (n := 22) (w := (1 : Int32)) 3 dX8_countOf_19 rfl rfl rfl (Nat.le_of_ble_eq_true rfl) rfl rfl ?_
      exact pX8_countOf_1_K22 hG _ _ _ _ r5 hr5 _
theorem pX8_countOf_1_L5 {x : ax_X} {G : ax_G} (hG : ax_ok G) (l1 : Int32) (l2 : Int32) (n : Nat) (a3 : Int32) (a4 : Int32) (μ : ax_M) : ax_Rf mX8_countOf 0 x (ax_Z ax_jI x G) G 0 0 5 [some (.ref 11), some (.int l1), some (.int l2), some (.int a3), some (.int a4)] [] μ (ax_lp2 (fX8_countOf_1_B5 l1 l2) n a3 a4 μ) :=
  rf_lp2 (P := fun a3 a4 μ t => ax_Rf mX8_countOf 0 x (ax_Z ax_jI x G) G 0 0 5 [some (.ref 11), some (.int l1), some (.int l2), some (.int a3), some (.int a4)] [] μ t) (fun _ _ _ => rf_none) (fun rc hrc a3 a4 μ => pX8_countOf_1_B5 hG l1 l2 rc hrc a3 a4 μ) n a3 a4 μ
def fX8_countOf_1 (p1 : Int32) (p2 : Int32) (μ : ax_M) : Option (Int32 × ax_M) :=
  (ax_lp2 (fX8_countOf_1_B5 p1 p2) ax_FU (0 : Int32) (0 : Int32) μ)
theorem okX8_countOf_1 (p1 : Int32) (p2 : Int32) (μ : ax_M) : ax_Ok mX8_countOf 0 ax_jI [.ref 11, .int p1, .int p2] μ (fX8_countOf_1 p1 p2 μ) := by
  refine ax_start (lc := [some (.ref 11), some (.int p1), some (.int p2), none, none]) 2 (by decide +kernel) rfl (Nat.le_of_ble_eq_true rfl) (fun x G hG => ?_)
  unfold fX8_countOf_1
  refine rf_iconst (n := 1) (0 : Int32) dX8_countOf_0 cciconst_0 rfl ?_
  refine rf_istore_n (lc2 := [some (.ref 11), some (.int p1), some (.int p2), some (.int (0 : Int32)), none]) (n := 2) 3 dX8_countOf_1 rfl rfl (Nat.le_of_ble_eq_true rfl) rfl rfl ?_
  refine rf_iconst (n := 3) (0 : Int32) dX8_countOf_2 cciconst_0 rfl ?_
  refine rf_istore (lc2 := [some (.ref 11), some (.int p1), some (.int p2), some (.int (0 : Int32)), some (.int (0 : Int32))]) (n := 5) 4 dX8_countOf_3 rfl (Nat.le_of_ble_eq_true rfl) rfl rfl ?_
  exact pX8_countOf_1_L5 hG _ _ _ _ _ _
def fX8_cell_K120 (s0 : Int32) (μ : ax_M) : Option ((Int32 × Int32) × ax_M) :=
  (some ((0, s0), μ))
theorem pX8_cell_K120 {x : ax_X} {G : ax_G} (hG : ax_ok G) (s0 : Int32) (μ : ax_M) : ax_Rf mX8_cell 8 x (ax_ZX x G) G 0 0 120 [none, none, none] [.int s0] μ (fX8_cell_K120 s0 μ) := by
  unfold fX8_cell_K120
  exact rf_retX rfl dX8_cell_120
def fX8_cell (p1 : Int32) (p2 : Int32) (μ : ax_M) : Option ((Int32 × Int32) × ax_M) :=
  (ax_bd (fX1_hasCell p1 μ) (fun v1 m2 => (if v1 = 0 then (some ((1, 0), m2)) else (if p2 = (0 : Int32) then (Option.bind (ax_rd m2 7 10 p1) (fun v4 => (some ((0, v4), m2)))) else (if p2 = (1 : Int32) then (Option.bind (ax_rd m2 8 10 p1) (fun v6 => (some ((0, v6), m2)))) else (if p2 = (2 : Int32) then (Option.bind (ax_rd m2 9 10 p1) (fun v8 => (some ((0, v8), m2)))) else (if p2 = (3 : Int32) then (Option.bind (ax_rd m2 10 10 p1) (fun v10 => (some ((0, v10), m2)))) else (if p2 = (4 : Int32) then (ax_bd (fX1_isFlop p1 m2) (fun v12 m13 => (if v12 = 0 then (fX8_cell_K120 (0 : Int32) m13) else (fX8_cell_K120 (1 : Int32) m13)))) else (if p2 = (5 : Int32) then (ax_bd (fX8_countOf (m2.1 2 14) p1 m2) (fun v16 m17 => (some ((0, v16), m17)))) else (if p2 = (6 : Int32) then (ax_bd (fX8_countOf_1 (m2.1 2 14) p1 m2) (fun v19 m20 => (some ((0, v19), m20)))) else (some ((2, 0), m2))))))))))))
theorem pX8_cell (p1 : Int32) (p2 : Int32) (μ : ax_M) {x : ax_X} {G : ax_G} (hG : ax_ok G) (hE : ax_Xe G (ax_xs x)) (hst : x.2.1.stackTraces = false) (htab : ∀ z ∈ (ax_xc x).exceptionTable.toList, False) (hc1 : 1 ≤ (ax_xR x).cells) (hc2 : 6 ≤ (ax_xR x).slots) : ax_Rf mX8_cell 8 x (ax_ZX x G) G 0 0 0 [some (.ref 0), some (.int p1), some (.int p2)] [] μ (fX8_cell p1 p2 μ) := by
  unfold fX8_cell
  refine rf_aload_n (n := 1) 0 dX8_cell_0 rfl rfl rfl ?_
  refine rf_getR (n := 4) rr_0_2 kk_2 hG dX8_cell_1 flX8_16 ki_8_2 sS_0 kk_0 rfl ?_
  refine rf_iload_n (n := 5) 1 dX8_cell_4 rfl rfl rfl ?_
  refine rf_cV1I (n := 8) hG (okX1_hasCell _ _) lVX8_152 hhX1_hasCell kk_2 sS_2 ⟨_, rfl, rfl⟩ dX8_cell_5 rfl (Nat.le_of_ble_eq_true rfl) (Nat.le_of_ble_eq_true rfl) (fun v1 m2 => ?_)
  refine rf_if_ne (tg := 21) (n := 11) dX8_cell_8 rfl rfl (fun c21 => ?_) (fun c21 => ?_)
  · refine rf_iload_n (n := 22) 2 dX8_cell_21 rfl rfl rfl ?_
    refine rf_split (fun c3 => ?_) (fun c3 => ?_)
    · refine rf_tabIn (tg := 64) (0 : Int32) c3 dX8_cell_22 (by decide) rfl rfl ?_
      refine rf_aload_n (n := 65) 0 dX8_cell_64 rfl rfl rfl ?_
      refine rf_getR (n := 68) rr_0_2 kk_2 hG dX8_cell_65 flX8_16 ki_8_2 sS_0 kk_0 rfl ?_
      refine rf_getR (n := 71) rr_2_4 kk_7 hG dX8_cell_68 flX8_182 ki_1_4 sS_2 kk_2 rfl ?_
      refine rf_iload_n (n := 72) 1 dX8_cell_71 rfl rfl rfl ?_
      refine rf_iald (n := 73) hG dX8_cell_72 sS_7 kk_7 rfl (fun v4 => ?_)
      exact rf_retX rfl dX8_cell_73
    · refine rf_split (fun c5 => ?_) (fun c5 => ?_)
      · refine rf_tabIn (tg := 74) (1 : Int32) c5 dX8_cell_22 (by decide) rfl rfl ?_
        refine rf_aload_n (n := 75) 0 dX8_cell_74 rfl rfl rfl ?_
        refine rf_getR (n := 78) rr_0_2 kk_2 hG dX8_cell_75 flX8_16 ki_8_2 sS_0 kk_0 rfl ?_
        refine rf_getR (n := 81) rr_2_5 kk_8 hG dX8_cell_78 flX8_185 ki_1_5 sS_2 kk_2 rfl ?_
        refine rf_iload_n (n := 82) 1 dX8_cell_81 rfl rfl rfl ?_
        refine rf_iald (n := 83) hG dX8_cell_82 sS_8 kk_8 rfl (fun v6 => ?_)
        exact rf_retX rfl dX8_cell_83
      · refine rf_split (fun c7 => ?_) (fun c7 => ?_)
        · refine rf_tabIn (tg := 84) (2 : Int32) c7 dX8_cell_22 (by decide) rfl rfl ?_
          refine rf_aload_n (n := 85) 0 dX8_cell_84 rfl rfl rfl ?_
          refine rf_getR (n := 88) rr_0_2 kk_2 hG dX8_cell_85 flX8_16 ki_8_2 sS_0 kk_0 rfl ?_
          refine rf_getR (n := 91) rr_2_6 kk_9 hG dX8_cell_88 flX8_188 ki_1_6 sS_2 kk_2 rfl ?_
          refine rf_iload_n (n := 92) 1 dX8_cell_91 rfl rfl rfl ?_
          refine rf_iald (n := 93) hG dX8_cell_92 sS_9 kk_9 rfl (fun v8 => ?_)
          exact rf_retX rfl dX8_cell_93
        · refine rf_split (fun c9 => ?_) (fun c9 => ?_)
          · refine rf_tabIn (tg := 94) (3 : Int32) c9 dX8_cell_22 (by decide) rfl rfl ?_
            refine rf_aload_n (n := 95) 0 dX8_cell_94 rfl rfl rfl ?_
            refine rf_getR (n := 98) rr_0_2 kk_2 hG dX8_cell_95 flX8_16 ki_8_2 sS_0 kk_0 rfl ?_
            refine rf_getR (n := 101) rr_2_7 kk_10 hG dX8_cell_98 flX8_191 ki_1_7 sS_2 kk_2 rfl ?_
            refine rf_iload_n (n := 102) 1 dX8_cell_101 rfl rfl rfl ?_
            refine rf_iald (n := 103) hG dX8_cell_102 sS_10 kk_10 rfl (fun v10 => ?_)
            exact rf_retX rfl dX8_cell_103
          · refine rf_split (fun c11 => ?_) (fun c11 => ?_)
            · refine rf_tabIn (tg := 104) (4 : Int32) c11 dX8_cell_22 (by decide) rfl rfl ?_
              refine rf_aload_n (n := 105) 0 dX8_cell_104 rfl rfl rfl ?_
              refine rf_getR (n := 108) rr_0_2 kk_2 hG dX8_cell_105 flX8_16 ki_8_2 sS_0 kk_0 rfl ?_
              refine rf_iload_n (n := 109) 1 dX8_cell_108 rfl rfl rfl ?_
              refine rf_cV1I (n := 112) hG (okX1_isFlop _ _) lVX8_158 hhX1_isFlop kk_2 sS_2 ⟨_, rfl, rfl⟩ dX8_cell_109 rfl (Nat.le_of_ble_eq_true rfl) (Nat.le_of_ble_eq_true rfl) (fun v12 m13 => ?_)
              refine rf_if_eq (tg := 119) (n := 115) dX8_cell_112 rfl rfl (fun c14 => ?_) (fun c14 => ?_)
              · refine rf_iconst (n := 120) (0 : Int32) dX8_cell_119 cciconst_0 rfl ?_
                refine rf_mask (lc2 := [none, none, none]) [false, false, false] rfl ?_
                exact pX8_cell_K120 hG _ _
              · refine rf_iconst (n := 116) (1 : Int32) dX8_cell_115 cciconst_1 rfl ?_
                refine rf_goto (tg := 120) dX8_cell_116 rfl ?_
                refine rf_mask (lc2 := [none, none, none]) [false, false, false] rfl ?_
                exact pX8_cell_K120 hG _ _
            · refine rf_split (fun c15 => ?_) (fun c15 => ?_)
              · refine rf_tabIn (tg := 121) (5 : Int32) c15 dX8_cell_22 (by decide) rfl rfl ?_
                refine rf_aload_n (n := 122) 0 dX8_cell_121 rfl rfl rfl ?_
                refine rf_getR (n := 125) rr_0_2 kk_2 hG dX8_cell_122 flX8_16 ki_8_2 sS_0 kk_0 rfl ?_
                refine rf_getR (n := 128) rr_2_9 kk_12 hG dX8_cell_125 flX8_194 ki_1_9 sS_2 kk_2 rfl ?_
                refine rf_aload_n (n := 129) 0 dX8_cell_128 rfl rfl rfl ?_
                refine rf_getR (n := 132) rr_0_2 kk_2 hG dX8_cell_129 flX8_16 ki_8_2 sS_0 kk_0 rfl ?_
                refine rf_getI (n := 135) hG dX8_cell_132 flX8_197 ki_1_14 sS_2 kk_2 rfl ?_
                refine rf_iload_n (n := 136) 1 dX8_cell_135 rfl rfl rfl ?_
                refine rf_cS3I (n := 139) hG (okX8_countOf _ _ _) lSX8_200 hhX8_countOf dX8_cell_136 rfl (Nat.le_of_ble_eq_true rfl) (Nat.le_of_ble_eq_true rfl) (fun v16 m17 => ?_)
                exact rf_retX rfl dX8_cell_139
              · refine rf_split (fun c18 => ?_) (fun c18 => ?_)
                · refine rf_tabIn (tg := 140) (6 : Int32) c18 dX8_cell_22 (by decide) rfl rfl ?_
                  refine rf_aload_n (n := 141) 0 dX8_cell_140 rfl rfl rfl ?_
                  refine rf_getR (n := 144) rr_0_2 kk_2 hG dX8_cell_141 flX8_16 ki_8_2 sS_0 kk_0 rfl ?_
                  refine rf_getR (n := 147) rr_2_8 kk_11 hG dX8_cell_144 flX8_203 ki_1_8 sS_2 kk_2 rfl ?_
                  refine rf_aload_n (n := 148) 0 dX8_cell_147 rfl rfl rfl ?_
                  refine rf_getR (n := 151) rr_0_2 kk_2 hG dX8_cell_148 flX8_16 ki_8_2 sS_0 kk_0 rfl ?_
                  refine rf_getI (n := 154) hG dX8_cell_151 flX8_197 ki_1_14 sS_2 kk_2 rfl ?_
                  refine rf_iload_n (n := 155) 1 dX8_cell_154 rfl rfl rfl ?_
                  refine rf_cS3I (n := 158) hG (okX8_countOf_1 _ _ _) lSX8_200 hhX8_countOf dX8_cell_155 rfl (Nat.le_of_ble_eq_true rfl) (Nat.le_of_ble_eq_true rfl) (fun v19 m20 => ?_)
                  exact rf_retX rfl dX8_cell_158
                · refine rf_tabOut (tg := 159) [(0 : Int32), (1 : Int32), (2 : Int32), (3 : Int32), (4 : Int32), (5 : Int32), (6 : Int32)] (List.forall_mem_cons.mpr ⟨c3, List.forall_mem_cons.mpr ⟨c5, List.forall_mem_cons.mpr ⟨c7, List.forall_mem_cons.mpr ⟨c9, List.forall_mem_cons.mpr ⟨c11, List.forall_mem_cons.mpr ⟨c15, List.forall_mem_cons.mpr ⟨c18, List.forall_mem_nil _⟩⟩⟩⟩⟩⟩⟩) dX8_cell_22 (by decide) rfl ?_
                  exact rf_thr2 hE hst htab hc1 hc2
  · exact rf_thr1 hE hst htab hc1 hc2
