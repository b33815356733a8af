def RJ1 : String := "java/lang/StringLatin1"
def RJ3 : String := "jdk/internal/util/Preconditions"
theorem dJ0_length_8abf5_0 : decode cJ0_length_8abf5 0 = .ok (.aload_n 0, 1) := by decide +kernel
theorem dJ0_length_8abf5_1 : decode cJ0_length_8abf5 1 = .ok (.getfield 9, 3) := by decide +kernel
theorem dJ0_length_8abf5_4 : decode cJ0_length_8abf5 4 = .ok (.arraylength, 1) := by decide +kernel
theorem dJ0_length_8abf5_5 : decode cJ0_length_8abf5 5 = .ok (.aload_n 0, 1) := by decide +kernel
theorem dJ0_length_8abf5_6 : decode cJ0_length_8abf5 6 = .ok (.invokevirtual 335, 3) := by decide +kernel
theorem dJ0_length_8abf5_9 : decode cJ0_length_8abf5 9 = .ok (.ishr, 1) := by decide +kernel
theorem dJ0_length_8abf5_10 : decode cJ0_length_8abf5 10 = .ok (.ireturn, 1) := by decide +kernel
abbrev mJ0_length_8abf5 : ax_Mi := (yJ0_length_8abf5, cJ0_length_8abf5, 1, (some .int))
theorem hhJ0_length_8abf5 : ax_hd mJ0_length_8abf5 0 := ⟨by decide +kernel, Nat.le_of_ble_eq_true rfl, ax_tbl_of 1390 (by decide +kernel) rfl, ax_tbl_of 13 (by decide +kernel) rfl⟩
theorem dJ0_charAt_5068e_0 : decode cJ0_charAt_5068e 0 = .ok (.aload_n 0, 1) := by decide +kernel
theorem dJ0_charAt_5068e_1 : decode cJ0_charAt_5068e 1 = .ok (.invokevirtual 492, 3) := by decide +kernel
theorem dJ0_charAt_5068e_4 : decode cJ0_charAt_5068e 4 = .ok (.ifCond .eq 12, 3) := by decide +kernel
theorem dJ0_charAt_5068e_7 : decode cJ0_charAt_5068e 7 = .ok (.aload_n 0, 1) := by decide +kernel
theorem dJ0_charAt_5068e_8 : decode cJ0_charAt_5068e 8 = .ok (.getfield 9, 3) := by decide +kernel
theorem dJ0_charAt_5068e_11 : decode cJ0_charAt_5068e 11 = .ok (.iload_n 1, 1) := by decide +kernel
theorem dJ0_charAt_5068e_12 : decode cJ0_charAt_5068e 12 = .ok (.invokestatic 495, 3) := by decide +kernel
theorem dJ0_charAt_5068e_15 : decode cJ0_charAt_5068e 15 = .ok (.ireturn, 1) := by decide +kernel
theorem dJ0_charAt_5068e_16 : decode cJ0_charAt_5068e 16 = .ok (.aload_n 0, 1) := by decide +kernel
theorem dJ0_charAt_5068e_17 : decode cJ0_charAt_5068e 17 = .ok (.getfield 9, 3) := by decide +kernel
theorem dJ0_charAt_5068e_20 : decode cJ0_charAt_5068e 20 = .ok (.iload_n 1, 1) := by decide +kernel
theorem dJ0_charAt_5068e_21 : decode cJ0_charAt_5068e 21 = .ok (.invokestatic 498, 3) := by decide +kernel
theorem dJ0_charAt_5068e_24 : decode cJ0_charAt_5068e 24 = .ok (.ireturn, 1) := by decide +kernel
abbrev mJ0_charAt_5068e : ax_Mi := (yJ0_charAt_5068e, cJ0_charAt_5068e, 2, (some .char))
theorem hhJ0_charAt_5068e : ax_hd mJ0_charAt_5068e 1 := ⟨by decide +kernel, Nat.le_of_ble_eq_true rfl, ax_tbl_of 1400 (by decide +kernel) rfl, ax_tbl_of 13 (by decide +kernel) rfl⟩
theorem dJ0_coder_7d493_0 : decode cJ0_coder_7d493 0 = .ok (.getstatic 38, 3) := by decide +kernel
theorem dJ0_coder_7d493_3 : decode cJ0_coder_7d493 3 = .ok (.ifCond .eq 10, 3) := by decide +kernel
theorem dJ0_coder_7d493_6 : decode cJ0_coder_7d493 6 = .ok (.aload_n 0, 1) := by decide +kernel
theorem dJ0_coder_7d493_7 : decode cJ0_coder_7d493 7 = .ok (.getfield 15, 3) := by decide +kernel
theorem dJ0_coder_7d493_10 : decode cJ0_coder_7d493 10 = .ok (.goto 4, 3) := by decide +kernel
theorem dJ0_coder_7d493_13 : decode cJ0_coder_7d493 13 = .ok (.iconst 1, 1) := by decide +kernel
theorem dJ0_coder_7d493_14 : decode cJ0_coder_7d493 14 = .ok (.ireturn, 1) := by decide +kernel
abbrev mJ0_coder_7d493 : ax_Mi := (yJ0_coder_7d493, cJ0_coder_7d493, 1, (some .byte))
theorem hhJ0_coder_7d493 : ax_hd mJ0_coder_7d493 0 := ⟨by decide +kernel, Nat.le_of_ble_eq_true rfl, ax_tbl_of 1394 (by decide +kernel) rfl, ax_tbl_of 13 (by decide +kernel) rfl⟩
theorem dJ0_isLatin1_aae02_0 : decode cJ0_isLatin1_aae02 0 = .ok (.getstatic 38, 3) := by decide +kernel
theorem dJ0_isLatin1_aae02_3 : decode cJ0_isLatin1_aae02 3 = .ok (.ifCond .eq 14, 3) := by decide +kernel
theorem dJ0_isLatin1_aae02_6 : decode cJ0_isLatin1_aae02 6 = .ok (.aload_n 0, 1) := by decide +kernel
theorem dJ0_isLatin1_aae02_7 : decode cJ0_isLatin1_aae02 7 = .ok (.getfield 15, 3) := by decide +kernel
theorem dJ0_isLatin1_aae02_10 : decode cJ0_isLatin1_aae02 10 = .ok (.ifCond .ne 7, 3) := by decide +kernel
theorem dJ0_isLatin1_aae02_13 : decode cJ0_isLatin1_aae02 13 = .ok (.iconst 1, 1) := by decide +kernel
theorem dJ0_isLatin1_aae02_14 : decode cJ0_isLatin1_aae02 14 = .ok (.goto 4, 3) := by decide +kernel
theorem dJ0_isLatin1_aae02_17 : decode cJ0_isLatin1_aae02 17 = .ok (.iconst 0, 1) := by decide +kernel
theorem dJ0_isLatin1_aae02_18 : decode cJ0_isLatin1_aae02 18 = .ok (.ireturn, 1) := by decide +kernel
abbrev mJ0_isLatin1_aae02 : ax_Mi := (yJ0_isLatin1_aae02, cJ0_isLatin1_aae02, 1, (some .boolean))
theorem hhJ0_isLatin1_aae02 : ax_hd mJ0_isLatin1_aae02 0 := ⟨by decide +kernel, Nat.le_of_ble_eq_true rfl, ax_tbl_of 1404 (by decide +kernel) rfl, ax_tbl_of 13 (by decide +kernel) rfl⟩
theorem dJ0_checkIndex_df160_0 : decode cJ0_checkIndex_df160 0 = .ok (.iload_n 0, 1) := by decide +kernel
theorem dJ0_checkIndex_df160_1 : decode cJ0_checkIndex_df160 1 = .ok (.iload_n 1, 1) := by decide +kernel
theorem dJ0_checkIndex_df160_2 : decode cJ0_checkIndex_df160 2 = .ok (.getstatic 1053, 3) := by decide +kernel
theorem dJ0_checkIndex_df160_5 : decode cJ0_checkIndex_df160 5 = .ok (.invokestatic 1059, 3) := by decide +kernel
theorem dJ0_checkIndex_df160_8 : decode cJ0_checkIndex_df160 8 = .ok (.pop, 1) := by decide +kernel
theorem dJ0_checkIndex_df160_9 : decode cJ0_checkIndex_df160 9 = .ok (.return_, 1) := by decide +kernel
abbrev mJ0_checkIndex_df160 : ax_Mi := (yJ0_checkIndex_df160, cJ0_checkIndex_df160, 2, none)
theorem hhJ0_checkIndex_df160 : ax_hd mJ0_checkIndex_df160 2 := ⟨by decide +kernel, Nat.le_of_ble_eq_true rfl, ax_tbl_of 1410 (by decide +kernel) rfl, ax_tbl_of 13 (by decide +kernel) rfl⟩
abbrev cJ1_charAt_3b067 : ByteArray := prog_21_method_2_code
def yJ1_charAt_3b067 : MethodName := ⟨RJ1, "charAt", "([BI)C"⟩
theorem dJ1_charAt_3b067_0 : decode cJ1_charAt_3b067 0 = .ok (.iload_n 1, 1) := by decide +kernel
theorem dJ1_charAt_3b067_1 : decode cJ1_charAt_3b067 1 = .ok (.aload_n 0, 1) := by decide +kernel
theorem dJ1_charAt_3b067_2 : decode cJ1_charAt_3b067 2 = .ok (.arraylength, 1) := by decide +kernel
theorem dJ1_charAt_3b067_3 : decode cJ1_charAt_3b067 3 = .ok (.invokestatic 9, 3) := by decide +kernel
theorem dJ1_charAt_3b067_6 : decode cJ1_charAt_3b067 6 = .ok (.aload_n 0, 1) := by decide +kernel
theorem dJ1_charAt_3b067_7 : decode cJ1_charAt_3b067 7 = .ok (.iload_n 1, 1) := by decide +kernel
theorem dJ1_charAt_3b067_8 : decode cJ1_charAt_3b067 8 = .ok (.baload, 1) := by decide +kernel
theorem dJ1_charAt_3b067_9 : decode cJ1_charAt_3b067 9 = .ok (.sipush 255, 3) := by decide +kernel
theorem dJ1_charAt_3b067_12 : decode cJ1_charAt_3b067 12 = .ok (.iand, 1) := by decide +kernel
theorem dJ1_charAt_3b067_13 : decode cJ1_charAt_3b067 13 = .ok (.i2c, 1) := by decide +kernel
theorem dJ1_charAt_3b067_14 : decode cJ1_charAt_3b067 14 = .ok (.ireturn, 1) := by decide +kernel
abbrev mJ1_charAt_3b067 : ax_Mi := (yJ1_charAt_3b067, cJ1_charAt_3b067, 2, (some .char))
theorem hhJ1_charAt_3b067 : ax_hd mJ1_charAt_3b067 2 := ⟨by decide +kernel, Nat.le_of_ble_eq_true rfl, ax_tbl_of 1407 (by decide +kernel) rfl, ax_tbl_of 14 (by decide +kernel) rfl⟩
abbrev cJ3_checkIndex_8e157 : ByteArray := prog_29_method_11_code
def yJ3_checkIndex_8e157 : MethodName := ⟨RJ3, "checkIndex", "(IILjava/util/function/BiFunction;)I"⟩
theorem dJ3_checkIndex_8e157_0 : decode cJ3_checkIndex_8e157 0 = .ok (.iload_n 0, 1) := by decide +kernel
theorem dJ3_checkIndex_8e157_1 : decode cJ3_checkIndex_8e157 1 = .ok (.ifCond .lt 8, 3) := by decide +kernel
theorem dJ3_checkIndex_8e157_4 : decode cJ3_checkIndex_8e157 4 = .ok (.iload_n 0, 1) := by decide +kernel
theorem dJ3_checkIndex_8e157_5 : decode cJ3_checkIndex_8e157 5 = .ok (.iload_n 1, 1) := by decide +kernel
theorem dJ3_checkIndex_8e157_6 : decode cJ3_checkIndex_8e157 6 = .ok (.if_icmp .lt 10, 3) := by decide +kernel
theorem dJ3_checkIndex_8e157_9 : decode cJ3_checkIndex_8e157 9 = .ok (.aload_n 2, 1) := by decide +kernel
theorem dJ3_checkIndex_8e157_10 : decode cJ3_checkIndex_8e157 10 = .ok (.iload_n 0, 1) := by decide +kernel
theorem dJ3_checkIndex_8e157_11 : decode cJ3_checkIndex_8e157 11 = .ok (.iload_n 1, 1) := by decide +kernel
theorem dJ3_checkIndex_8e157_12 : decode cJ3_checkIndex_8e157 12 = .ok (.invokestatic 95, 3) := by decide +kernel
theorem dJ3_checkIndex_8e157_15 : decode cJ3_checkIndex_8e157 15 = .ok (.athrow, 1) := by decide +kernel
theorem dJ3_checkIndex_8e157_16 : decode cJ3_checkIndex_8e157 16 = .ok (.iload_n 0, 1) := by decide +kernel
theorem dJ3_checkIndex_8e157_17 : decode cJ3_checkIndex_8e157 17 = .ok (.ireturn, 1) := by decide +kernel
abbrev mJ3_checkIndex_8e157 : ax_Mi := (yJ3_checkIndex_8e157, cJ3_checkIndex_8e157, 3, (some .int))
theorem hhJ3_checkIndex_8e157 : ax_hd mJ3_checkIndex_8e157 3 := ⟨by decide +kernel, Nat.le_of_ble_eq_true rfl, ax_tbl_of 1415 (by decide +kernel) rfl, ax_tbl_of 15 (by decide +kernel) rfl⟩
theorem lVX9_144 : ax_lV RX9 144 mJ0_length_8abf5 := ⟨ax_tbl_of 1387 (by decide +kernel) rfl, ax_tbl_of 1388 (by decide +kernel) rfl, ax_tbl_of 1389 (by decide +kernel) rfl⟩
theorem lVX9_149 : ax_lV RX9 149 mJ0_charAt_5068e := ⟨ax_tbl_of 1397 (by decide +kernel) rfl, ax_tbl_of 1398 (by decide +kernel) rfl, ax_tbl_of 1399 (by decide +kernel) rfl⟩
theorem lVJ0_335 : ax_lV RJ0 335 mJ0_coder_7d493 := ⟨ax_tbl_of 1391 (by decide +kernel) rfl, ax_tbl_of 1392 (by decide +kernel) rfl, ax_tbl_of 1393 (by decide +kernel) rfl⟩
theorem lVJ0_492 : ax_lV RJ0 492 mJ0_isLatin1_aae02 := ⟨ax_tbl_of 1401 (by decide +kernel) rfl, ax_tbl_of 1402 (by decide +kernel) rfl, ax_tbl_of 1403 (by decide +kernel) rfl⟩
theorem lSJ0_495 : ax_lS RJ0 495 mJ1_charAt_3b067 := ⟨ax_tbl_of 1405 (by decide +kernel) rfl, ax_tbl_of 1406 (by decide +kernel) rfl⟩
theorem lSJ1_9 : ax_lS RJ1 9 mJ0_checkIndex_df160 := ⟨ax_tbl_of 1408 (by decide +kernel) rfl, ax_tbl_of 1409 (by decide +kernel) rfl⟩
theorem lSJ0_1059 : ax_lS RJ0 1059 mJ3_checkIndex_8e157 := ⟨ax_tbl_of 1413 (by decide +kernel) rfl, ax_tbl_of 1414 (by decide +kernel) rfl⟩
section AXS
variable {β : Type} {M : ax_Mi} {d : Nat} {x : ax_X} {Z : β → ax_M → State → Prop} {G : ax_G} {n1 n2 pc n : Nat} {lc : List (Option Value)} {st : List Value} {μ : ax_M} {t : Option (β × ax_M)}
def ax_bt (i : Int32) : Option Int32 := if ax_in i 39 = true then some (ax_wb.getD i.toNatClampNeg 0) else none
theorem rf_gsC {idx : Nat} (hd : decode M.2.1 pc = .ok (.getstatic idx, 3)) (hw : Cond.fieldLink M.1.cls idx "java/lang/String" "COMPACT_STRINGS" "Z" ∈ ax_tbl) (hn : pc + 3 = n) (k : ax_Rf M d x Z G n1 n2 n lc (.int 1 :: st) μ t) : ax_Rf M d x Z G n1 n2 pc lc st μ t := by
  subst hn
  intro r μ2 ht hC h1 h2 H locs ls hR hS hl
  exact va_gets hC.1 hC.2.1 hC.2.2.2.2.2.2.2.1.2.2.1 hS hC.2.2.2.1 (hC.2.2.2.2.1 _ hw) (fun _ h => h) hd (k r μ2 ht hC h1 h2 H locs ls hR hS hl)
theorem rf_gsF {idx : Nat} (hd : decode M.2.1 pc = .ok (.getstatic idx, 3)) (hw : Cond.fieldLink M.1.cls idx "jdk/internal/util/Preconditions" "SIOOBE_FORMATTER" "Ljava/util/function/BiFunction;" ∈ ax_tbl) (hn : pc + 3 = n) (k : ax_Rf M d x Z G n1 n2 n lc (.null :: st) μ t) (k2 : ax_Rf M d x Z G n1 n2 n lc (.ref 1000003 :: st) μ t) : ax_Rf M d x Z G n1 n2 pc lc st μ t := by
  subst hn
  intro r μ2 ht hC h1 h2 H locs ls hR hS hl
  obtain ⟨v, hv, hz⟩ := hC.2.2.2.2.2.2.2.1.2.2.2.1
  refine va_gets hC.1 hC.2.1 hz hS hC.2.2.2.1 (hC.2.2.2.2.1 _ hw) (fun _ h => h) hd ?_
  rcases hv with rfl | rfl
  · exact k r μ2 ht hC h1 h2 H locs ls hR hS hl
  · exact k2 r μ2 ht hC h1 h2 H locs ls hR hS hl
theorem rf_sgc {idx : Nat} (hd : decode M.2.1 pc = .ok (.getfield idx, 3)) (hw : Cond.fieldLink M.1.cls idx "java/lang/String" "coder" "B" ∈ ax_tbl) (hn : pc + 3 = n) (k : ax_Rf M d x Z G n1 n2 n lc (.int 0 :: st) μ t) : ax_Rf M d x Z G n1 n2 pc lc (.ref 1000000 :: st) μ t := by
  subst hn
  intro r μ2 ht hC h1 h2 H locs ls hR hS hl
  exact vk_getf hC.1 hC.2.1 (hC.2.2.2.2.2.2.2.1.2.2.2.2.1.1 0 (by decide)).2.1 hS hC.2.2.2.1 (hC.2.2.2.2.1 _ hw) (fun _ h => h) hd (k r μ2 ht hC h1 h2 H locs ls hR hS hl)
theorem rf_sgv {idx : Nat} (hd : decode M.2.1 pc = .ok (.getfield idx, 3)) (hw : Cond.fieldLink M.1.cls idx "java/lang/String" "value" "[B" ∈ ax_tbl) (hn : pc + 3 = n) (k : ax_Rf M d x Z G n1 n2 n lc (.ref 1000002 :: st) μ t) : ax_Rf M d x Z G n1 n2 pc lc (.ref 1000000 :: st) μ t := by
  subst hn
  intro r μ2 ht hC h1 h2 H locs ls hR hS hl
  exact vk_getf hC.1 hC.2.1 (hC.2.2.2.2.2.2.2.1.2.2.2.2.1.1 0 (by decide)).2.2.1 hS hC.2.2.2.1 (hC.2.2.2.2.1 _ hw) (fun _ h => h) hd (k r μ2 ht hC h1 h2 H locs ls hR hS hl)
theorem rf_stb {i : Int32} {f : Int32 → Option (β × ax_M)} (hd : decode M.2.1 pc = .ok (.baload, 1)) (hn : pc + 1 = n) (k : ∀ v, ax_Rf M d x Z G n1 n2 n lc (.int v :: st) μ (f v)) : ax_Rf M d x Z G n1 n2 pc lc (.int i :: .ref 1000002 :: st) μ (Option.bind (ax_bt i) f) := by
  subst hn
  intro r μ2 ht hC h1 h2 H locs ls hR hS hl
  by_cases hz : ax_in i 39 = true
  · simp only [ax_bt, if_pos hz, Option.bind_some] at ht
    exact va_tb hC.1 hC.2.1 (hC.2.2.2.2.2.2.2.1.2.2.2.2.1.1 0 (by decide)).2.2.2 hS (ax_in_vp hz) (v := .int (ax_wb.getD i.toNatClampNeg 0)) rfl hd (k _ r μ2 ht hC h1 h2 H locs ls hR hS hl)
  · simp [ax_bt, hz] at ht
theorem rf_stl (hd : decode M.2.1 pc = .ok (.arraylength, 1)) (hn : pc + 1 = n) (k : ax_Rf M d x Z G n1 n2 n lc (.int 39 :: st) μ t) : ax_Rf M d x Z G n1 n2 pc lc (.ref 1000002 :: st) μ t := by
  subst hn
  intro r μ2 ht hC h1 h2 H locs ls hR hS hl
  exact va_tlen hC.1 hC.2.1 (hC.2.2.2.2.2.2.2.1.2.2.2.2.1.1 0 (by decide)).2.2.2 hS (v := 39) rfl hd (k r μ2 ht hC h1 h2 H locs ls hR hS hl)
theorem rf_i2c {a : Int32} (hd : decode M.2.1 pc = .ok (.i2c, 1)) (hn : pc + 1 = n) (k : ax_Rf M d x Z G n1 n2 n lc (.int (a.toUInt32 % 65536).toInt32 :: st) μ t) : ax_Rf M d x Z G n1 n2 pc lc (.int a :: st) μ t := by
  subst hn
  intro r μ2 ht hC h1 h2 H locs ls hR hS hl
  exact lv_i2c hC.1 hC.2.1 hd rfl (k r μ2 ht hC h1 h2 H locs ls hR hS hl)
theorem rf_popI {a : Int32} (hd : decode M.2.1 pc = .ok (.pop, 1)) (hn : pc + 1 = n) (k : ax_Rf M d x Z G n1 n2 n lc st μ t) : ax_Rf M d x Z G n1 n2 pc lc (.int a :: st) μ t := by
  subst hn
  intro r μ2 ht hC h1 h2 H locs ls hR hS hl
  exact lv_pop hC.1 hC.2.1 hd rfl (k r μ2 ht hC h1 h2 H locs ls hR hS hl)
theorem ax_tret {p : Program} {l : Launch} {e : Env} {R : Room} {s : State} {m : MethodId} {args : Array Value} {below : List Frame} {meth : Method} {c : Code} {H : Heap} {locs : List Loc} {cells slots : Nat} {cc : ByteArray} {Qc : Array Value → State → Outcome → State → Prop} {free : Addr → Prop} {v v2 : Int32} {ty : FieldType} (hexec : p.tables.exec = Jvm.exec) (hb : c.code = cc) (hr : meth.sig.returnType = some ty) (hn : narrow ty (.int v) = .int v2)
    (hq : ∀ t : State, t.heap = H → s.WarmedH t.vm → Qc args s (.returned (some (.int v2))) t) (hf : ∀ q ∈ locs, free q.base)
    {pc : Nat} {ls : Array Slot} (hdg : decode cc pc = .ok (.ireturn, 1)) (hlocks : meth.locks = false) : W p l e R s m args below meth c H locs cells slots (MQ below Qc args s cells slots free) (F0 m pc ls [.int v]) := by
  intro T hT X
  obtain ⟨fs, hret, hrun, hended, hW, hframe⟩ := X.leave (v := some (.int v2)) (fun h => by rw [hr] at h; cases h)
  have hmeth' : T.vm.method? m = some meth := X.method'
  refine ⟨T.setFrames fs, ?_, .returned (some (.int v2)), hrun, hended, hq _ hT hW, locs, ⟨⟨_, rfl⟩, hW, hframe⟩, hf⟩
  jvm_step X.here [X.here.top, hexec, hb, hdg, hmeth', hr, hn]
  (try refine ⟨rfl, ?_⟩); (try refine ⟨rfl, ?_⟩)
  first | (intro acts; rw [hret _ acts rfl rfl rfl]) | rw [hret _ _ rfl rfl rfl]
  exact Steps.refl _
theorem rf_retT {v : Int32} {ty : FieldType} (hr : M.2.2.2 = some ty) (hn : narrow ty (.int v) = .int (vp_nar ty v)) (hd : decode M.2.1 pc = .ok (.ireturn, 1)) : ax_Rf M d x (ax_Z ax_jI x G) G 0 0 pc lc [.int v] μ (some (vp_nar ty v, μ)) := by
  intro r μ2 ht hC h1 h2 H locs ls hR hS hl
  cases ht
  exact ax_tret hC.1 hC.2.1 (hC.2.2.2.2.2.1.trans hr) hn (fun t ht hW => ⟨rfl, by rw [ht]; exact hR, hS.F ht⟩) hS.2.2 hd hC.2.2.2.2.2.2.1
theorem rf_cX {α : Type} {J : α → Option Value} {M2 : ax_Mi} {d2 idx na : Nat} {As st0 : List Value} {τ : Option (α × ax_M)} {f : α → ax_M → Option (β × ax_M)} (hJ : ∀ (v : α), (J v).toList.map (ax_sh G) = (J v).toList) (hG : ax_ok G) (hM : ax_Ok M2 d2 J (.ref 1000000 :: As) μ τ) (hl2 : ax_lV M.1.cls idx M2) (hh : ax_hd M2 na) (hcl : M2.1.cls = "java/lang/String")
    (hd : decode M.2.1 pc = .ok (.invokevirtual idx, 3)) (hn : pc + 3 = n) (hdd : d2 + 1 ≤ d) (hAs : As.length = na) (hst : st0 = As.reverse ++ .ref 1000000 :: st) (hcat : (st.map fun v => v.category).sum ≤ 8)
    (k : ∀ v μ3, ax_Rf M d x Z G n1 n2 n lc ((J v).toList ++ st) μ3 (f v μ3)) : ax_Rf M d x Z G n1 n2 pc lc st0 μ (ax_bd τ f) := by
  subst hn
  subst hst
  intro r μ2 ht hC h1 h2 H locs ls hR hS hl
  cases hτ : τ with
  | none => rw [hτ] at ht; cases ht
  | some y =>
    obtain ⟨v, μ3⟩ := y
    rw [hτ] at ht
    have hcw := cwV (R := ax_xR x) (s := ax_xs x) (args := ax_xa x) (own := M.1.cls) (C := M2.1.cls) (index := idx) (y := M2.1) (bytes := M2.2.1) (maxL := M2.2.2.1) (ret := M2.2.2.2) (ws := ax_mw M2) (rm := ax_room d2) (mc := 0) (ms := 0) na hC.2.2.2.2.1 (by
        intro w hw
        unfold wsV at hw
        simp only [List.mem_append, List.mem_cons, List.not_mem_nil, or_false] at hw
        rcases hw with (rfl | rfl | rfl | rfl) | hw
        · exact ax_goodw hl2.1
        · exact ax_goodw hl2.2.1
        · exact ax_goodw hl2.2.2
        · exact ax_goodw hh.2.2.2
        · exact ax_mw_good hh.2.2.1 w hw) rfl rfl rfl ⟨rfl, hh.1⟩ (ax_roomok hC hh.2.1 hdd)
    have hrec := vk_recv (H := H) (locs := locs) hC.2.2.2.2.2.2.2.1.2.2.2.2.1 (i := 0) (by decide) hS
    rw [← hcl] at hrec
    have hs0 : ax_sh G (.ref 1000000) = .ref (ax_gx G 1000000) := rfl
    have hrun := va_runV (p := x.1) (l := x.2.1) (e := x.2.2.1) (m := ax_xm x) (below := ax_xb x) (meth := ax_xh x) (c := ax_xc x) (H := H) (locs := locs) (cells := n1) (slots := n2) (b := ax_gx G 1000000) (As := As.map (ax_sh G)) (rest := st.map (ax_sh G)) (g := F0 (ax_xm x) pc ls ((As.reverse ++ .ref 1000000 :: st).map (ax_sh G))) ⟨hC.1, hC.2.1, hC.2.2.1, hC.2.2.2.1, hC.2.2.2.2.1⟩ (hM x.2.1 G hG v μ3 hτ) hcw
      ⟨ax_blind G μ _, hrec, fun U hU hW => ⟨by simp [hs0], ax_pre (M2 := M2) hC hR hS U hU hW⟩⟩ rfl (by rw [List.length_map]; exact hAs) hl.1 (by simp [hs0]) (lv_room (by rw [ax_catsum]; exact hcat)) hd ⟨h1, h2⟩
    refine ax_go hrun hS (fun H3 locs3 hR3 hS3 => ?_)
    have h4 := k v μ3 r μ2 ht hC h1 h2 H3 locs3 ls hR3 hS3 hl
    have e5 : ((J v).toList ++ st).map (ax_sh G) = (J v).toList.map (ax_sh G) ++ st.map (ax_sh G) := List.map_append
    rw [e5, hJ v] at h4
    exact h4
theorem rf_cX0I {M2 : ax_Mi} {d2 idx : Nat} {τ : Option (Int32 × ax_M)} {f : Int32 → ax_M → Option (β × ax_M)} (hG : ax_ok G) (hM : ax_Ok M2 d2 ax_jI (.ref 1000000 :: []) μ τ) (hl2 : ax_lV M.1.cls idx M2) (hh : ax_hd M2 0) (hcl : M2.1.cls = "java/lang/String") (hd : decode M.2.1 pc = .ok (.invokevirtual idx, 3)) (hn : pc + 3 = n) (hdd : d2 + 1 ≤ d) (hcat : (st.map fun v => v.category).sum ≤ 8) (k : ∀ v μ3, ax_Rf M d x Z G n1 n2 n lc (.int v :: st) μ3 (f v μ3)) : ax_Rf M d x Z G n1 n2 pc lc (.ref 1000000 :: st) μ (ax_bd τ f) :=
  rf_cX (As := []) (ax_jI_sh G) hG hM hl2 hh hcl hd hn hdd rfl rfl hcat k
theorem rf_cX1I {M2 : ax_Mi} {d2 idx : Nat} {a0 : Value} {τ : Option (Int32 × ax_M)} {f : Int32 → ax_M → Option (β × ax_M)} (hG : ax_ok G) (hM : ax_Ok M2 d2 ax_jI (.ref 1000000 :: [a0]) μ τ) (hl2 : ax_lV M.1.cls idx M2) (hh : ax_hd M2 1) (hcl : M2.1.cls = "java/lang/String") (hd : decode M.2.1 pc = .ok (.invokevirtual idx, 3)) (hn : pc + 3 = n) (hdd : d2 + 1 ≤ d) (hcat : (st.map fun v => v.category).sum ≤ 8) (k : ∀ v μ3, ax_Rf M d x Z G n1 n2 n lc (.int v :: st) μ3 (f v μ3)) : ax_Rf M d x Z G n1 n2 pc lc (a0 :: .ref 1000000 :: st) μ (ax_bd τ f) :=
  rf_cX (As := [a0]) (ax_jI_sh G) hG hM hl2 hh hcl hd hn hdd rfl rfl hcat k
theorem rf_ldcS {idx : Nat} (hi : idx = 142) (hc : M.1.cls = "LatchTimesModel") (hd : decode M.2.1 pc = .ok (.ldc idx, 2)) (hn : pc + 2 = n) (k : ax_Rf M d x Z G n1 n2 n lc (.ref 1000000 :: st) μ t) : ax_Rf M d x Z G n1 n2 pc lc st μ t := by
  subst hn
  subst hi
  intro r μ2 ht hC h1 h2 H locs ls hR hS hl
  have ho := hC.2.2.2.1
  rw [hc] at ho
  exact va_ldcS hC.1 hC.2.1 ho hC.2.2.2.2.2.2.2.1.2.2.2.2.2 hd (k r μ2 ht hC h1 h2 H locs ls hR hS hl)
end AXS
def fJ3_ci (i n : Int32) (μ : ax_M) : Option (Int32 × ax_M) := if i < 0 then none else if i < n then some (i, μ) else none
theorem okJ3_ciN (i n : Int32) (μ : ax_M) : ax_Ok mJ3_checkIndex_8e157 0 ax_jI [.int i, .int n, .null] μ (fJ3_ci i n μ) := by
  refine ax_start (lc := [some (.int i), some (.int n), some (.null)]) 0 (by decide) rfl (Nat.le_of_ble_eq_true rfl) (fun x G hG => ?_)
  unfold fJ3_ci
  refine rf_iload_n (n := 1) 0 dJ3_checkIndex_8e157_0 rfl rfl rfl ?_
  refine rf_if_lt (tg := 9) (n := 4) dJ3_checkIndex_8e157_1 rfl rfl (fun c1 => rf_none) (fun c1 => ?_)
  refine rf_iload_n (n := 5) 0 dJ3_checkIndex_8e157_4 rfl rfl rfl ?_
  refine rf_iload_n (n := 6) 1 dJ3_checkIndex_8e157_5 rfl rfl rfl ?_
  refine rf_icmp_lt (tg := 16) (n := 9) dJ3_checkIndex_8e157_6 rfl rfl (fun c2 => ?_) (fun c2 => rf_none)
  refine rf_iload_n (n := 17) 0 dJ3_checkIndex_8e157_16 rfl rfl rfl ?_
  exact rf_retI rfl dJ3_checkIndex_8e157_17
theorem okJ3_ciR (i n : Int32) (μ : ax_M) : ax_Ok mJ3_checkIndex_8e157 0 ax_jI [.int i, .int n, .ref 1000003] μ (fJ3_ci i n μ) := by
  refine ax_start (lc := [some (.int i), some (.int n), some (.ref 1000003)]) 0 (by decide) rfl (Nat.le_of_ble_eq_true rfl) (fun x G hG => ?_)
  unfold fJ3_ci
  refine rf_iload_n (n := 1) 0 dJ3_checkIndex_8e157_0 rfl rfl rfl ?_
  refine rf_if_lt (tg := 9) (n := 4) dJ3_checkIndex_8e157_1 rfl rfl (fun c1 => rf_none) (fun c1 => ?_)
  refine rf_iload_n (n := 5) 0 dJ3_checkIndex_8e157_4 rfl rfl rfl ?_
  refine rf_iload_n (n := 6) 1 dJ3_checkIndex_8e157_5 rfl rfl rfl ?_
  refine rf_icmp_lt (tg := 16) (n := 9) dJ3_checkIndex_8e157_6 rfl rfl (fun c2 => ?_) (fun c2 => rf_none)
  refine rf_iload_n (n := 17) 0 dJ3_checkIndex_8e157_16 rfl rfl rfl ?_
  exact rf_retI rfl dJ3_checkIndex_8e157_17
def fJ0_ci (i n : Int32) (μ : ax_M) : Option (Unit × ax_M) := ax_bd (fJ3_ci i n μ) (fun _ m => some ((), m))
theorem okJ0_ci (i n : Int32) (μ : ax_M) : ax_Ok mJ0_checkIndex_df160 1 ax_jV [.int i, .int n] μ (fJ0_ci i n μ) := by
  refine ax_start (lc := [some (.int i), some (.int n)]) 0 (by decide) rfl (Nat.le_of_ble_eq_true rfl) (fun x G hG => ?_)
  unfold fJ0_ci
  refine rf_iload_n (n := 1) 0 dJ0_checkIndex_df160_0 rfl rfl rfl ?_
  refine rf_iload_n (n := 2) 1 dJ0_checkIndex_df160_1 rfl rfl rfl ?_
  refine rf_gsF (n := 5) dJ0_checkIndex_df160_2 (ax_tbl_of 1411 (by decide +kernel) rfl) rfl ?_ ?_
  · refine rf_cS3I (n := 8) hG (okJ3_ciN _ _ _) lSJ0_1059 hhJ3_checkIndex_8e157 dJ0_checkIndex_df160_5 rfl (Nat.le_of_ble_eq_true rfl) (Nat.le_of_ble_eq_true rfl) (fun v m => ?_)
    refine rf_popI (n := 9) dJ0_checkIndex_df160_8 rfl ?_
    exact rf_retV rfl dJ0_checkIndex_df160_9
  · refine rf_cS3I (n := 8) hG (okJ3_ciR _ _ _) lSJ0_1059 hhJ3_checkIndex_8e157 dJ0_checkIndex_df160_5 rfl (Nat.le_of_ble_eq_true rfl) (Nat.le_of_ble_eq_true rfl) (fun v m => ?_)
    refine rf_popI (n := 9) dJ0_checkIndex_df160_8 rfl ?_
    exact rf_retV rfl dJ0_checkIndex_df160_9
def fJ1_ca (i : Int32) (μ : ax_M) : Option (Int32 × ax_M) := ax_bd (fJ0_ci i 39 μ) (fun _ m => Option.bind (ax_bt i) (fun v => some (vp_nar .char ((v &&& 255).toUInt32 % 65536).toInt32, m)))
theorem okJ1_ca (i : Int32) (μ : ax_M) : ax_Ok mJ1_charAt_3b067 2 ax_jI [.ref 1000002, .int i] μ (fJ1_ca i μ) := by
  refine ax_start (lc := [some (.ref 1000002), some (.int i)]) 0 (by decide) rfl (Nat.le_of_ble_eq_true rfl) (fun x G hG => ?_)
  unfold fJ1_ca
  refine rf_iload_n (n := 1) 1 dJ1_charAt_3b067_0 rfl rfl rfl ?_
  refine rf_aload_n (n := 2) 0 dJ1_charAt_3b067_1 rfl rfl rfl ?_
  refine rf_stl (n := 3) dJ1_charAt_3b067_2 rfl ?_
  refine rf_cS2V (n := 6) hG (okJ0_ci _ _ _) lSJ1_9 hhJ0_checkIndex_df160 dJ1_charAt_3b067_3 rfl (Nat.le_of_ble_eq_true rfl) (Nat.le_of_ble_eq_true rfl) (fun _ m => ?_)
  refine rf_aload_n (n := 7) 0 dJ1_charAt_3b067_6 rfl rfl rfl ?_
  refine rf_iload_n (n := 8) 1 dJ1_charAt_3b067_7 rfl rfl rfl ?_
  refine rf_stb (n := 9) dJ1_charAt_3b067_8 rfl (fun v => ?_)
  refine rf_sipush (n := 12) (255 : Int32) dJ1_charAt_3b067_9 (by decide) rfl ?_
  refine rf_iand (n := 13) dJ1_charAt_3b067_12 rfl ?_
  refine rf_i2c (n := 14) dJ1_charAt_3b067_13 rfl ?_
  exact rf_retT rfl rfl dJ1_charAt_3b067_14
def fJ0_cd (μ : ax_M) : Option (Int32 × ax_M) := some (vp_nar .byte 0, μ)
theorem okJ0_cd (μ : ax_M) : ax_Ok mJ0_coder_7d493 0 ax_jI [.ref 1000000] μ (fJ0_cd μ) := by
  refine ax_start (lc := [some (.ref 1000000)]) 0 (by decide) rfl (Nat.le_of_ble_eq_true rfl) (fun x G hG => ?_)
  unfold fJ0_cd
  refine rf_gsC (n := 3) dJ0_coder_7d493_0 (ax_tbl_of 1395 (by decide +kernel) rfl) rfl ?_
  have key : ∀ {x : ax_X} {G : ax_G}, ax_ok G → ax_Rf mJ0_coder_7d493 0 x (ax_Z ax_jI x G) G 0 0 6 [some (.ref 1000000)] [] μ (some (vp_nar .byte 0, μ)) := by
    intro x G hG
    refine rf_aload_n (n := 7) 0 dJ0_coder_7d493_6 rfl rfl rfl ?_
    refine rf_sgc (n := 10) dJ0_coder_7d493_7 (ax_tbl_of 1836 (by decide +kernel) rfl) rfl ?_
    refine rf_goto (tg := 14) dJ0_coder_7d493_10 rfl ?_
    exact rf_retT rfl rfl dJ0_coder_7d493_14
  have h2 := rf_if_eq (a := 1) (β := Int32) (M := mJ0_coder_7d493) (d := 0) (x := x) (Z := ax_Z ax_jI x G) (G := G) (n1 := 0) (n2 := 0) (lc := [some (.ref 1000000)]) (st := []) (μ := μ) (tT := none) (tF := some (vp_nar .byte 0, μ)) (tg := 13) (n := 6) dJ0_coder_7d493_3 rfl rfl (fun _ => rf_none) (fun _ => key hG)
  exact h2
def fJ0_il (μ : ax_M) : Option (Int32 × ax_M) := some (1, μ)
theorem okJ0_il (μ : ax_M) : ax_Ok mJ0_isLatin1_aae02 0 ax_jI [.ref 1000000] μ (fJ0_il μ) := by
  refine ax_start (lc := [some (.ref 1000000)]) 0 (by decide) rfl (Nat.le_of_ble_eq_true rfl) (fun x G hG => ?_)
  unfold fJ0_il
  refine rf_gsC (n := 3) dJ0_isLatin1_aae02_0 (ax_tbl_of 1395 (by decide +kernel) rfl) rfl ?_
  have key2 : ∀ {x : ax_X} {G : ax_G}, ax_ok G → ax_Rf mJ0_isLatin1_aae02 0 x (ax_Z ax_jI x G) G 0 0 13 [some (.ref 1000000)] [] μ (some (1, μ)) := by
    intro x G hG
    refine rf_iconst (n := 14) 1 dJ0_isLatin1_aae02_13 (by decide) rfl ?_
    refine rf_goto (tg := 18) dJ0_isLatin1_aae02_14 rfl ?_
    exact rf_retB rfl (Or.inr rfl) dJ0_isLatin1_aae02_18
  have key : ∀ {x : ax_X} {G : ax_G}, ax_ok G → ax_Rf mJ0_isLatin1_aae02 0 x (ax_Z ax_jI x G) G 0 0 6 [some (.ref 1000000)] [] μ (some (1, μ)) := by
    intro x G hG
    refine rf_aload_n (n := 7) 0 dJ0_isLatin1_aae02_6 rfl rfl rfl ?_
    refine rf_sgc (n := 10) dJ0_isLatin1_aae02_7 (ax_tbl_of 1836 (by decide +kernel) rfl) rfl ?_
    have h2 := rf_if_ne (a := 0) (β := Int32) (M := mJ0_isLatin1_aae02) (d := 0) (x := x) (Z := ax_Z ax_jI x G) (G := G) (n1 := 0) (n2 := 0) (lc := [some (.ref 1000000)]) (st := []) (μ := μ) (tT := none) (tF := some (1, μ)) (tg := 17) (n := 13) dJ0_isLatin1_aae02_10 rfl rfl (fun _ => rf_none) (fun _ => key2 hG)
    exact h2
  have h2 := rf_if_eq (a := 1) (β := Int32) (M := mJ0_isLatin1_aae02) (d := 0) (x := x) (Z := ax_Z ax_jI x G) (G := G) (n1 := 0) (n2 := 0) (lc := [some (.ref 1000000)]) (st := []) (μ := μ) (tT := none) (tF := some (1, μ)) (tg := 17) (n := 6) dJ0_isLatin1_aae02_3 rfl rfl (fun _ => rf_none) (fun _ => key hG)
  exact h2
def fJ0_len (μ : ax_M) : Option (Int32 × ax_M) := ax_bd (fJ0_cd μ) (fun v m => some ((39 : Int32) >>> (v &&& 31), m))
theorem okJ0_len (μ : ax_M) : ax_Ok mJ0_length_8abf5 1 ax_jI [.ref 1000000] μ (fJ0_len μ) := by
  refine ax_start (lc := [some (.ref 1000000)]) 0 (by decide) rfl (Nat.le_of_ble_eq_true rfl) (fun x G hG => ?_)
  unfold fJ0_len
  refine rf_aload_n (n := 1) 0 dJ0_length_8abf5_0 rfl rfl rfl ?_
  refine rf_sgv (n := 4) dJ0_length_8abf5_1 (ax_tbl_of 1835 (by decide +kernel) rfl) rfl ?_
  refine rf_stl (n := 5) dJ0_length_8abf5_4 rfl ?_
  refine rf_aload_n (n := 6) 0 dJ0_length_8abf5_5 rfl rfl rfl ?_
  refine rf_cX0I (n := 9) hG (okJ0_cd _) lVJ0_335 hhJ0_coder_7d493 rfl dJ0_length_8abf5_6 rfl (Nat.le_of_ble_eq_true rfl) (Nat.le_of_ble_eq_true rfl) (fun v m => ?_)
  refine rf_ishr (n := 10) dJ0_length_8abf5_9 rfl ?_
  exact rf_retI rfl dJ0_length_8abf5_10
def fJ0_cA (i : Int32) (μ : ax_M) : Option (Int32 × ax_M) := ax_bd (fJ0_il μ) (fun v m => if v = 0 then none else ax_bd (fJ1_ca i m) (fun v m => some (vp_nar .char v, m)))
theorem okJ0_cA (i : Int32) (μ : ax_M) : ax_Ok mJ0_charAt_5068e 3 ax_jI [.ref 1000000, .int i] μ (fJ0_cA i μ) := by
  refine ax_start (lc := [some (.ref 1000000), some (.int i)]) 0 (by decide) rfl (Nat.le_of_ble_eq_true rfl) (fun x G hG => ?_)
  unfold fJ0_cA
  refine rf_aload_n (n := 1) 0 dJ0_charAt_5068e_0 rfl rfl rfl ?_
  refine rf_cX0I (n := 4) hG (okJ0_il _) lVJ0_492 hhJ0_isLatin1_aae02 rfl dJ0_charAt_5068e_1 rfl (Nat.le_of_ble_eq_true rfl) (Nat.le_of_ble_eq_true rfl) (fun v m => ?_)
  refine rf_if_eq (tg := 16) (n := 7) dJ0_charAt_5068e_4 rfl rfl (fun c1 => rf_none) (fun c1 => ?_)
  refine rf_aload_n (n := 8) 0 dJ0_charAt_5068e_7 rfl rfl rfl ?_
  refine rf_sgv (n := 11) dJ0_charAt_5068e_8 (ax_tbl_of 1835 (by decide +kernel) rfl) rfl ?_
  refine rf_iload_n (n := 12) 1 dJ0_charAt_5068e_11 rfl rfl rfl ?_
  refine rf_cS2I (n := 15) hG (okJ1_ca _ _) lSJ0_495 hhJ1_charAt_3b067 dJ0_charAt_5068e_12 rfl (Nat.le_of_ble_eq_true rfl) (Nat.le_of_ble_eq_true rfl) (fun v m => ?_)
  exact rf_retT rfl rfl dJ0_charAt_5068e_15
