theorem ax_in_0 : ∀ w ∈ wsX00, w ∈ ax_tbl := by decide +kernel
theorem ax_in_1 : ∀ w ∈ wsX10, w ∈ ax_tbl := by decide +kernel
theorem ax_in_2 : ∀ w ∈ wsX20, w ∈ ax_tbl := by decide +kernel
theorem ax_in_3 : ∀ w ∈ wsX30, w ∈ ax_tbl := by decide +kernel
theorem ax_in_4 : ∀ w ∈ wsX40, w ∈ ax_tbl := by decide +kernel
theorem ax_in_5 : ∀ w ∈ wsX50, w ∈ ax_tbl := by decide +kernel
theorem ax_in_6 : ∀ w ∈ wsX60, w ∈ ax_tbl := by decide +kernel
theorem ax_in_7 : ∀ w ∈ wsX70, w ∈ ax_tbl := by decide +kernel
theorem ax_in_8 : ∀ w ∈ wsX80, w ∈ ax_tbl := by decide +kernel
theorem ax_in_9 : ∀ w ∈ wsX90, w ∈ ax_tbl := by decide +kernel
/-! fields -/
theorem ax_cls_in : ∀ (c : Nat) (q : vw_C), ax_cl[c]? = some q → (∀ w ∈ u_ws q.1 q.2.1 q.2.2, w ∈ ax_tbl) ∧ (∀ k, k < q.2.2 → parseFieldDescriptor (q.2.1 k).2.2.1 = some (ax_ty c k)) ∧ (∀ a, a < q.2.2 → ∀ b, b < q.2.2 → a ≠ b → (q.2.1 a).2.1 ≠ (q.2.1 b).2.1) ∧ ax_N c = q.2.2 := by
  intro c q h
  match c, h with
  | 0, h => cases h; exact ⟨ax_in_0, tyX0_ok, nmX0, rfl⟩
  | 1, h => cases h; exact ⟨ax_in_1, tyX1_ok, nmX1, rfl⟩
  | 2, h => cases h; exact ⟨ax_in_2, tyX2_ok, nmX2, rfl⟩
  | 3, h => cases h; exact ⟨ax_in_3, tyX3_ok, nmX3, rfl⟩
  | 4, h => cases h; exact ⟨ax_in_4, tyX4_ok, nmX4, rfl⟩
  | 5, h => cases h; exact ⟨ax_in_5, tyX5_ok, nmX5, rfl⟩
  | 6, h => cases h; exact ⟨ax_in_6, tyX6_ok, nmX6, rfl⟩
  | 7, h => cases h; exact ⟨ax_in_7, tyX7_ok, nmX7, rfl⟩
  | 8, h => cases h; exact ⟨ax_in_8, tyX8_ok, nmX8, rfl⟩
  | 9, h => cases h; exact ⟨ax_in_9, tyX9_ok, nmX9, rfl⟩
  | c + 10, h => simp [ax_cl] at h
/-- an entry of a class's pool names a field of a class -/
def ax_fl (own : String) (idx c j : Nat) : Prop := ∃ q : vw_C, ax_cl[c]? = some q ∧ j < q.2.2 ∧ (q.2.1 j).1 = q.1 ∧ Cond.fieldLink own idx q.1 (q.2.1 j).2.1 (q.2.1 j).2.2.1 ∈ ax_tbl
def ax_nf (c j : Nat) : Prop := ∃ q : vw_C, ax_cl[c]? = some q ∧ (q.2.1 j).2.2.2 = false
def ax_kI (c j : Nat) : Prop := ∀ (G : ax_G) (μ : ax_M) (i : Nat), ax_fv G μ (ax_ty c j) i j = .int (μ.1 i j)
def ax_kL (c j : Nat) : Prop := ∀ (G : ax_G) (μ : ax_M) (i : Nat), ax_fv G μ (ax_ty c j) i j = .long (μ.2 i j)
def ax_kR (c j : Nat) : Prop := ∀ (G : ax_G) (μ : ax_M) (i : Nat), ax_fv G μ (ax_ty c j) i j = ax_rv G (ax_gr G i j)
section AXF
variable {β : Type} {M : ax_Mi} {d : Nat} {x : ax_X} {Z : β → ax_M → State → Prop} {G : ax_G} {n1 n2 pc n : Nat} {lc : List (Option Value)} {st : List Value} {μ : ax_M} {t : Option (β × ax_M)}
theorem ax_getf {idx c j i : Nat} {v : Value} (hG : ax_K0 ≤ ax_gk G) (hd : decode M.2.1 pc = .ok (.getfield idx, 3)) (hf : ax_fl M.1.cls idx c j) (hm : ax_S i = (0, c)) (hi : i < ax_K0) (hC : ax_C M d x G) {H : Heap} {locs : List Loc} {ls : Array Slot} {rest : List Value} {Q : State → Prop} (hR : ax_Rel G μ H) (hv : ax_fv G μ (ax_ty c j) i j = v)
    (k : ax_W x H locs n1 n2 Q (F0 (ax_xm x) (pc + 3) ls (v :: rest))) : ax_W x H locs n1 n2 Q (F0 (ax_xm x) pc ls (.ref (ax_gb G + i) :: rest)) := by
  obtain ⟨q, q1, q2, q3, q4⟩ := hf
  obtain ⟨w1, -, -, w4⟩ := ax_cls_in c q q1
  have e1 := ax_ws_at (G := G) (μ := μ) (i := i) (Nat.lt_of_lt_of_le hi hG)
  rw [ax_e_o hm] at e1
  have e2 := ax_fs_get (G := G) (μ := μ) (c := c) (i := i) (j := j) (by rw [w4]; exact q2)
  rw [hv] at e2
  exact va_get hC.1 hC.2.1 hC.2.2.2.2.1 w1 hC.2.2.2.1 hC.2.2.2.2.2.2.2.1.1 hR i e1 q1 j q2 (hC.2.2.2.2.1 _ q4) (fun y hy => by rw [q3] at hy; exact hy) e2 hd k
theorem rf_getI {idx c j i : Nat} (hG : ax_ok G) (hd : decode M.2.1 pc = .ok (.getfield idx, 3)) (hf : ax_fl M.1.cls idx c j) (hk : ax_kI c j) (hm : ax_S i = (0, c)) (hi : i < ax_K0) (hn : pc + 3 = n) (k : ax_Rf M d x Z G n1 n2 n lc (.int (μ.1 i j) :: st) μ t) : ax_Rf M d x Z G n1 n2 pc lc (.ref i :: st) μ t := by
  subst hn
  intro r μ2 ht hC h1 h2 H locs ls hR hS hl
  have h4 := k r μ2 ht hC h1 h2 H locs ls hR hS hl
  simp only [List.map_cons, ax_sh_ref hi] at h4 ⊢
  exact ax_getf hG.1 hd hf hm hi hC hR (hk G μ i) h4
theorem rf_getL {idx c j i : Nat} (hG : ax_ok G) (hd : decode M.2.1 pc = .ok (.getfield idx, 3)) (hf : ax_fl M.1.cls idx c j) (hk : ax_kL c j) (hm : ax_S i = (0, c)) (hi : i < ax_K0) (hn : pc + 3 = n) (k : ax_Rf M d x Z G n1 n2 n lc (.long (μ.2 i j) :: st) μ t) : ax_Rf M d x Z G n1 n2 pc lc (.ref i :: st) μ t := by
  subst hn
  intro r μ2 ht hC h1 h2 H locs ls hR hS hl
  have h4 := k r μ2 ht hC h1 h2 H locs ls hR hS hl
  simp only [List.map_cons, ax_sh_ref hi] at h4 ⊢
  exact ax_getf hG.1 hd hf hm hi hC hR (hk G μ i) h4
theorem rf_getR {idx c j i : Nat} {v : Nat} (hv : ax_R i j = some v) (hr : v < ax_K0) (hG : ax_ok G) (hd : decode M.2.1 pc = .ok (.getfield idx, 3)) (hf : ax_fl M.1.cls idx c j) (hk : ax_kR c j) (hm : ax_S i = (0, c)) (hi : i < ax_K0) (hn : pc + 3 = n) (k : ax_Rf M d x Z G n1 n2 n lc (.ref v :: st) μ t) : ax_Rf M d x Z G n1 n2 pc lc (.ref i :: st) μ t := by
  subst hn
  intro r μ2 ht hC h1 h2 H locs ls hR hS hl
  have h4 := k r μ2 ht hC h1 h2 H locs ls hR hS hl
  simp only [List.map_cons, ax_sh_ref hi, ax_sh_ref hr] at h4 ⊢
  refine ax_getf hG.1 hd hf hm hi hC hR ?_ h4
  rw [hk, hG.2, hv]; rfl
theorem rf_putI {idx c j i : Nat} {v : Int32} (hG : ax_ok G) (hty : ax_ty c j = .int) (hd : decode M.2.1 pc = .ok (.putfield idx, 3)) (hf : ax_fl M.1.cls idx c j) (hk : ax_kI c j) (hw : ax_nf c j) (hm : ax_S i = (0, c)) (hi : i < ax_K0) (hn : pc + 3 = n) (k : ax_Rf M d x Z G n1 n2 n lc st (ax_wi μ i j v) t) : ax_Rf M d x Z G n1 n2 pc lc (.int v :: .ref i :: st) μ t := by
  subst hn
  intro r μ2 ht hC h1 h2 H locs ls hR hS hl
  obtain ⟨q, q1, q2, q3, q4⟩ := hf
  obtain ⟨q0, q01, q5⟩ := hw
  have hq : q0 = q := Option.some.inj (q01.symm.trans q1)
  subst hq
  obtain ⟨w1, w2, w3, w4⟩ := ax_cls_in c q0 q1
  have e1 := ax_ws_at (G := G) (μ := μ) (i := i) (Nat.lt_of_lt_of_le hi hG.1)
  rw [ax_e_o hm] at e1
  simp only [List.map_cons, ax_sh_ref hi]
  refine va_put (v := .int v) hC.1 hC.2.1 hC.2.2.2.2.1 w1 (ax_ty c) w2 w3 hC.2.2.2.1 hC.2.2.2.2.2.2.2.1.1 hR (ax_ws_D G μ) hS i e1 q1 j q2 (hC.2.2.2.2.1 _ q4) (fun y hy => by rw [q3] at hy; exact hy) q5 (w2 j q2) (by rw [hty]; rfl) (by rw [hty]; rfl) (by unfold ax_fs; simp [w4]; exact q2) hd (fun H3 locs3 hP3 _ hS3 => ?_)
  refine k r μ2 ht hC h1 h2 H3 locs3 ls ?_ hS3 hl
  rw [ax_ws_set (μ2 := ax_wi μ i j v) (by rw [ax_e_o hm, ax_fs_set hk]) (fun q hq => ax_e_wi hq)] at hP3
  exact hP3
theorem rf_putZ {idx c j i : Nat} {v : Int32} (hG : ax_ok G) (hty : ax_ty c j = .boolean) (hz : v = 0 ∨ v = 1) (hd : decode M.2.1 pc = .ok (.putfield idx, 3)) (hf : ax_fl M.1.cls idx c j) (hk : ax_kI c j) (hw : ax_nf c j) (hm : ax_S i = (0, c)) (hi : i < ax_K0) (hn : pc + 3 = n) (k : ax_Rf M d x Z G n1 n2 n lc st (ax_wi μ i j v) t) : ax_Rf M d x Z G n1 n2 pc lc (.int v :: .ref i :: st) μ t := by
  subst hn
  intro r μ2 ht hC h1 h2 H locs ls hR hS hl
  obtain ⟨q, q1, q2, q3, q4⟩ := hf
  obtain ⟨q0, q01, q5⟩ := hw
  have hq : q0 = q := Option.some.inj (q01.symm.trans q1)
  subst hq
  obtain ⟨w1, w2, w3, w4⟩ := ax_cls_in c q0 q1
  have e1 := ax_ws_at (G := G) (μ := μ) (i := i) (Nat.lt_of_lt_of_le hi hG.1)
  rw [ax_e_o hm] at e1
  simp only [List.map_cons, ax_sh_ref hi]
  refine va_put (v := .int v) hC.1 hC.2.1 hC.2.2.2.2.1 w1 (ax_ty c) w2 w3 hC.2.2.2.1 hC.2.2.2.2.2.2.2.1.1 hR (ax_ws_D G μ) hS i e1 q1 j q2 (hC.2.2.2.2.1 _ q4) (fun y hy => by rw [q3] at hy; exact hy) q5 (w2 j q2) (by rw [hty]; rcases hz with rfl | rfl <;> rfl) (by rw [hty]; rcases hz with rfl | rfl <;> rfl) (by unfold ax_fs; simp [w4]; exact q2) hd (fun H3 locs3 hP3 _ hS3 => ?_)
  refine k r μ2 ht hC h1 h2 H3 locs3 ls ?_ hS3 hl
  rw [ax_ws_set (μ2 := ax_wi μ i j v) (by rw [ax_e_o hm, ax_fs_set hk]) (fun q hq => ax_e_wi hq)] at hP3
  exact hP3
theorem rf_putL {idx c j i : Nat} {v : Int64} (hG : ax_ok G) (hty : ax_ty c j = .long) (hd : decode M.2.1 pc = .ok (.putfield idx, 3)) (hf : ax_fl M.1.cls idx c j) (hk : ax_kL c j) (hw : ax_nf c j) (hm : ax_S i = (0, c)) (hi : i < ax_K0) (hn : pc + 3 = n) (k : ax_Rf M d x Z G n1 n2 n lc st (ax_wl μ i j v) t) : ax_Rf M d x Z G n1 n2 pc lc (.long v :: .ref i :: st) μ t := by
  subst hn
  intro r μ2 ht hC h1 h2 H locs ls hR hS hl
  obtain ⟨q, q1, q2, q3, q4⟩ := hf
  obtain ⟨q0, q01, q5⟩ := hw
  have hq : q0 = q := Option.some.inj (q01.symm.trans q1)
  subst hq
  obtain ⟨w1, w2, w3, w4⟩ := ax_cls_in c q0 q1
  have e1 := ax_ws_at (G := G) (μ := μ) (i := i) (Nat.lt_of_lt_of_le hi hG.1)
  rw [ax_e_o hm] at e1
  simp only [List.map_cons, ax_sh_ref hi]
  refine va_put (v := .long v) hC.1 hC.2.1 hC.2.2.2.2.1 w1 (ax_ty c) w2 w3 hC.2.2.2.1 hC.2.2.2.2.2.2.2.1.1 hR (ax_ws_D G μ) hS i e1 q1 j q2 (hC.2.2.2.2.1 _ q4) (fun y hy => by rw [q3] at hy; exact hy) q5 (w2 j q2) (by rw [hty]; rfl) (by rw [hty]; rfl) (by unfold ax_fs; simp [w4]; exact q2) hd (fun H3 locs3 hP3 _ hS3 => ?_)
  refine k r μ2 ht hC h1 h2 H3 locs3 ls ?_ hS3 hl
  rw [ax_ws_set (μ2 := ax_wl μ i j v) (by rw [ax_e_o hm, ax_fs_setL hk]) (fun q hq => ax_e_wl hq)] at hP3
  exact hP3
theorem rf_retI {v : Int32} (hr : M.2.2.2 = some .int) (hd : decode M.2.1 pc = .ok (.ireturn, 1)) : ax_Rf M d x (ax_Z ax_jI x G) G 0 0 pc lc [.int v] μ (some (v, μ)) := by
  intro r μ2 ht hC h1 h2 H locs ls hR hS hl
  cases ht
  exact W.iret hC.1 hC.2.1 (hC.2.2.2.2.2.1.trans hr) (fun t ht hW => ⟨rfl, by rw [ht]; exact hR, hS.F ht⟩) hS.2.2 hd hC.2.2.2.2.2.2.1
theorem rf_retB {v : Int32} (hr : M.2.2.2 = some .boolean) (hz : v = 0 ∨ v = 1) (hd : decode M.2.1 pc = .ok (.ireturn, 1)) : ax_Rf M d x (ax_Z ax_jI x G) G 0 0 pc lc [.int v] μ (some (v, μ)) := by
  intro r μ2 ht hC h1 h2 H locs ls hR hS hl
  cases ht
  exact W.zret hC.1 hC.2.1 (hC.2.2.2.2.2.1.trans hr) (by rcases hz with rfl | rfl <;> rfl) (fun t ht hW => ⟨rfl, by rw [ht]; exact hR, hS.F ht⟩) hS.2.2 hd hC.2.2.2.2.2.2.1
theorem rf_retL {v : Int64} (hr : M.2.2.2 = some .long) (hd : decode M.2.1 pc = .ok (.lreturn, 1)) : ax_Rf M d x (ax_Z ax_jL x G) G 0 0 pc lc [.long v] μ (some (v, μ)) := by
  intro r μ2 ht hC h1 h2 H locs ls hR hS hl
  cases ht
  exact W.lret hC.1 hC.2.1 (hC.2.2.2.2.2.1.trans hr) (fun t ht hW => ⟨rfl, by rw [ht]; exact hR, hS.F ht⟩) hS.2.2 hd hC.2.2.2.2.2.2.1
theorem rf_retV (hr : M.2.2.2 = none) (hd : decode M.2.1 pc = .ok (.return_, 1)) : ax_Rf M d x (ax_Z ax_jV x G) G 0 0 pc lc [] μ (some ((), μ)) := by
  intro r μ2 ht hC h1 h2 H locs ls hR hS hl
  cases ht
  exact W.vret hC.1 hC.2.1 (hC.2.2.2.2.2.1.trans hr) (fun t ht hW => ⟨rfl, by rw [ht]; exact hR, hS.F ht⟩) hS.2.2 hd hC.2.2.2.2.2.2.1
theorem ax_zret {p : Program} {l : Launch} {e : Env} {R : Room} {s : State} {m : MethodId} {args : Array Value} {below : List Frame} {meth : Method} {c : Code} {H : Heap} {locs : List Loc} {cells slots : Nat} {cc : ByteArray} {Qc : Array Value → State → Outcome → State → Prop} {free : Addr → Prop} {v : Int32} (hexec : p.tables.exec = Jvm.exec) (hb : c.code = cc) (hr : meth.sig.returnType = some .boolean)
    (hq : ∀ t : State, t.heap = H → s.WarmedH t.vm → Qc args s (.returned (some (.int (vp_nar .boolean v)))) t) (hf : ∀ q ∈ locs, free q.base)
    {pc : Nat} {ls : Array Slot} (hdg : decode cc pc = .ok (.ireturn, 1)) (hlocks : meth.locks = false) : W p l e R s m args below meth c H locs cells slots (MQ below Qc args s cells slots free) (F0 m pc ls [.int v]) := by
  intro T hT X
  have hn : narrow .boolean (.int v) = .int (vp_nar .boolean v) := rfl
  obtain ⟨fs, hret, hrun, hended, hW, hframe⟩ := X.leave (v := some (.int (vp_nar .boolean v))) (fun h => by rw [hr] at h; cases h)
  have hmeth' : T.vm.method? m = some meth := X.method'
  refine ⟨T.setFrames fs, ?_, .returned (some (.int (vp_nar .boolean v))), hrun, hended, hq _ hT hW, locs, ⟨⟨_, rfl⟩, hW, hframe⟩, hf⟩
  jvm_step X.here [X.here.top, hexec, hb, hdg, hmeth', hr, hn]
  (try refine ⟨rfl, ?_⟩); (try refine ⟨rfl, ?_⟩)
  first | (intro acts; rw [hret _ acts rfl rfl rfl]) | rw [hret _ _ rfl rfl rfl]
  exact Steps.refl _
theorem rf_retZ {v : Int32} (hr : M.2.2.2 = some .boolean) (hd : decode M.2.1 pc = .ok (.ireturn, 1)) : ax_Rf M d x (ax_Z ax_jI x G) G 0 0 pc lc [.int v] μ (some (vp_nar .boolean v, μ)) := by
  intro r μ2 ht hC h1 h2 H locs ls hR hS hl
  cases ht
  exact ax_zret hC.1 hC.2.1 (hC.2.2.2.2.2.1.trans hr) (fun t ht hW => ⟨rfl, by rw [ht]; exact hR, hS.F ht⟩) hS.2.2 hd hC.2.2.2.2.2.2.1
/-! calls -/
theorem ax_go {H : Heap} {locs : List Loc} {ls : Array Slot} {st0 rest : List Value} {v : Option Value} {μ1 : ax_M} {a : Array Value} {Q : State → Prop} (hr : va_Run x.1 x.2.1 x.2.2.1 (ax_xR x) (ax_xs x) (ax_xm x) (ax_xa x) (ax_xb x) (ax_xh x) (ax_xc x) H locs n1 n2 0 0 (F0 (ax_xm x) pc ls st0) rest (ax_Q G v μ1 a) (ax_A G)) (hS : va_S (ax_A G) (ax_xs x).heap H locs)
    (kk : ∀ (H1 : Heap) (locs1 : List Loc), ax_Rel G μ1 H1 → va_S (ax_A G) (ax_xs x).heap H1 locs1 → ax_W x H1 locs1 n1 n2 Q (F0 (ax_xm x) (pc + 3) ls (v.toList ++ rest))) : ax_W x H locs n1 n2 Q (F0 (ax_xm x) pc ls st0) := by
  intro T hT X
  obtain ⟨v2, st₀, t, T', L, h0, X', hL, e1, e2, ⟨hv, hb, hz, hk⟩, st⟩ := hr T hT X
  cases hv
  rw [h0] at hz hk
  obtain ⟨t2, a1, b1⟩ := kk T'.heap (locs ++ L) (by rw [e1]; exact hb)
    ⟨Nat.le_trans hS.1 (by rw [e1]; exact hz), fun q h1 h2 => by rw [e1, hk q (Nat.lt_of_lt_of_le h1 hS.1) h2]; exact hS.2.1 q h1 h2, fun q hq => by
      rcases List.mem_append.mp hq with h | h
      · exact hS.2.2 q h
      · exact hL q h⟩ T' rfl X'
  exact ⟨t2, st t2 a1, b1⟩
theorem ax_catsum (G : ax_G) (st : List Value) : ((st.map (ax_sh G)).map fun v => v.category).sum = (st.map fun v => v.category).sum := by
  rw [List.map_map]
  congr 1
  apply List.map_congr_left
  intro v _
  exact ax_sh_cat G v
theorem ax_pre {M2 : ax_Mi} {H : Heap} {locs : List Loc} (hC : ax_C M d x G) (hR : ax_Rel G μ H) (hS : va_S (ax_A G) (ax_xs x).heap H locs) : ∀ U : State, U.heap = H → (ax_xs x).WarmedH U.vm → ax_Pre G μ U := by
  intro U hU hW
  refine ⟨by rw [hU]; exact hR, ax_K_moved hW (fun a h1 h2 => by rw [hU]; exact hS.2.1 a h1 h2) hC.2.2.2.2.2.2.2.1, ?_⟩
  rw [hU]
  exact Nat.le_trans hC.2.2.2.2.2.2.2.2.2.2.1 hS.1
def ax_hd (M2 : ax_Mi) (na : Nat) : Prop := (M2.1.cls ≠ "java/lang/invoke/MethodHandle" ∧ M2.1.cls ≠ "java/lang/invoke/VarHandle" ∧ (parseMethodDescriptor M2.1.desc).map (fun d => d.parameters.length) = some na) ∧ M2.2.2.1 ≤ 45 ∧ Cond.code M2.1 M2.2.1 M2.2.2.1 M2.2.2.2 ∈ ax_tbl ∧ Cond.initialized M2.1.cls ∈ ax_tbl
def ax_lV (own : String) (idx : Nat) (M2 : ax_Mi) : Prop := Cond.methodLink own idx M2.1 ∈ ax_tbl ∧ Cond.instanceMethod M2.1 ∈ ax_tbl ∧ Cond.selects M2.1.cls M2.1 M2.1 ∈ ax_tbl
def ax_lS (own : String) (idx : Nat) (M2 : ax_Mi) : Prop := Cond.methodLink own idx M2.1 ∈ ax_tbl ∧ Cond.static M2.1 ∈ ax_tbl
def ax_lN (own : String) (idx : Nat) (M2 : ax_Mi) : Prop := ∃ host, Cond.methodLinkNest own idx M2.1 host ∈ ax_nest ∧ Cond.static M2.1 ∈ ax_tbl
theorem ax_goodw {w : Cond} (h : w ∈ ax_tbl) : w ∈ ax_tbl ∧ ((w.onTables && w.keeps) = true ∨ ∃ ty, w = .arrayClass ty) := ⟨h, good_of_word (List.mem_filter.mp h).2⟩
theorem ax_roomok {M2 : ax_Mi} {d2 : Nat} (hC : ax_C M d x G) (hml : M2.2.2.1 ≤ 45) (hdd : d2 + 1 ≤ d) : (ax_room d2).frames + 1 ≤ (ax_xR x).frames ∧ 8 + (M2.2.2.1 + 11) + (ax_room d2).locals ≤ (ax_xR x).locals := by
  have h1 := hC.2.2.2.2.2.2.2.2.1
  have h2 := hC.2.2.2.2.2.2.2.2.2.1
  refine ⟨Nat.le_trans hdd h1, ?_⟩
  show 8 + (M2.2.2.1 + 11) + 64 * d2 ≤ _
  omega
theorem rf_cV {α : Type} {J : α → Option Value} {M2 : ax_Mi} {d2 b c idx na : Nat} {As st0 : List Value} {τ : Option (α × ax_M)} {f : α → ax_M → Option (β × ax_M)} (hJ : ∀ (v : α), (J v).toList.map (ax_sh G) = (J v).toList) (hG : ax_ok G) (hM : ax_Ok M2 d2 J (.ref b :: As) μ τ) (hl2 : ax_lV M.1.cls idx M2) (hh : ax_hd M2 na) (hb : b < ax_K0) (hc : ax_S b = (0, c)) (hcl : ∃ q, ax_cl[c]? = some q ∧ q.1 = M2.1.cls)
    (hd : decode M.2.1 pc = .ok (.invokevirtual idx, 3)) (hn : pc + 3 = n) (hdd : d2 + 1 ≤ d) (hAs : As.length = na) (hst : st0 = As.reverse ++ .ref b :: st) (hcat : (st.map fun v => v.category).sum ≤ 8)
    (k : ∀ v μ3, ax_Rf M d x Z G n1 n2 n lc ((J v).toList ++ st) μ3 (f v μ3)) : ax_Rf M d x Z G n1 n2 pc lc st0 μ (ax_bd τ f) := by
  subst hn
  subst hst
  intro r μ2 ht hC h1 h2 H locs ls hR hS hl
  obtain ⟨q, hq1, hq2⟩ := hcl
  cases hτ : τ with
  | none => rw [hτ] at ht; cases ht
  | some y =>
    obtain ⟨v, μ3⟩ := y
    rw [hτ] at ht
    have e1 := ax_ws_at (G := G) (μ := μ) (i := b) (Nat.lt_of_lt_of_le hb hG.1)
    rw [ax_e_o hc] at e1
    have hcw := cwV (R := ax_xR x) (s := ax_xs x) (args := ax_xa x) (own := M.1.cls) (C := M2.1.cls) (index := idx) (y := M2.1) (bytes := M2.2.1) (maxL := M2.2.2.1) (ret := M2.2.2.2) (ws := ax_mw M2) (rm := ax_room d2) (mc := 0) (ms := 0) na hC.2.2.2.2.1 (by
        intro w hw
        unfold wsV at hw
        simp only [List.mem_append, List.mem_cons, List.not_mem_nil, or_false] at hw
        rcases hw with (rfl | rfl | rfl | rfl) | hw
        · exact ax_goodw hl2.1
        · exact ax_goodw hl2.2.1
        · exact ax_goodw hl2.2.2
        · exact ax_goodw hh.2.2.2
        · exact ax_mw_good hh.2.2.1 w hw) rfl rfl rfl ⟨rfl, hh.1⟩ (ax_roomok hC hh.2.1 hdd)
    have hrec := va_recv hC.2.2.2.2.2.2.2.1.1 hR (ci := c) (q0 := b) hq1 e1
    rw [hq2] at hrec
    have hrun := va_runV (p := x.1) (l := x.2.1) (e := x.2.2.1) (m := ax_xm x) (below := ax_xb x) (meth := ax_xh x) (c := ax_xc x) (H := H) (locs := locs) (cells := n1) (slots := n2) (b := ax_gb G + b) (As := As.map (ax_sh G)) (rest := st.map (ax_sh G)) (g := F0 (ax_xm x) pc ls ((As.reverse ++ .ref b :: st).map (ax_sh G))) ⟨hC.1, hC.2.1, hC.2.2.1, hC.2.2.2.1, hC.2.2.2.2.1⟩ (hM x.2.1 G hG v μ3 hτ) hcw
      ⟨ax_blind G μ _, hrec, fun U hU hW => ⟨by simp [ax_sh_ref hb], ax_pre (M2 := M2) hC hR hS U hU hW⟩⟩ rfl (by rw [List.length_map]; exact hAs) hl.1 (by simp [ax_sh_ref hb]) (lv_room (by rw [ax_catsum]; exact hcat)) hd ⟨h1, h2⟩
    refine ax_go hrun hS (fun H3 locs3 hR3 hS3 => ?_)
    have h4 := k v μ3 r μ2 ht hC h1 h2 H3 locs3 ls hR3 hS3 hl
    have e5 : ((J v).toList ++ st).map (ax_sh G) = (J v).toList.map (ax_sh G) ++ st.map (ax_sh G) := List.map_append
    rw [e5, hJ v] at h4
    exact h4
theorem rf_cS {α : Type} {J : α → Option Value} {M2 : ax_Mi} {d2 idx na : Nat} {As st0 : List Value} {τ : Option (α × ax_M)} {f : α → ax_M → Option (β × ax_M)} (hJ : ∀ (v : α), (J v).toList.map (ax_sh G) = (J v).toList) (hG : ax_ok G) (hM : ax_Ok M2 d2 J As μ τ) (hl2 : ax_lS M.1.cls idx M2) (hh : ax_hd M2 na)
    (hd : decode M.2.1 pc = .ok (.invokestatic idx, 3)) (hn : pc + 3 = n) (hdd : d2 + 1 ≤ d) (hAs : As.length = na) (hst : st0 = As.reverse ++ st) (hcat : (st.map fun v => v.category).sum ≤ 8)
    (k : ∀ v μ3, ax_Rf M d x Z G n1 n2 n lc ((J v).toList ++ st) μ3 (f v μ3)) : ax_Rf M d x Z G n1 n2 pc lc st0 μ (ax_bd τ f) := by
  subst hn
  subst hst
  intro r μ2 ht hC h1 h2 H locs ls hR hS hl
  cases hτ : τ with
  | none => rw [hτ] at ht; cases ht
  | some y =>
    obtain ⟨v, μ3⟩ := y
    rw [hτ] at ht
    have hcw := va_cwS (R := ax_xR x) (s := ax_xs x) (args := ax_xa x) (own := M.1.cls) (index := idx) (y := M2.1) (bytes := M2.2.1) (maxL := M2.2.2.1) (ret := M2.2.2.2) (ws := ax_mw M2) (rm := ax_room d2) (mc := 0) (ms := 0) na hC.2.2.2.2.1 (by
        intro w hw
        unfold va_wsS at hw
        simp only [List.mem_append, List.mem_cons, List.not_mem_nil, or_false] at hw
        rcases hw with (rfl | rfl | rfl) | hw
        · exact ax_goodw hl2.1
        · exact ax_goodw hl2.2
        · exact ax_goodw hh.2.2.2
        · exact ax_mw_good hh.2.2.1 w hw) rfl rfl rfl hh.1 (ax_roomok hC hh.2.1 hdd)
    have hrun := va_runS (p := x.1) (l := x.2.1) (e := x.2.2.1) (m := ax_xm x) (below := ax_xb x) (meth := ax_xh x) (c := ax_xc x) (H := H) (locs := locs) (cells := n1) (slots := n2) (As := As.map (ax_sh G)) (rest := st.map (ax_sh G)) (g := F0 (ax_xm x) pc ls ((As.reverse ++ st).map (ax_sh G))) ⟨hC.1, hC.2.1, hC.2.2.1, hC.2.2.2.1, hC.2.2.2.2.1⟩ (hM x.2.1 G hG v μ3 hτ) hcw
      ⟨ax_blind G μ _, fun U hU hW => ⟨rfl, ax_pre (M2 := M2) hC hR hS U hU hW⟩⟩ rfl (by rw [List.length_map]; exact hAs) hl.1 (by simp) (lv_room (by rw [ax_catsum]; exact hcat)) hd ⟨h1, h2⟩
    refine ax_go hrun hS (fun H3 locs3 hR3 hS3 => ?_)
    have h4 := k v μ3 r μ2 ht hC h1 h2 H3 locs3 ls hR3 hS3 hl
    have e5 : ((J v).toList ++ st).map (ax_sh G) = (J v).toList.map (ax_sh G) ++ st.map (ax_sh G) := List.map_append
    rw [e5, hJ v] at h4
    exact h4
theorem rf_cN {α : Type} {J : α → Option Value} {M2 : ax_Mi} {d2 idx na : Nat} {As st0 : List Value} {τ : Option (α × ax_M)} {f : α → ax_M → Option (β × ax_M)} (hJ : ∀ (v : α), (J v).toList.map (ax_sh G) = (J v).toList) (hG : ax_ok G) (hM : ax_Ok M2 d2 J As μ τ) (hl2 : ax_lN M.1.cls idx M2) (hh : ax_hd M2 na)
    (hd : decode M.2.1 pc = .ok (.invokestatic idx, 3)) (hn : pc + 3 = n) (hdd : d2 + 1 ≤ d) (hAs : As.length = na) (hst : st0 = As.reverse ++ st) (hcat : (st.map fun v => v.category).sum ≤ 8)
    (k : ∀ v μ3, ax_Rf M d x Z G n1 n2 n lc ((J v).toList ++ st) μ3 (f v μ3)) : ax_Rf M d x Z G n1 n2 pc lc st0 μ (ax_bd τ f) := by
  subst hn
  subst hst
  intro r μ2 ht hC h1 h2 H locs ls hR hS hl
  cases hτ : τ with
  | none => rw [hτ] at ht; cases ht
  | some y =>
    obtain ⟨v, μ3⟩ := y
    rw [hτ] at ht
    obtain ⟨host, hn1, hn2⟩ := hl2
    have hcw0 := va_cnB (R := ax_xR x) (s := ax_xs x) (args := ax_xa x) (own := M.1.cls) (host := host) (index := idx) (y := M2.1) (bytes := M2.2.1) (maxL := M2.2.2.1) (ret := M2.2.2.2) (ws := ax_mw M2) (rm := ax_room d2) (mc := 0) (ms := 0) na hC.2.2.2.2.1 (ax_mw_good hh.2.2.1) rfl rfl rfl (hC.2.2.2.2.2.2.2.1.2.1 _ hn1) (hC.2.2.2.2.1 _ hh.2.2.2) hh.1 (ax_roomok hC hh.2.1 hdd)
    have hcw := And.intro hcw0 (And.intro (hC.2.2.2.2.1 _ hn2) trivial)
    have hrun := va_runSN (p := x.1) (l := x.2.1) (e := x.2.2.1) (m := ax_xm x) (below := ax_xb x) (meth := ax_xh x) (c := ax_xc x) (H := H) (locs := locs) (cells := n1) (slots := n2) (As := As.map (ax_sh G)) (rest := st.map (ax_sh G)) (g := F0 (ax_xm x) pc ls ((As.reverse ++ st).map (ax_sh G))) ⟨hC.1, hC.2.1, hC.2.2.1, hC.2.2.2.1, hC.2.2.2.2.1⟩ (hM x.2.1 G hG v μ3 hτ) hcw
      ⟨ax_blind G μ _, fun U hU hW => ⟨rfl, ax_pre (M2 := M2) hC hR hS U hU hW⟩⟩ rfl (by rw [List.length_map]; exact hAs) hl.1 (by simp) (lv_room (by rw [ax_catsum]; exact hcat)) hd ⟨h1, h2⟩
    refine ax_go hrun hS (fun H3 locs3 hR3 hS3 => ?_)
    have h4 := k v μ3 r μ2 ht hC h1 h2 H3 locs3 ls hR3 hS3 hl
    have e5 : ((J v).toList ++ st).map (ax_sh G) = (J v).toList.map (ax_sh G) ++ st.map (ax_sh G) := List.map_append
    rw [e5, hJ v] at h4
    exact h4
theorem ax_jI_sh (G : ax_G) (v : Int32) : (ax_jI v).toList.map (ax_sh G) = (ax_jI v).toList := rfl
theorem ax_jL_sh (G : ax_G) (v : Int64) : (ax_jL v).toList.map (ax_sh G) = (ax_jL v).toList := rfl
theorem ax_jV_sh (G : ax_G) (v : Unit) : (ax_jV v).toList.map (ax_sh G) = (ax_jV v).toList := rfl
theorem rf_cV0I {M2 : ax_Mi} {d2 b c idx : Nat} {τ : Option (Int32 × ax_M)} {f : Int32 → ax_M → Option (β × ax_M)} (hG : ax_ok G) (hM : ax_Ok M2 d2 ax_jI (.ref b :: []) μ τ) (hl2 : ax_lV M.1.cls idx M2) (hh : ax_hd M2 0) (hb : b < ax_K0) (hc : ax_S b = (0, c)) (hcl : ∃ q, ax_cl[c]? = some q ∧ q.1 = M2.1.cls) (hd : decode M.2.1 pc = .ok (.invokevirtual idx, 3)) (hn : pc + 3 = n) (hdd : d2 + 1 ≤ d) (hcat : (st.map fun v => v.category).sum ≤ 8) (k : ∀ v μ3, ax_Rf M d x Z G n1 n2 n lc (.int v :: st) μ3 (f v μ3)) : ax_Rf M d x Z G n1 n2 pc lc (.ref b :: st) μ (ax_bd τ f) :=
  rf_cV (As := []) (ax_jI_sh G) hG hM hl2 hh hb hc hcl hd hn hdd rfl rfl hcat k
theorem rf_cV0L {M2 : ax_Mi} {d2 b c idx : Nat} {τ : Option (Int64 × ax_M)} {f : Int64 → ax_M → Option (β × ax_M)} (hG : ax_ok G) (hM : ax_Ok M2 d2 ax_jL (.ref b :: []) μ τ) (hl2 : ax_lV M.1.cls idx M2) (hh : ax_hd M2 0) (hb : b < ax_K0) (hc : ax_S b = (0, c)) (hcl : ∃ q, ax_cl[c]? = some q ∧ q.1 = M2.1.cls) (hd : decode M.2.1 pc = .ok (.invokevirtual idx, 3)) (hn : pc + 3 = n) (hdd : d2 + 1 ≤ d) (hcat : (st.map fun v => v.category).sum ≤ 8) (k : ∀ v μ3, ax_Rf M d x Z G n1 n2 n lc (.long v :: st) μ3 (f v μ3)) : ax_Rf M d x Z G n1 n2 pc lc (.ref b :: st) μ (ax_bd τ f) :=
  rf_cV (As := []) (ax_jL_sh G) hG hM hl2 hh hb hc hcl hd hn hdd rfl rfl hcat k
theorem rf_cV0V {M2 : ax_Mi} {d2 b c idx : Nat} {τ : Option (Unit × ax_M)} {f : Unit → ax_M → Option (β × ax_M)} (hG : ax_ok G) (hM : ax_Ok M2 d2 ax_jV (.ref b :: []) μ τ) (hl2 : ax_lV M.1.cls idx M2) (hh : ax_hd M2 0) (hb : b < ax_K0) (hc : ax_S b = (0, c)) (hcl : ∃ q, ax_cl[c]? = some q ∧ q.1 = M2.1.cls) (hd : decode M.2.1 pc = .ok (.invokevirtual idx, 3)) (hn : pc + 3 = n) (hdd : d2 + 1 ≤ d) (hcat : (st.map fun v => v.category).sum ≤ 8) (k : ∀ v μ3, ax_Rf M d x Z G n1 n2 n lc (st) μ3 (f v μ3)) : ax_Rf M d x Z G n1 n2 pc lc (.ref b :: st) μ (ax_bd τ f) :=
  rf_cV (As := []) (ax_jV_sh G) hG hM hl2 hh hb hc hcl hd hn hdd rfl rfl hcat k
theorem rf_cV1I {M2 : ax_Mi} {d2 b c idx : Nat} {a0 : Value} {τ : Option (Int32 × ax_M)} {f : Int32 → ax_M → Option (β × ax_M)} (hG : ax_ok G) (hM : ax_Ok M2 d2 ax_jI (.ref b :: [a0]) μ τ) (hl2 : ax_lV M.1.cls idx M2) (hh : ax_hd M2 1) (hb : b < ax_K0) (hc : ax_S b = (0, c)) (hcl : ∃ q, ax_cl[c]? = some q ∧ q.1 = M2.1.cls) (hd : decode M.2.1 pc = .ok (.invokevirtual idx, 3)) (hn : pc + 3 = n) (hdd : d2 + 1 ≤ d) (hcat : (st.map fun v => v.category).sum ≤ 8) (k : ∀ v μ3, ax_Rf M d x Z G n1 n2 n lc (.int v :: st) μ3 (f v μ3)) : ax_Rf M d x Z G n1 n2 pc lc (a0 :: .ref b :: st) μ (ax_bd τ f) :=
  rf_cV (As := [a0]) (ax_jI_sh G) hG hM hl2 hh hb hc hcl hd hn hdd rfl rfl hcat k
theorem rf_cV1L {M2 : ax_Mi} {d2 b c idx : Nat} {a0 : Value} {τ : Option (Int64 × ax_M)} {f : Int64 → ax_M → Option (β × ax_M)} (hG : ax_ok G) (hM : ax_Ok M2 d2 ax_jL (.ref b :: [a0]) μ τ) (hl2 : ax_lV M.1.cls idx M2) (hh : ax_hd M2 1) (hb : b < ax_K0) (hc : ax_S b = (0, c)) (hcl : ∃ q, ax_cl[c]? = some q ∧ q.1 = M2.1.cls) (hd : decode M.2.1 pc = .ok (.invokevirtual idx, 3)) (hn : pc + 3 = n) (hdd : d2 + 1 ≤ d) (hcat : (st.map fun v => v.category).sum ≤ 8) (k : ∀ v μ3, ax_Rf M d x Z G n1 n2 n lc (.long v :: st) μ3 (f v μ3)) : ax_Rf M d x Z G n1 n2 pc lc (a0 :: .ref b :: st) μ (ax_bd τ f) :=
  rf_cV (As := [a0]) (ax_jL_sh G) hG hM hl2 hh hb hc hcl hd hn hdd rfl rfl hcat k
theorem rf_cV1V {M2 : ax_Mi} {d2 b c idx : Nat} {a0 : Value} {τ : Option (Unit × ax_M)} {f : Unit → ax_M → Option (β × ax_M)} (hG : ax_ok G) (hM : ax_Ok M2 d2 ax_jV (.ref b :: [a0]) μ τ) (hl2 : ax_lV M.1.cls idx M2) (hh : ax_hd M2 1) (hb : b < ax_K0) (hc : ax_S b = (0, c)) (hcl : ∃ q, ax_cl[c]? = some q ∧ q.1 = M2.1.cls) (hd : decode M.2.1 pc = .ok (.invokevirtual idx, 3)) (hn : pc + 3 = n) (hdd : d2 + 1 ≤ d) (hcat : (st.map fun v => v.category).sum ≤ 8) (k : ∀ v μ3, ax_Rf M d x Z G n1 n2 n lc (st) μ3 (f v μ3)) : ax_Rf M d x Z G n1 n2 pc lc (a0 :: .ref b :: st) μ (ax_bd τ f) :=
  rf_cV (As := [a0]) (ax_jV_sh G) hG hM hl2 hh hb hc hcl hd hn hdd rfl rfl hcat k
theorem rf_cV2I {M2 : ax_Mi} {d2 b c idx : Nat} {a0 a1 : Value} {τ : Option (Int32 × ax_M)} {f : Int32 → ax_M → Option (β × ax_M)} (hG : ax_ok G) (hM : ax_Ok M2 d2 ax_jI (.ref b :: [a0, a1]) μ τ) (hl2 : ax_lV M.1.cls idx M2) (hh : ax_hd M2 2) (hb : b < ax_K0) (hc : ax_S b = (0, c)) (hcl : ∃ q, ax_cl[c]? = some q ∧ q.1 = M2.1.cls) (hd : decode M.2.1 pc = .ok (.invokevirtual idx, 3)) (hn : pc + 3 = n) (hdd : d2 + 1 ≤ d) (hcat : (st.map fun v => v.category).sum ≤ 8) (k : ∀ v μ3, ax_Rf M d x Z G n1 n2 n lc (.int v :: st) μ3 (f v μ3)) : ax_Rf M d x Z G n1 n2 pc lc (a1 :: a0 :: .ref b :: st) μ (ax_bd τ f) :=
  rf_cV (As := [a0, a1]) (ax_jI_sh G) hG hM hl2 hh hb hc hcl hd hn hdd rfl rfl hcat k
theorem rf_cV2L {M2 : ax_Mi} {d2 b c idx : Nat} {a0 a1 : Value} {τ : Option (Int64 × ax_M)} {f : Int64 → ax_M → Option (β × ax_M)} (hG : ax_ok G) (hM : ax_Ok M2 d2 ax_jL (.ref b :: [a0, a1]) μ τ) (hl2 : ax_lV M.1.cls idx M2) (hh : ax_hd M2 2) (hb : b < ax_K0) (hc : ax_S b = (0, c)) (hcl : ∃ q, ax_cl[c]? = some q ∧ q.1 = M2.1.cls) (hd : decode M.2.1 pc = .ok (.invokevirtual idx, 3)) (hn : pc + 3 = n) (hdd : d2 + 1 ≤ d) (hcat : (st.map fun v => v.category).sum ≤ 8) (k : ∀ v μ3, ax_Rf M d x Z G n1 n2 n lc (.long v :: st) μ3 (f v μ3)) : ax_Rf M d x Z G n1 n2 pc lc (a1 :: a0 :: .ref b :: st) μ (ax_bd τ f) :=
  rf_cV (As := [a0, a1]) (ax_jL_sh G) hG hM hl2 hh hb hc hcl hd hn hdd rfl rfl hcat k
theorem rf_cV2V {M2 : ax_Mi} {d2 b c idx : Nat} {a0 a1 : Value} {τ : Option (Unit × ax_M)} {f : Unit → ax_M → Option (β × ax_M)} (hG : ax_ok G) (hM : ax_Ok M2 d2 ax_jV (.ref b :: [a0, a1]) μ τ) (hl2 : ax_lV M.1.cls idx M2) (hh : ax_hd M2 2) (hb : b < ax_K0) (hc : ax_S b = (0, c)) (hcl : ∃ q, ax_cl[c]? = some q ∧ q.1 = M2.1.cls) (hd : decode M.2.1 pc = .ok (.invokevirtual idx, 3)) (hn : pc + 3 = n) (hdd : d2 + 1 ≤ d) (hcat : (st.map fun v => v.category).sum ≤ 8) (k : ∀ v μ3, ax_Rf M d x Z G n1 n2 n lc (st) μ3 (f v μ3)) : ax_Rf M d x Z G n1 n2 pc lc (a1 :: a0 :: .ref b :: st) μ (ax_bd τ f) :=
  rf_cV (As := [a0, a1]) (ax_jV_sh G) hG hM hl2 hh hb hc hcl hd hn hdd rfl rfl hcat k
theorem rf_cV3I {M2 : ax_Mi} {d2 b c idx : Nat} {a0 a1 a2 : Value} {τ : Option (Int32 × ax_M)} {f : Int32 → ax_M → Option (β × ax_M)} (hG : ax_ok G) (hM : ax_Ok M2 d2 ax_jI (.ref b :: [a0, a1, a2]) μ τ) (hl2 : ax_lV M.1.cls idx M2) (hh : ax_hd M2 3) (hb : b < ax_K0) (hc : ax_S b = (0, c)) (hcl : ∃ q, ax_cl[c]? = some q ∧ q.1 = M2.1.cls) (hd : decode M.2.1 pc = .ok (.invokevirtual idx, 3)) (hn : pc + 3 = n) (hdd : d2 + 1 ≤ d) (hcat : (st.map fun v => v.category).sum ≤ 8) (k : ∀ v μ3, ax_Rf M d x Z G n1 n2 n lc (.int v :: st) μ3 (f v μ3)) : ax_Rf M d x Z G n1 n2 pc lc (a2 :: a1 :: a0 :: .ref b :: st) μ (ax_bd τ f) :=
  rf_cV (As := [a0, a1, a2]) (ax_jI_sh G) hG hM hl2 hh hb hc hcl hd hn hdd rfl rfl hcat k
theorem rf_cV3L {M2 : ax_Mi} {d2 b c idx : Nat} {a0 a1 a2 : Value} {τ : Option (Int64 × ax_M)} {f : Int64 → ax_M → Option (β × ax_M)} (hG : ax_ok G) (hM : ax_Ok M2 d2 ax_jL (.ref b :: [a0, a1, a2]) μ τ) (hl2 : ax_lV M.1.cls idx M2) (hh : ax_hd M2 3) (hb : b < ax_K0) (hc : ax_S b = (0, c)) (hcl : ∃ q, ax_cl[c]? = some q ∧ q.1 = M2.1.cls) (hd : decode M.2.1 pc = .ok (.invokevirtual idx, 3)) (hn : pc + 3 = n) (hdd : d2 + 1 ≤ d) (hcat : (st.map fun v => v.category).sum ≤ 8) (k : ∀ v μ3, ax_Rf M d x Z G n1 n2 n lc (.long v :: st) μ3 (f v μ3)) : ax_Rf M d x Z G n1 n2 pc lc (a2 :: a1 :: a0 :: .ref b :: st) μ (ax_bd τ f) :=
  rf_cV (As := [a0, a1, a2]) (ax_jL_sh G) hG hM hl2 hh hb hc hcl hd hn hdd rfl rfl hcat k
theorem rf_cV3V {M2 : ax_Mi} {d2 b c idx : Nat} {a0 a1 a2 : Value} {τ : Option (Unit × ax_M)} {f : Unit → ax_M → Option (β × ax_M)} (hG : ax_ok G) (hM : ax_Ok M2 d2 ax_jV (.ref b :: [a0, a1, a2]) μ τ) (hl2 : ax_lV M.1.cls idx M2) (hh : ax_hd M2 3) (hb : b < ax_K0) (hc : ax_S b = (0, c)) (hcl : ∃ q, ax_cl[c]? = some q ∧ q.1 = M2.1.cls) (hd : decode M.2.1 pc = .ok (.invokevirtual idx, 3)) (hn : pc + 3 = n) (hdd : d2 + 1 ≤ d) (hcat : (st.map fun v => v.category).sum ≤ 8) (k : ∀ v μ3, ax_Rf M d x Z G n1 n2 n lc (st) μ3 (f v μ3)) : ax_Rf M d x Z G n1 n2 pc lc (a2 :: a1 :: a0 :: .ref b :: st) μ (ax_bd τ f) :=
  rf_cV (As := [a0, a1, a2]) (ax_jV_sh G) hG hM hl2 hh hb hc hcl hd hn hdd rfl rfl hcat k
theorem rf_cV4I {M2 : ax_Mi} {d2 b c idx : Nat} {a0 a1 a2 a3 : Value} {τ : Option (Int32 × ax_M)} {f : Int32 → ax_M → Option (β × ax_M)} (hG : ax_ok G) (hM : ax_Ok M2 d2 ax_jI (.ref b :: [a0, a1, a2, a3]) μ τ) (hl2 : ax_lV M.1.cls idx M2) (hh : ax_hd M2 4) (hb : b < ax_K0) (hc : ax_S b = (0, c)) (hcl : ∃ q, ax_cl[c]? = some q ∧ q.1 = M2.1.cls) (hd : decode M.2.1 pc = .ok (.invokevirtual idx, 3)) (hn : pc + 3 = n) (hdd : d2 + 1 ≤ d) (hcat : (st.map fun v => v.category).sum ≤ 8) (k : ∀ v μ3, ax_Rf M d x Z G n1 n2 n lc (.int v :: st) μ3 (f v μ3)) : ax_Rf M d x Z G n1 n2 pc lc (a3 :: a2 :: a1 :: a0 :: .ref b :: st) μ (ax_bd τ f) :=
  rf_cV (As := [a0, a1, a2, a3]) (ax_jI_sh G) hG hM hl2 hh hb hc hcl hd hn hdd rfl rfl hcat k
theorem rf_cV4L {M2 : ax_Mi} {d2 b c idx : Nat} {a0 a1 a2 a3 : Value} {τ : Option (Int64 × ax_M)} {f : Int64 → ax_M → Option (β × ax_M)} (hG : ax_ok G) (hM : ax_Ok M2 d2 ax_jL (.ref b :: [a0, a1, a2, a3]) μ τ) (hl2 : ax_lV M.1.cls idx M2) (hh : ax_hd M2 4) (hb : b < ax_K0) (hc : ax_S b = (0, c)) (hcl : ∃ q, ax_cl[c]? = some q ∧ q.1 = M2.1.cls) (hd : decode M.2.1 pc = .ok (.invokevirtual idx, 3)) (hn : pc + 3 = n) (hdd : d2 + 1 ≤ d) (hcat : (st.map fun v => v.category).sum ≤ 8) (k : ∀ v μ3, ax_Rf M d x Z G n1 n2 n lc (.long v :: st) μ3 (f v μ3)) : ax_Rf M d x Z G n1 n2 pc lc (a3 :: a2 :: a1 :: a0 :: .ref b :: st) μ (ax_bd τ f) :=
  rf_cV (As := [a0, a1, a2, a3]) (ax_jL_sh G) hG hM hl2 hh hb hc hcl hd hn hdd rfl rfl hcat k
theorem rf_cV4V {M2 : ax_Mi} {d2 b c idx : Nat} {a0 a1 a2 a3 : Value} {τ : Option (Unit × ax_M)} {f : Unit → ax_M → Option (β × ax_M)} (hG : ax_ok G) (hM : ax_Ok M2 d2 ax_jV (.ref b :: [a0, a1, a2, a3]) μ τ) (hl2 : ax_lV M.1.cls idx M2) (hh : ax_hd M2 4) (hb : b < ax_K0) (hc : ax_S b = (0, c)) (hcl : ∃ q, ax_cl[c]? = some q ∧ q.1 = M2.1.cls) (hd : decode M.2.1 pc = .ok (.invokevirtual idx, 3)) (hn : pc + 3 = n) (hdd : d2 + 1 ≤ d) (hcat : (st.map fun v => v.category).sum ≤ 8) (k : ∀ v μ3, ax_Rf M d x Z G n1 n2 n lc (st) μ3 (f v μ3)) : ax_Rf M d x Z G n1 n2 pc lc (a3 :: a2 :: a1 :: a0 :: .ref b :: st) μ (ax_bd τ f) :=
  rf_cV (As := [a0, a1, a2, a3]) (ax_jV_sh G) hG hM hl2 hh hb hc hcl hd hn hdd rfl rfl hcat k
theorem rf_cV5I {M2 : ax_Mi} {d2 b c idx : Nat} {a0 a1 a2 a3 a4 : Value} {τ : Option (Int32 × ax_M)} {f : Int32 → ax_M → Option (β × ax_M)} (hG : ax_ok G) (hM : ax_Ok M2 d2 ax_jI (.ref b :: [a0, a1, a2, a3, a4]) μ τ) (hl2 : ax_lV M.1.cls idx M2) (hh : ax_hd M2 5) (hb : b < ax_K0) (hc : ax_S b = (0, c)) (hcl : ∃ q, ax_cl[c]? = some q ∧ q.1 = M2.1.cls) (hd : decode M.2.1 pc = .ok (.invokevirtual idx, 3)) (hn : pc + 3 = n) (hdd : d2 + 1 ≤ d) (hcat : (st.map fun v => v.category).sum ≤ 8) (k : ∀ v μ3, ax_Rf M d x Z G n1 n2 n lc (.int v :: st) μ3 (f v μ3)) : ax_Rf M d x Z G n1 n2 pc lc (a4 :: a3 :: a2 :: a1 :: a0 :: .ref b :: st) μ (ax_bd τ f) :=
  rf_cV (As := [a0, a1, a2, a3, a4]) (ax_jI_sh G) hG hM hl2 hh hb hc hcl hd hn hdd rfl rfl hcat k
theorem rf_cV5L {M2 : ax_Mi} {d2 b c idx : Nat} {a0 a1 a2 a3 a4 : Value} {τ : Option (Int64 × ax_M)} {f : Int64 → ax_M → Option (β × ax_M)} (hG : ax_ok G) (hM : ax_Ok M2 d2 ax_jL (.ref b :: [a0, a1, a2, a3, a4]) μ τ) (hl2 : ax_lV M.1.cls idx M2) (hh : ax_hd M2 5) (hb : b < ax_K0) (hc : ax_S b = (0, c)) (hcl : ∃ q, ax_cl[c]? = some q ∧ q.1 = M2.1.cls) (hd : decode M.2.1 pc = .ok (.invokevirtual idx, 3)) (hn : pc + 3 = n) (hdd : d2 + 1 ≤ d) (hcat : (st.map fun v => v.category).sum ≤ 8) (k : ∀ v μ3, ax_Rf M d x Z G n1 n2 n lc (.long v :: st) μ3 (f v μ3)) : ax_Rf M d x Z G n1 n2 pc lc (a4 :: a3 :: a2 :: a1 :: a0 :: .ref b :: st) μ (ax_bd τ f) :=
  rf_cV (As := [a0, a1, a2, a3, a4]) (ax_jL_sh G) hG hM hl2 hh hb hc hcl hd hn hdd rfl rfl hcat k
theorem rf_cV5V {M2 : ax_Mi} {d2 b c idx : Nat} {a0 a1 a2 a3 a4 : Value} {τ : Option (Unit × ax_M)} {f : Unit → ax_M → Option (β × ax_M)} (hG : ax_ok G) (hM : ax_Ok M2 d2 ax_jV (.ref b :: [a0, a1, a2, a3, a4]) μ τ) (hl2 : ax_lV M.1.cls idx M2) (hh : ax_hd M2 5) (hb : b < ax_K0) (hc : ax_S b = (0, c)) (hcl : ∃ q, ax_cl[c]? = some q ∧ q.1 = M2.1.cls) (hd : decode M.2.1 pc = .ok (.invokevirtual idx, 3)) (hn : pc + 3 = n) (hdd : d2 + 1 ≤ d) (hcat : (st.map fun v => v.category).sum ≤ 8) (k : ∀ v μ3, ax_Rf M d x Z G n1 n2 n lc (st) μ3 (f v μ3)) : ax_Rf M d x Z G n1 n2 pc lc (a4 :: a3 :: a2 :: a1 :: a0 :: .ref b :: st) μ (ax_bd τ f) :=
  rf_cV (As := [a0, a1, a2, a3, a4]) (ax_jV_sh G) hG hM hl2 hh hb hc hcl hd hn hdd rfl rfl hcat k
theorem rf_cV6I {M2 : ax_Mi} {d2 b c idx : Nat} {a0 a1 a2 a3 a4 a5 : Value} {τ : Option (Int32 × ax_M)} {f : Int32 → ax_M → Option (β × ax_M)} (hG : ax_ok G) (hM : ax_Ok M2 d2 ax_jI (.ref b :: [a0, a1, a2, a3, a4, a5]) μ τ) (hl2 : ax_lV M.1.cls idx M2) (hh : ax_hd M2 6) (hb : b < ax_K0) (hc : ax_S b = (0, c)) (hcl : ∃ q, ax_cl[c]? = some q ∧ q.1 = M2.1.cls) (hd : decode M.2.1 pc = .ok (.invokevirtual idx, 3)) (hn : pc + 3 = n) (hdd : d2 + 1 ≤ d) (hcat : (st.map fun v => v.category).sum ≤ 8) (k : ∀ v μ3, ax_Rf M d x Z G n1 n2 n lc (.int v :: st) μ3 (f v μ3)) : ax_Rf M d x Z G n1 n2 pc lc (a5 :: a4 :: a3 :: a2 :: a1 :: a0 :: .ref b :: st) μ (ax_bd τ f) :=
  rf_cV (As := [a0, a1, a2, a3, a4, a5]) (ax_jI_sh G) hG hM hl2 hh hb hc hcl hd hn hdd rfl rfl hcat k
theorem rf_cV6L {M2 : ax_Mi} {d2 b c idx : Nat} {a0 a1 a2 a3 a4 a5 : Value} {τ : Option (Int64 × ax_M)} {f : Int64 → ax_M → Option (β × ax_M)} (hG : ax_ok G) (hM : ax_Ok M2 d2 ax_jL (.ref b :: [a0, a1, a2, a3, a4, a5]) μ τ) (hl2 : ax_lV M.1.cls idx M2) (hh : ax_hd M2 6) (hb : b < ax_K0) (hc : ax_S b = (0, c)) (hcl : ∃ q, ax_cl[c]? = some q ∧ q.1 = M2.1.cls) (hd : decode M.2.1 pc = .ok (.invokevirtual idx, 3)) (hn : pc + 3 = n) (hdd : d2 + 1 ≤ d) (hcat : (st.map fun v => v.category).sum ≤ 8) (k : ∀ v μ3, ax_Rf M d x Z G n1 n2 n lc (.long v :: st) μ3 (f v μ3)) : ax_Rf M d x Z G n1 n2 pc lc (a5 :: a4 :: a3 :: a2 :: a1 :: a0 :: .ref b :: st) μ (ax_bd τ f) :=
  rf_cV (As := [a0, a1, a2, a3, a4, a5]) (ax_jL_sh G) hG hM hl2 hh hb hc hcl hd hn hdd rfl rfl hcat k
theorem rf_cV6V {M2 : ax_Mi} {d2 b c idx : Nat} {a0 a1 a2 a3 a4 a5 : Value} {τ : Option (Unit × ax_M)} {f : Unit → ax_M → Option (β × ax_M)} (hG : ax_ok G) (hM : ax_Ok M2 d2 ax_jV (.ref b :: [a0, a1, a2, a3, a4, a5]) μ τ) (hl2 : ax_lV M.1.cls idx M2) (hh : ax_hd M2 6) (hb : b < ax_K0) (hc : ax_S b = (0, c)) (hcl : ∃ q, ax_cl[c]? = some q ∧ q.1 = M2.1.cls) (hd : decode M.2.1 pc = .ok (.invokevirtual idx, 3)) (hn : pc + 3 = n) (hdd : d2 + 1 ≤ d) (hcat : (st.map fun v => v.category).sum ≤ 8) (k : ∀ v μ3, ax_Rf M d x Z G n1 n2 n lc (st) μ3 (f v μ3)) : ax_Rf M d x Z G n1 n2 pc lc (a5 :: a4 :: a3 :: a2 :: a1 :: a0 :: .ref b :: st) μ (ax_bd τ f) :=
  rf_cV (As := [a0, a1, a2, a3, a4, a5]) (ax_jV_sh G) hG hM hl2 hh hb hc hcl hd hn hdd rfl rfl hcat k
theorem rf_cV7I {M2 : ax_Mi} {d2 b c idx : Nat} {a0 a1 a2 a3 a4 a5 a6 : Value} {τ : Option (Int32 × ax_M)} {f : Int32 → ax_M → Option (β × ax_M)} (hG : ax_ok G) (hM : ax_Ok M2 d2 ax_jI (.ref b :: [a0, a1, a2, a3, a4, a5, a6]) μ τ) (hl2 : ax_lV M.1.cls idx M2) (hh : ax_hd M2 7) (hb : b < ax_K0) (hc : ax_S b = (0, c)) (hcl : ∃ q, ax_cl[c]? = some q ∧ q.1 = M2.1.cls) (hd : decode M.2.1 pc = .ok (.invokevirtual idx, 3)) (hn : pc + 3 = n) (hdd : d2 + 1 ≤ d) (hcat : (st.map fun v => v.category).sum ≤ 8) (k : ∀ v μ3, ax_Rf M d x Z G n1 n2 n lc (.int v :: st) μ3 (f v μ3)) : ax_Rf M d x Z G n1 n2 pc lc (a6 :: a5 :: a4 :: a3 :: a2 :: a1 :: a0 :: .ref b :: st) μ (ax_bd τ f) :=
  rf_cV (As := [a0, a1, a2, a3, a4, a5, a6]) (ax_jI_sh G) hG hM hl2 hh hb hc hcl hd hn hdd rfl rfl hcat k
theorem rf_cV7L {M2 : ax_Mi} {d2 b c idx : Nat} {a0 a1 a2 a3 a4 a5 a6 : Value} {τ : Option (Int64 × ax_M)} {f : Int64 → ax_M → Option (β × ax_M)} (hG : ax_ok G) (hM : ax_Ok M2 d2 ax_jL (.ref b :: [a0, a1, a2, a3, a4, a5, a6]) μ τ) (hl2 : ax_lV M.1.cls idx M2) (hh : ax_hd M2 7) (hb : b < ax_K0) (hc : ax_S b = (0, c)) (hcl : ∃ q, ax_cl[c]? = some q ∧ q.1 = M2.1.cls) (hd : decode M.2.1 pc = .ok (.invokevirtual idx, 3)) (hn : pc + 3 = n) (hdd : d2 + 1 ≤ d) (hcat : (st.map fun v => v.category).sum ≤ 8) (k : ∀ v μ3, ax_Rf M d x Z G n1 n2 n lc (.long v :: st) μ3 (f v μ3)) : ax_Rf M d x Z G n1 n2 pc lc (a6 :: a5 :: a4 :: a3 :: a2 :: a1 :: a0 :: .ref b :: st) μ (ax_bd τ f) :=
  rf_cV (As := [a0, a1, a2, a3, a4, a5, a6]) (ax_jL_sh G) hG hM hl2 hh hb hc hcl hd hn hdd rfl rfl hcat k
theorem rf_cV7V {M2 : ax_Mi} {d2 b c idx : Nat} {a0 a1 a2 a3 a4 a5 a6 : Value} {τ : Option (Unit × ax_M)} {f : Unit → ax_M → Option (β × ax_M)} (hG : ax_ok G) (hM : ax_Ok M2 d2 ax_jV (.ref b :: [a0, a1, a2, a3, a4, a5, a6]) μ τ) (hl2 : ax_lV M.1.cls idx M2) (hh : ax_hd M2 7) (hb : b < ax_K0) (hc : ax_S b = (0, c)) (hcl : ∃ q, ax_cl[c]? = some q ∧ q.1 = M2.1.cls) (hd : decode M.2.1 pc = .ok (.invokevirtual idx, 3)) (hn : pc + 3 = n) (hdd : d2 + 1 ≤ d) (hcat : (st.map fun v => v.category).sum ≤ 8) (k : ∀ v μ3, ax_Rf M d x Z G n1 n2 n lc (st) μ3 (f v μ3)) : ax_Rf M d x Z G n1 n2 pc lc (a6 :: a5 :: a4 :: a3 :: a2 :: a1 :: a0 :: .ref b :: st) μ (ax_bd τ f) :=
  rf_cV (As := [a0, a1, a2, a3, a4, a5, a6]) (ax_jV_sh G) hG hM hl2 hh hb hc hcl hd hn hdd rfl rfl hcat k
theorem rf_cS0I {M2 : ax_Mi} {d2 idx : Nat} {τ : Option (Int32 × ax_M)} {f : Int32 → ax_M → Option (β × ax_M)} (hG : ax_ok G) (hM : ax_Ok M2 d2 ax_jI ([]) μ τ) (hl2 : ax_lS M.1.cls idx M2) (hh : ax_hd M2 0) (hd : decode M.2.1 pc = .ok (.invokestatic idx, 3)) (hn : pc + 3 = n) (hdd : d2 + 1 ≤ d) (hcat : (st.map fun v => v.category).sum ≤ 8) (k : ∀ v μ3, ax_Rf M d x Z G n1 n2 n lc (.int v :: st) μ3 (f v μ3)) : ax_Rf M d x Z G n1 n2 pc lc (st) μ (ax_bd τ f) :=
  rf_cS (As := []) (ax_jI_sh G) hG hM hl2 hh hd hn hdd rfl rfl hcat k
theorem rf_cS0L {M2 : ax_Mi} {d2 idx : Nat} {τ : Option (Int64 × ax_M)} {f : Int64 → ax_M → Option (β × ax_M)} (hG : ax_ok G) (hM : ax_Ok M2 d2 ax_jL ([]) μ τ) (hl2 : ax_lS M.1.cls idx M2) (hh : ax_hd M2 0) (hd : decode M.2.1 pc = .ok (.invokestatic idx, 3)) (hn : pc + 3 = n) (hdd : d2 + 1 ≤ d) (hcat : (st.map fun v => v.category).sum ≤ 8) (k : ∀ v μ3, ax_Rf M d x Z G n1 n2 n lc (.long v :: st) μ3 (f v μ3)) : ax_Rf M d x Z G n1 n2 pc lc (st) μ (ax_bd τ f) :=
  rf_cS (As := []) (ax_jL_sh G) hG hM hl2 hh hd hn hdd rfl rfl hcat k
theorem rf_cS0V {M2 : ax_Mi} {d2 idx : Nat} {τ : Option (Unit × ax_M)} {f : Unit → ax_M → Option (β × ax_M)} (hG : ax_ok G) (hM : ax_Ok M2 d2 ax_jV ([]) μ τ) (hl2 : ax_lS M.1.cls idx M2) (hh : ax_hd M2 0) (hd : decode M.2.1 pc = .ok (.invokestatic idx, 3)) (hn : pc + 3 = n) (hdd : d2 + 1 ≤ d) (hcat : (st.map fun v => v.category).sum ≤ 8) (k : ∀ v μ3, ax_Rf M d x Z G n1 n2 n lc (st) μ3 (f v μ3)) : ax_Rf M d x Z G n1 n2 pc lc (st) μ (ax_bd τ f) :=
  rf_cS (As := []) (ax_jV_sh G) hG hM hl2 hh hd hn hdd rfl rfl hcat k
theorem rf_cS1I {M2 : ax_Mi} {d2 idx : Nat} {a0 : Value} {τ : Option (Int32 × ax_M)} {f : Int32 → ax_M → Option (β × ax_M)} (hG : ax_ok G) (hM : ax_Ok M2 d2 ax_jI ([a0]) μ τ) (hl2 : ax_lS M.1.cls idx M2) (hh : ax_hd M2 1) (hd : decode M.2.1 pc = .ok (.invokestatic idx, 3)) (hn : pc + 3 = n) (hdd : d2 + 1 ≤ d) (hcat : (st.map fun v => v.category).sum ≤ 8) (k : ∀ v μ3, ax_Rf M d x Z G n1 n2 n lc (.int v :: st) μ3 (f v μ3)) : ax_Rf M d x Z G n1 n2 pc lc (a0 :: st) μ (ax_bd τ f) :=
  rf_cS (As := [a0]) (ax_jI_sh G) hG hM hl2 hh hd hn hdd rfl rfl hcat k
theorem rf_cS1L {M2 : ax_Mi} {d2 idx : Nat} {a0 : Value} {τ : Option (Int64 × ax_M)} {f : Int64 → ax_M → Option (β × ax_M)} (hG : ax_ok G) (hM : ax_Ok M2 d2 ax_jL ([a0]) μ τ) (hl2 : ax_lS M.1.cls idx M2) (hh : ax_hd M2 1) (hd : decode M.2.1 pc = .ok (.invokestatic idx, 3)) (hn : pc + 3 = n) (hdd : d2 + 1 ≤ d) (hcat : (st.map fun v => v.category).sum ≤ 8) (k : ∀ v μ3, ax_Rf M d x Z G n1 n2 n lc (.long v :: st) μ3 (f v μ3)) : ax_Rf M d x Z G n1 n2 pc lc (a0 :: st) μ (ax_bd τ f) :=
  rf_cS (As := [a0]) (ax_jL_sh G) hG hM hl2 hh hd hn hdd rfl rfl hcat k
theorem rf_cS1V {M2 : ax_Mi} {d2 idx : Nat} {a0 : Value} {τ : Option (Unit × ax_M)} {f : Unit → ax_M → Option (β × ax_M)} (hG : ax_ok G) (hM : ax_Ok M2 d2 ax_jV ([a0]) μ τ) (hl2 : ax_lS M.1.cls idx M2) (hh : ax_hd M2 1) (hd : decode M.2.1 pc = .ok (.invokestatic idx, 3)) (hn : pc + 3 = n) (hdd : d2 + 1 ≤ d) (hcat : (st.map fun v => v.category).sum ≤ 8) (k : ∀ v μ3, ax_Rf M d x Z G n1 n2 n lc (st) μ3 (f v μ3)) : ax_Rf M d x Z G n1 n2 pc lc (a0 :: st) μ (ax_bd τ f) :=
  rf_cS (As := [a0]) (ax_jV_sh G) hG hM hl2 hh hd hn hdd rfl rfl hcat k
theorem rf_cS2I {M2 : ax_Mi} {d2 idx : Nat} {a0 a1 : Value} {τ : Option (Int32 × ax_M)} {f : Int32 → ax_M → Option (β × ax_M)} (hG : ax_ok G) (hM : ax_Ok M2 d2 ax_jI ([a0, a1]) μ τ) (hl2 : ax_lS M.1.cls idx M2) (hh : ax_hd M2 2) (hd : decode M.2.1 pc = .ok (.invokestatic idx, 3)) (hn : pc + 3 = n) (hdd : d2 + 1 ≤ d) (hcat : (st.map fun v => v.category).sum ≤ 8) (k : ∀ v μ3, ax_Rf M d x Z G n1 n2 n lc (.int v :: st) μ3 (f v μ3)) : ax_Rf M d x Z G n1 n2 pc lc (a1 :: a0 :: st) μ (ax_bd τ f) :=
  rf_cS (As := [a0, a1]) (ax_jI_sh G) hG hM hl2 hh hd hn hdd rfl rfl hcat k
theorem rf_cS2L {M2 : ax_Mi} {d2 idx : Nat} {a0 a1 : Value} {τ : Option (Int64 × ax_M)} {f : Int64 → ax_M → Option (β × ax_M)} (hG : ax_ok G) (hM : ax_Ok M2 d2 ax_jL ([a0, a1]) μ τ) (hl2 : ax_lS M.1.cls idx M2) (hh : ax_hd M2 2) (hd : decode M.2.1 pc = .ok (.invokestatic idx, 3)) (hn : pc + 3 = n) (hdd : d2 + 1 ≤ d) (hcat : (st.map fun v => v.category).sum ≤ 8) (k : ∀ v μ3, ax_Rf M d x Z G n1 n2 n lc (.long v :: st) μ3 (f v μ3)) : ax_Rf M d x Z G n1 n2 pc lc (a1 :: a0 :: st) μ (ax_bd τ f) :=
  rf_cS (As := [a0, a1]) (ax_jL_sh G) hG hM hl2 hh hd hn hdd rfl rfl hcat k
theorem rf_cS2V {M2 : ax_Mi} {d2 idx : Nat} {a0 a1 : Value} {τ : Option (Unit × ax_M)} {f : Unit → ax_M → Option (β × ax_M)} (hG : ax_ok G) (hM : ax_Ok M2 d2 ax_jV ([a0, a1]) μ τ) (hl2 : ax_lS M.1.cls idx M2) (hh : ax_hd M2 2) (hd : decode M.2.1 pc = .ok (.invokestatic idx, 3)) (hn : pc + 3 = n) (hdd : d2 + 1 ≤ d) (hcat : (st.map fun v => v.category).sum ≤ 8) (k : ∀ v μ3, ax_Rf M d x Z G n1 n2 n lc (st) μ3 (f v μ3)) : ax_Rf M d x Z G n1 n2 pc lc (a1 :: a0 :: st) μ (ax_bd τ f) :=
  rf_cS (As := [a0, a1]) (ax_jV_sh G) hG hM hl2 hh hd hn hdd rfl rfl hcat k
theorem rf_cS3I {M2 : ax_Mi} {d2 idx : Nat} {a0 a1 a2 : Value} {τ : Option (Int32 × ax_M)} {f : Int32 → ax_M → Option (β × ax_M)} (hG : ax_ok G) (hM : ax_Ok M2 d2 ax_jI ([a0, a1, a2]) μ τ) (hl2 : ax_lS M.1.cls idx M2) (hh : ax_hd M2 3) (hd : decode M.2.1 pc = .ok (.invokestatic idx, 3)) (hn : pc + 3 = n) (hdd : d2 + 1 ≤ d) (hcat : (st.map fun v => v.category).sum ≤ 8) (k : ∀ v μ3, ax_Rf M d x Z G n1 n2 n lc (.int v :: st) μ3 (f v μ3)) : ax_Rf M d x Z G n1 n2 pc lc (a2 :: a1 :: a0 :: st) μ (ax_bd τ f) :=
  rf_cS (As := [a0, a1, a2]) (ax_jI_sh G) hG hM hl2 hh hd hn hdd rfl rfl hcat k
theorem rf_cS3L {M2 : ax_Mi} {d2 idx : Nat} {a0 a1 a2 : Value} {τ : Option (Int64 × ax_M)} {f : Int64 → ax_M → Option (β × ax_M)} (hG : ax_ok G) (hM : ax_Ok M2 d2 ax_jL ([a0, a1, a2]) μ τ) (hl2 : ax_lS M.1.cls idx M2) (hh : ax_hd M2 3) (hd : decode M.2.1 pc = .ok (.invokestatic idx, 3)) (hn : pc + 3 = n) (hdd : d2 + 1 ≤ d) (hcat : (st.map fun v => v.category).sum ≤ 8) (k : ∀ v μ3, ax_Rf M d x Z G n1 n2 n lc (.long v :: st) μ3 (f v μ3)) : ax_Rf M d x Z G n1 n2 pc lc (a2 :: a1 :: a0 :: st) μ (ax_bd τ f) :=
  rf_cS (As := [a0, a1, a2]) (ax_jL_sh G) hG hM hl2 hh hd hn hdd rfl rfl hcat k
theorem rf_cS3V {M2 : ax_Mi} {d2 idx : Nat} {a0 a1 a2 : Value} {τ : Option (Unit × ax_M)} {f : Unit → ax_M → Option (β × ax_M)} (hG : ax_ok G) (hM : ax_Ok M2 d2 ax_jV ([a0, a1, a2]) μ τ) (hl2 : ax_lS M.1.cls idx M2) (hh : ax_hd M2 3) (hd : decode M.2.1 pc = .ok (.invokestatic idx, 3)) (hn : pc + 3 = n) (hdd : d2 + 1 ≤ d) (hcat : (st.map fun v => v.category).sum ≤ 8) (k : ∀ v μ3, ax_Rf M d x Z G n1 n2 n lc (st) μ3 (f v μ3)) : ax_Rf M d x Z G n1 n2 pc lc (a2 :: a1 :: a0 :: st) μ (ax_bd τ f) :=
  rf_cS (As := [a0, a1, a2]) (ax_jV_sh G) hG hM hl2 hh hd hn hdd rfl rfl hcat k
theorem rf_cS4I {M2 : ax_Mi} {d2 idx : Nat} {a0 a1 a2 a3 : Value} {τ : Option (Int32 × ax_M)} {f : Int32 → ax_M → Option (β × ax_M)} (hG : ax_ok G) (hM : ax_Ok M2 d2 ax_jI ([a0, a1, a2, a3]) μ τ) (hl2 : ax_lS M.1.cls idx M2) (hh : ax_hd M2 4) (hd : decode M.2.1 pc = .ok (.invokestatic idx, 3)) (hn : pc + 3 = n) (hdd : d2 + 1 ≤ d) (hcat : (st.map fun v => v.category).sum ≤ 8) (k : ∀ v μ3, ax_Rf M d x Z G n1 n2 n lc (.int v :: st) μ3 (f v μ3)) : ax_Rf M d x Z G n1 n2 pc lc (a3 :: a2 :: a1 :: a0 :: st) μ (ax_bd τ f) :=
  rf_cS (As := [a0, a1, a2, a3]) (ax_jI_sh G) hG hM hl2 hh hd hn hdd rfl rfl hcat k
theorem rf_cS4L {M2 : ax_Mi} {d2 idx : Nat} {a0 a1 a2 a3 : Value} {τ : Option (Int64 × ax_M)} {f : Int64 → ax_M → Option (β × ax_M)} (hG : ax_ok G) (hM : ax_Ok M2 d2 ax_jL ([a0, a1, a2, a3]) μ τ) (hl2 : ax_lS M.1.cls idx M2) (hh : ax_hd M2 4) (hd : decode M.2.1 pc = .ok (.invokestatic idx, 3)) (hn : pc + 3 = n) (hdd : d2 + 1 ≤ d) (hcat : (st.map fun v => v.category).sum ≤ 8) (k : ∀ v μ3, ax_Rf M d x Z G n1 n2 n lc (.long v :: st) μ3 (f v μ3)) : ax_Rf M d x Z G n1 n2 pc lc (a3 :: a2 :: a1 :: a0 :: st) μ (ax_bd τ f) :=
  rf_cS (As := [a0, a1, a2, a3]) (ax_jL_sh G) hG hM hl2 hh hd hn hdd rfl rfl hcat k
theorem rf_cS4V {M2 : ax_Mi} {d2 idx : Nat} {a0 a1 a2 a3 : Value} {τ : Option (Unit × ax_M)} {f : Unit → ax_M → Option (β × ax_M)} (hG : ax_ok G) (hM : ax_Ok M2 d2 ax_jV ([a0, a1, a2, a3]) μ τ) (hl2 : ax_lS M.1.cls idx M2) (hh : ax_hd M2 4) (hd : decode M.2.1 pc = .ok (.invokestatic idx, 3)) (hn : pc + 3 = n) (hdd : d2 + 1 ≤ d) (hcat : (st.map fun v => v.category).sum ≤ 8) (k : ∀ v μ3, ax_Rf M d x Z G n1 n2 n lc (st) μ3 (f v μ3)) : ax_Rf M d x Z G n1 n2 pc lc (a3 :: a2 :: a1 :: a0 :: st) μ (ax_bd τ f) :=
  rf_cS (As := [a0, a1, a2, a3]) (ax_jV_sh G) hG hM hl2 hh hd hn hdd rfl rfl hcat k
theorem rf_cS5I {M2 : ax_Mi} {d2 idx : Nat} {a0 a1 a2 a3 a4 : Value} {τ : Option (Int32 × ax_M)} {f : Int32 → ax_M → Option (β × ax_M)} (hG : ax_ok G) (hM : ax_Ok M2 d2 ax_jI ([a0, a1, a2, a3, a4]) μ τ) (hl2 : ax_lS M.1.cls idx M2) (hh : ax_hd M2 5) (hd : decode M.2.1 pc = .ok (.invokestatic idx, 3)) (hn : pc + 3 = n) (hdd : d2 + 1 ≤ d) (hcat : (st.map fun v => v.category).sum ≤ 8) (k : ∀ v μ3, ax_Rf M d x Z G n1 n2 n lc (.int v :: st) μ3 (f v μ3)) : ax_Rf M d x Z G n1 n2 pc lc (a4 :: a3 :: a2 :: a1 :: a0 :: st) μ (ax_bd τ f) :=
  rf_cS (As := [a0, a1, a2, a3, a4]) (ax_jI_sh G) hG hM hl2 hh hd hn hdd rfl rfl hcat k
theorem rf_cS5L {M2 : ax_Mi} {d2 idx : Nat} {a0 a1 a2 a3 a4 : Value} {τ : Option (Int64 × ax_M)} {f : Int64 → ax_M → Option (β × ax_M)} (hG : ax_ok G) (hM : ax_Ok M2 d2 ax_jL ([a0, a1, a2, a3, a4]) μ τ) (hl2 : ax_lS M.1.cls idx M2) (hh : ax_hd M2 5) (hd : decode M.2.1 pc = .ok (.invokestatic idx, 3)) (hn : pc + 3 = n) (hdd : d2 + 1 ≤ d) (hcat : (st.map fun v => v.category).sum ≤ 8) (k : ∀ v μ3, ax_Rf M d x Z G n1 n2 n lc (.long v :: st) μ3 (f v μ3)) : ax_Rf M d x Z G n1 n2 pc lc (a4 :: a3 :: a2 :: a1 :: a0 :: st) μ (ax_bd τ f) :=
  rf_cS (As := [a0, a1, a2, a3, a4]) (ax_jL_sh G) hG hM hl2 hh hd hn hdd rfl rfl hcat k
theorem rf_cS5V {M2 : ax_Mi} {d2 idx : Nat} {a0 a1 a2 a3 a4 : Value} {τ : Option (Unit × ax_M)} {f : Unit → ax_M → Option (β × ax_M)} (hG : ax_ok G) (hM : ax_Ok M2 d2 ax_jV ([a0, a1, a2, a3, a4]) μ τ) (hl2 : ax_lS M.1.cls idx M2) (hh : ax_hd M2 5) (hd : decode M.2.1 pc = .ok (.invokestatic idx, 3)) (hn : pc + 3 = n) (hdd : d2 + 1 ≤ d) (hcat : (st.map fun v => v.category).sum ≤ 8) (k : ∀ v μ3, ax_Rf M d x Z G n1 n2 n lc (st) μ3 (f v μ3)) : ax_Rf M d x Z G n1 n2 pc lc (a4 :: a3 :: a2 :: a1 :: a0 :: st) μ (ax_bd τ f) :=
  rf_cS (As := [a0, a1, a2, a3, a4]) (ax_jV_sh G) hG hM hl2 hh hd hn hdd rfl rfl hcat k
theorem rf_cS6I {M2 : ax_Mi} {d2 idx : Nat} {a0 a1 a2 a3 a4 a5 : Value} {τ : Option (Int32 × ax_M)} {f : Int32 → ax_M → Option (β × ax_M)} (hG : ax_ok G) (hM : ax_Ok M2 d2 ax_jI ([a0, a1, a2, a3, a4, a5]) μ τ) (hl2 : ax_lS M.1.cls idx M2) (hh : ax_hd M2 6) (hd : decode M.2.1 pc = .ok (.invokestatic idx, 3)) (hn : pc + 3 = n) (hdd : d2 + 1 ≤ d) (hcat : (st.map fun v => v.category).sum ≤ 8) (k : ∀ v μ3, ax_Rf M d x Z G n1 n2 n lc (.int v :: st) μ3 (f v μ3)) : ax_Rf M d x Z G n1 n2 pc lc (a5 :: a4 :: a3 :: a2 :: a1 :: a0 :: st) μ (ax_bd τ f) :=
  rf_cS (As := [a0, a1, a2, a3, a4, a5]) (ax_jI_sh G) hG hM hl2 hh hd hn hdd rfl rfl hcat k
theorem rf_cS6L {M2 : ax_Mi} {d2 idx : Nat} {a0 a1 a2 a3 a4 a5 : Value} {τ : Option (Int64 × ax_M)} {f : Int64 → ax_M → Option (β × ax_M)} (hG : ax_ok G) (hM : ax_Ok M2 d2 ax_jL ([a0, a1, a2, a3, a4, a5]) μ τ) (hl2 : ax_lS M.1.cls idx M2) (hh : ax_hd M2 6) (hd : decode M.2.1 pc = .ok (.invokestatic idx, 3)) (hn : pc + 3 = n) (hdd : d2 + 1 ≤ d) (hcat : (st.map fun v => v.category).sum ≤ 8) (k : ∀ v μ3, ax_Rf M d x Z G n1 n2 n lc (.long v :: st) μ3 (f v μ3)) : ax_Rf M d x Z G n1 n2 pc lc (a5 :: a4 :: a3 :: a2 :: a1 :: a0 :: st) μ (ax_bd τ f) :=
  rf_cS (As := [a0, a1, a2, a3, a4, a5]) (ax_jL_sh G) hG hM hl2 hh hd hn hdd rfl rfl hcat k
theorem rf_cS6V {M2 : ax_Mi} {d2 idx : Nat} {a0 a1 a2 a3 a4 a5 : Value} {τ : Option (Unit × ax_M)} {f : Unit → ax_M → Option (β × ax_M)} (hG : ax_ok G) (hM : ax_Ok M2 d2 ax_jV ([a0, a1, a2, a3, a4, a5]) μ τ) (hl2 : ax_lS M.1.cls idx M2) (hh : ax_hd M2 6) (hd : decode M.2.1 pc = .ok (.invokestatic idx, 3)) (hn : pc + 3 = n) (hdd : d2 + 1 ≤ d) (hcat : (st.map fun v => v.category).sum ≤ 8) (k : ∀ v μ3, ax_Rf M d x Z G n1 n2 n lc (st) μ3 (f v μ3)) : ax_Rf M d x Z G n1 n2 pc lc (a5 :: a4 :: a3 :: a2 :: a1 :: a0 :: st) μ (ax_bd τ f) :=
  rf_cS (As := [a0, a1, a2, a3, a4, a5]) (ax_jV_sh G) hG hM hl2 hh hd hn hdd rfl rfl hcat k
theorem rf_cS7I {M2 : ax_Mi} {d2 idx : Nat} {a0 a1 a2 a3 a4 a5 a6 : Value} {τ : Option (Int32 × ax_M)} {f : Int32 → ax_M → Option (β × ax_M)} (hG : ax_ok G) (hM : ax_Ok M2 d2 ax_jI ([a0, a1, a2, a3, a4, a5, a6]) μ τ) (hl2 : ax_lS M.1.cls idx M2) (hh : ax_hd M2 7) (hd : decode M.2.1 pc = .ok (.invokestatic idx, 3)) (hn : pc + 3 = n) (hdd : d2 + 1 ≤ d) (hcat : (st.map fun v => v.category).sum ≤ 8) (k : ∀ v μ3, ax_Rf M d x Z G n1 n2 n lc (.int v :: st) μ3 (f v μ3)) : ax_Rf M d x Z G n1 n2 pc lc (a6 :: a5 :: a4 :: a3 :: a2 :: a1 :: a0 :: st) μ (ax_bd τ f) :=
  rf_cS (As := [a0, a1, a2, a3, a4, a5, a6]) (ax_jI_sh G) hG hM hl2 hh hd hn hdd rfl rfl hcat k
theorem rf_cS7L {M2 : ax_Mi} {d2 idx : Nat} {a0 a1 a2 a3 a4 a5 a6 : Value} {τ : Option (Int64 × ax_M)} {f : Int64 → ax_M → Option (β × ax_M)} (hG : ax_ok G) (hM : ax_Ok M2 d2 ax_jL ([a0, a1, a2, a3, a4, a5, a6]) μ τ) (hl2 : ax_lS M.1.cls idx M2) (hh : ax_hd M2 7) (hd : decode M.2.1 pc = .ok (.invokestatic idx, 3)) (hn : pc + 3 = n) (hdd : d2 + 1 ≤ d) (hcat : (st.map fun v => v.category).sum ≤ 8) (k : ∀ v μ3, ax_Rf M d x Z G n1 n2 n lc (.long v :: st) μ3 (f v μ3)) : ax_Rf M d x Z G n1 n2 pc lc (a6 :: a5 :: a4 :: a3 :: a2 :: a1 :: a0 :: st) μ (ax_bd τ f) :=
  rf_cS (As := [a0, a1, a2, a3, a4, a5, a6]) (ax_jL_sh G) hG hM hl2 hh hd hn hdd rfl rfl hcat k
theorem rf_cS7V {M2 : ax_Mi} {d2 idx : Nat} {a0 a1 a2 a3 a4 a5 a6 : Value} {τ : Option (Unit × ax_M)} {f : Unit → ax_M → Option (β × ax_M)} (hG : ax_ok G) (hM : ax_Ok M2 d2 ax_jV ([a0, a1, a2, a3, a4, a5, a6]) μ τ) (hl2 : ax_lS M.1.cls idx M2) (hh : ax_hd M2 7) (hd : decode M.2.1 pc = .ok (.invokestatic idx, 3)) (hn : pc + 3 = n) (hdd : d2 + 1 ≤ d) (hcat : (st.map fun v => v.category).sum ≤ 8) (k : ∀ v μ3, ax_Rf M d x Z G n1 n2 n lc (st) μ3 (f v μ3)) : ax_Rf M d x Z G n1 n2 pc lc (a6 :: a5 :: a4 :: a3 :: a2 :: a1 :: a0 :: st) μ (ax_bd τ f) :=
  rf_cS (As := [a0, a1, a2, a3, a4, a5, a6]) (ax_jV_sh G) hG hM hl2 hh hd hn hdd rfl rfl hcat k
theorem rf_cN0I {M2 : ax_Mi} {d2 idx : Nat} {τ : Option (Int32 × ax_M)} {f : Int32 → ax_M → Option (β × ax_M)} (hG : ax_ok G) (hM : ax_Ok M2 d2 ax_jI ([]) μ τ) (hl2 : ax_lN M.1.cls idx M2) (hh : ax_hd M2 0) (hd : decode M.2.1 pc = .ok (.invokestatic idx, 3)) (hn : pc + 3 = n) (hdd : d2 + 1 ≤ d) (hcat : (st.map fun v => v.category).sum ≤ 8) (k : ∀ v μ3, ax_Rf M d x Z G n1 n2 n lc (.int v :: st) μ3 (f v μ3)) : ax_Rf M d x Z G n1 n2 pc lc (st) μ (ax_bd τ f) :=
  rf_cN (As := []) (ax_jI_sh G) hG hM hl2 hh hd hn hdd rfl rfl hcat k
theorem rf_cN0L {M2 : ax_Mi} {d2 idx : Nat} {τ : Option (Int64 × ax_M)} {f : Int64 → ax_M → Option (β × ax_M)} (hG : ax_ok G) (hM : ax_Ok M2 d2 ax_jL ([]) μ τ) (hl2 : ax_lN M.1.cls idx M2) (hh : ax_hd M2 0) (hd : decode M.2.1 pc = .ok (.invokestatic idx, 3)) (hn : pc + 3 = n) (hdd : d2 + 1 ≤ d) (hcat : (st.map fun v => v.category).sum ≤ 8) (k : ∀ v μ3, ax_Rf M d x Z G n1 n2 n lc (.long v :: st) μ3 (f v μ3)) : ax_Rf M d x Z G n1 n2 pc lc (st) μ (ax_bd τ f) :=
  rf_cN (As := []) (ax_jL_sh G) hG hM hl2 hh hd hn hdd rfl rfl hcat k
theorem rf_cN0V {M2 : ax_Mi} {d2 idx : Nat} {τ : Option (Unit × ax_M)} {f : Unit → ax_M → Option (β × ax_M)} (hG : ax_ok G) (hM : ax_Ok M2 d2 ax_jV ([]) μ τ) (hl2 : ax_lN M.1.cls idx M2) (hh : ax_hd M2 0) (hd : decode M.2.1 pc = .ok (.invokestatic idx, 3)) (hn : pc + 3 = n) (hdd : d2 + 1 ≤ d) (hcat : (st.map fun v => v.category).sum ≤ 8) (k : ∀ v μ3, ax_Rf M d x Z G n1 n2 n lc (st) μ3 (f v μ3)) : ax_Rf M d x Z G n1 n2 pc lc (st) μ (ax_bd τ f) :=
  rf_cN (As := []) (ax_jV_sh G) hG hM hl2 hh hd hn hdd rfl rfl hcat k
theorem rf_cN1I {M2 : ax_Mi} {d2 idx : Nat} {a0 : Value} {τ : Option (Int32 × ax_M)} {f : Int32 → ax_M → Option (β × ax_M)} (hG : ax_ok G) (hM : ax_Ok M2 d2 ax_jI ([a0]) μ τ) (hl2 : ax_lN M.1.cls idx M2) (hh : ax_hd M2 1) (hd : decode M.2.1 pc = .ok (.invokestatic idx, 3)) (hn : pc + 3 = n) (hdd : d2 + 1 ≤ d) (hcat : (st.map fun v => v.category).sum ≤ 8) (k : ∀ v μ3, ax_Rf M d x Z G n1 n2 n lc (.int v :: st) μ3 (f v μ3)) : ax_Rf M d x Z G n1 n2 pc lc (a0 :: st) μ (ax_bd τ f) :=
  rf_cN (As := [a0]) (ax_jI_sh G) hG hM hl2 hh hd hn hdd rfl rfl hcat k
theorem rf_cN1L {M2 : ax_Mi} {d2 idx : Nat} {a0 : Value} {τ : Option (Int64 × ax_M)} {f : Int64 → ax_M → Option (β × ax_M)} (hG : ax_ok G) (hM : ax_Ok M2 d2 ax_jL ([a0]) μ τ) (hl2 : ax_lN M.1.cls idx M2) (hh : ax_hd M2 1) (hd : decode M.2.1 pc = .ok (.invokestatic idx, 3)) (hn : pc + 3 = n) (hdd : d2 + 1 ≤ d) (hcat : (st.map fun v => v.category).sum ≤ 8) (k : ∀ v μ3, ax_Rf M d x Z G n1 n2 n lc (.long v :: st) μ3 (f v μ3)) : ax_Rf M d x Z G n1 n2 pc lc (a0 :: st) μ (ax_bd τ f) :=
  rf_cN (As := [a0]) (ax_jL_sh G) hG hM hl2 hh hd hn hdd rfl rfl hcat k
theorem rf_cN1V {M2 : ax_Mi} {d2 idx : Nat} {a0 : Value} {τ : Option (Unit × ax_M)} {f : Unit → ax_M → Option (β × ax_M)} (hG : ax_ok G) (hM : ax_Ok M2 d2 ax_jV ([a0]) μ τ) (hl2 : ax_lN M.1.cls idx M2) (hh : ax_hd M2 1) (hd : decode M.2.1 pc = .ok (.invokestatic idx, 3)) (hn : pc + 3 = n) (hdd : d2 + 1 ≤ d) (hcat : (st.map fun v => v.category).sum ≤ 8) (k : ∀ v μ3, ax_Rf M d x Z G n1 n2 n lc (st) μ3 (f v μ3)) : ax_Rf M d x Z G n1 n2 pc lc (a0 :: st) μ (ax_bd τ f) :=
  rf_cN (As := [a0]) (ax_jV_sh G) hG hM hl2 hh hd hn hdd rfl rfl hcat k
theorem rf_cN2I {M2 : ax_Mi} {d2 idx : Nat} {a0 a1 : Value} {τ : Option (Int32 × ax_M)} {f : Int32 → ax_M → Option (β × ax_M)} (hG : ax_ok G) (hM : ax_Ok M2 d2 ax_jI ([a0, a1]) μ τ) (hl2 : ax_lN M.1.cls idx M2) (hh : ax_hd M2 2) (hd : decode M.2.1 pc = .ok (.invokestatic idx, 3)) (hn : pc + 3 = n) (hdd : d2 + 1 ≤ d) (hcat : (st.map fun v => v.category).sum ≤ 8) (k : ∀ v μ3, ax_Rf M d x Z G n1 n2 n lc (.int v :: st) μ3 (f v μ3)) : ax_Rf M d x Z G n1 n2 pc lc (a1 :: a0 :: st) μ (ax_bd τ f) :=
  rf_cN (As := [a0, a1]) (ax_jI_sh G) hG hM hl2 hh hd hn hdd rfl rfl hcat k
theorem rf_cN2L {M2 : ax_Mi} {d2 idx : Nat} {a0 a1 : Value} {τ : Option (Int64 × ax_M)} {f : Int64 → ax_M → Option (β × ax_M)} (hG : ax_ok G) (hM : ax_Ok M2 d2 ax_jL ([a0, a1]) μ τ) (hl2 : ax_lN M.1.cls idx M2) (hh : ax_hd M2 2) (hd : decode M.2.1 pc = .ok (.invokestatic idx, 3)) (hn : pc + 3 = n) (hdd : d2 + 1 ≤ d) (hcat : (st.map fun v => v.category).sum ≤ 8) (k : ∀ v μ3, ax_Rf M d x Z G n1 n2 n lc (.long v :: st) μ3 (f v μ3)) : ax_Rf M d x Z G n1 n2 pc lc (a1 :: a0 :: st) μ (ax_bd τ f) :=
  rf_cN (As := [a0, a1]) (ax_jL_sh G) hG hM hl2 hh hd hn hdd rfl rfl hcat k
theorem rf_cN2V {M2 : ax_Mi} {d2 idx : Nat} {a0 a1 : Value} {τ : Option (Unit × ax_M)} {f : Unit → ax_M → Option (β × ax_M)} (hG : ax_ok G) (hM : ax_Ok M2 d2 ax_jV ([a0, a1]) μ τ) (hl2 : ax_lN M.1.cls idx M2) (hh : ax_hd M2 2) (hd : decode M.2.1 pc = .ok (.invokestatic idx, 3)) (hn : pc + 3 = n) (hdd : d2 + 1 ≤ d) (hcat : (st.map fun v => v.category).sum ≤ 8) (k : ∀ v μ3, ax_Rf M d x Z G n1 n2 n lc (st) μ3 (f v μ3)) : ax_Rf M d x Z G n1 n2 pc lc (a1 :: a0 :: st) μ (ax_bd τ f) :=
  rf_cN (As := [a0, a1]) (ax_jV_sh G) hG hM hl2 hh hd hn hdd rfl rfl hcat k
theorem rf_cN3I {M2 : ax_Mi} {d2 idx : Nat} {a0 a1 a2 : Value} {τ : Option (Int32 × ax_M)} {f : Int32 → ax_M → Option (β × ax_M)} (hG : ax_ok G) (hM : ax_Ok M2 d2 ax_jI ([a0, a1, a2]) μ τ) (hl2 : ax_lN M.1.cls idx M2) (hh : ax_hd M2 3) (hd : decode M.2.1 pc = .ok (.invokestatic idx, 3)) (hn : pc + 3 = n) (hdd : d2 + 1 ≤ d) (hcat : (st.map fun v => v.category).sum ≤ 8) (k : ∀ v μ3, ax_Rf M d x Z G n1 n2 n lc (.int v :: st) μ3 (f v μ3)) : ax_Rf M d x Z G n1 n2 pc lc (a2 :: a1 :: a0 :: st) μ (ax_bd τ f) :=
  rf_cN (As := [a0, a1, a2]) (ax_jI_sh G) hG hM hl2 hh hd hn hdd rfl rfl hcat k
theorem rf_cN3L {M2 : ax_Mi} {d2 idx : Nat} {a0 a1 a2 : Value} {τ : Option (Int64 × ax_M)} {f : Int64 → ax_M → Option (β × ax_M)} (hG : ax_ok G) (hM : ax_Ok M2 d2 ax_jL ([a0, a1, a2]) μ τ) (hl2 : ax_lN M.1.cls idx M2) (hh : ax_hd M2 3) (hd : decode M.2.1 pc = .ok (.invokestatic idx, 3)) (hn : pc + 3 = n) (hdd : d2 + 1 ≤ d) (hcat : (st.map fun v => v.category).sum ≤ 8) (k : ∀ v μ3, ax_Rf M d x Z G n1 n2 n lc (.long v :: st) μ3 (f v μ3)) : ax_Rf M d x Z G n1 n2 pc lc (a2 :: a1 :: a0 :: st) μ (ax_bd τ f) :=
  rf_cN (As := [a0, a1, a2]) (ax_jL_sh G) hG hM hl2 hh hd hn hdd rfl rfl hcat k
theorem rf_cN3V {M2 : ax_Mi} {d2 idx : Nat} {a0 a1 a2 : Value} {τ : Option (Unit × ax_M)} {f : Unit → ax_M → Option (β × ax_M)} (hG : ax_ok G) (hM : ax_Ok M2 d2 ax_jV ([a0, a1, a2]) μ τ) (hl2 : ax_lN M.1.cls idx M2) (hh : ax_hd M2 3) (hd : decode M.2.1 pc = .ok (.invokestatic idx, 3)) (hn : pc + 3 = n) (hdd : d2 + 1 ≤ d) (hcat : (st.map fun v => v.category).sum ≤ 8) (k : ∀ v μ3, ax_Rf M d x Z G n1 n2 n lc (st) μ3 (f v μ3)) : ax_Rf M d x Z G n1 n2 pc lc (a2 :: a1 :: a0 :: st) μ (ax_bd τ f) :=
  rf_cN (As := [a0, a1, a2]) (ax_jV_sh G) hG hM hl2 hh hd hn hdd rfl rfl hcat k
theorem rf_cN4I {M2 : ax_Mi} {d2 idx : Nat} {a0 a1 a2 a3 : Value} {τ : Option (Int32 × ax_M)} {f : Int32 → ax_M → Option (β × ax_M)} (hG : ax_ok G) (hM : ax_Ok M2 d2 ax_jI ([a0, a1, a2, a3]) μ τ) (hl2 : ax_lN M.1.cls idx M2) (hh : ax_hd M2 4) (hd : decode M.2.1 pc = .ok (.invokestatic idx, 3)) (hn : pc + 3 = n) (hdd : d2 + 1 ≤ d) (hcat : (st.map fun v => v.category).sum ≤ 8) (k : ∀ v μ3, ax_Rf M d x Z G n1 n2 n lc (.int v :: st) μ3 (f v μ3)) : ax_Rf M d x Z G n1 n2 pc lc (a3 :: a2 :: a1 :: a0 :: st) μ (ax_bd τ f) :=
  rf_cN (As := [a0, a1, a2, a3]) (ax_jI_sh G) hG hM hl2 hh hd hn hdd rfl rfl hcat k
theorem rf_cN4L {M2 : ax_Mi} {d2 idx : Nat} {a0 a1 a2 a3 : Value} {τ : Option (Int64 × ax_M)} {f : Int64 → ax_M → Option (β × ax_M)} (hG : ax_ok G) (hM : ax_Ok M2 d2 ax_jL ([a0, a1, a2, a3]) μ τ) (hl2 : ax_lN M.1.cls idx M2) (hh : ax_hd M2 4) (hd : decode M.2.1 pc = .ok (.invokestatic idx, 3)) (hn : pc + 3 = n) (hdd : d2 + 1 ≤ d) (hcat : (st.map fun v => v.category).sum ≤ 8) (k : ∀ v μ3, ax_Rf M d x Z G n1 n2 n lc (.long v :: st) μ3 (f v μ3)) : ax_Rf M d x Z G n1 n2 pc lc (a3 :: a2 :: a1 :: a0 :: st) μ (ax_bd τ f) :=
  rf_cN (As := [a0, a1, a2, a3]) (ax_jL_sh G) hG hM hl2 hh hd hn hdd rfl rfl hcat k
theorem rf_cN4V {M2 : ax_Mi} {d2 idx : Nat} {a0 a1 a2 a3 : Value} {τ : Option (Unit × ax_M)} {f : Unit → ax_M → Option (β × ax_M)} (hG : ax_ok G) (hM : ax_Ok M2 d2 ax_jV ([a0, a1, a2, a3]) μ τ) (hl2 : ax_lN M.1.cls idx M2) (hh : ax_hd M2 4) (hd : decode M.2.1 pc = .ok (.invokestatic idx, 3)) (hn : pc + 3 = n) (hdd : d2 + 1 ≤ d) (hcat : (st.map fun v => v.category).sum ≤ 8) (k : ∀ v μ3, ax_Rf M d x Z G n1 n2 n lc (st) μ3 (f v μ3)) : ax_Rf M d x Z G n1 n2 pc lc (a3 :: a2 :: a1 :: a0 :: st) μ (ax_bd τ f) :=
  rf_cN (As := [a0, a1, a2, a3]) (ax_jV_sh G) hG hM hl2 hh hd hn hdd rfl rfl hcat k
theorem rf_cN5I {M2 : ax_Mi} {d2 idx : Nat} {a0 a1 a2 a3 a4 : Value} {τ : Option (Int32 × ax_M)} {f : Int32 → ax_M → Option (β × ax_M)} (hG : ax_ok G) (hM : ax_Ok M2 d2 ax_jI ([a0, a1, a2, a3, a4]) μ τ) (hl2 : ax_lN M.1.cls idx M2) (hh : ax_hd M2 5) (hd : decode M.2.1 pc = .ok (.invokestatic idx, 3)) (hn : pc + 3 = n) (hdd : d2 + 1 ≤ d) (hcat : (st.map fun v => v.category).sum ≤ 8) (k : ∀ v μ3, ax_Rf M d x Z G n1 n2 n lc (.int v :: st) μ3 (f v μ3)) : ax_Rf M d x Z G n1 n2 pc lc (a4 :: a3 :: a2 :: a1 :: a0 :: st) μ (ax_bd τ f) :=
  rf_cN (As := [a0, a1, a2, a3, a4]) (ax_jI_sh G) hG hM hl2 hh hd hn hdd rfl rfl hcat k
theorem rf_cN5L {M2 : ax_Mi} {d2 idx : Nat} {a0 a1 a2 a3 a4 : Value} {τ : Option (Int64 × ax_M)} {f : Int64 → ax_M → Option (β × ax_M)} (hG : ax_ok G) (hM : ax_Ok M2 d2 ax_jL ([a0, a1, a2, a3, a4]) μ τ) (hl2 : ax_lN M.1.cls idx M2) (hh : ax_hd M2 5) (hd : decode M.2.1 pc = .ok (.invokestatic idx, 3)) (hn : pc + 3 = n) (hdd : d2 + 1 ≤ d) (hcat : (st.map fun v => v.category).sum ≤ 8) (k : ∀ v μ3, ax_Rf M d x Z G n1 n2 n lc (.long v :: st) μ3 (f v μ3)) : ax_Rf M d x Z G n1 n2 pc lc (a4 :: a3 :: a2 :: a1 :: a0 :: st) μ (ax_bd τ f) :=
  rf_cN (As := [a0, a1, a2, a3, a4]) (ax_jL_sh G) hG hM hl2 hh hd hn hdd rfl rfl hcat k
theorem rf_cN5V {M2 : ax_Mi} {d2 idx : Nat} {a0 a1 a2 a3 a4 : Value} {τ : Option (Unit × ax_M)} {f : Unit → ax_M → Option (β × ax_M)} (hG : ax_ok G) (hM : ax_Ok M2 d2 ax_jV ([a0, a1, a2, a3, a4]) μ τ) (hl2 : ax_lN M.1.cls idx M2) (hh : ax_hd M2 5) (hd : decode M.2.1 pc = .ok (.invokestatic idx, 3)) (hn : pc + 3 = n) (hdd : d2 + 1 ≤ d) (hcat : (st.map fun v => v.category).sum ≤ 8) (k : ∀ v μ3, ax_Rf M d x Z G n1 n2 n lc (st) μ3 (f v μ3)) : ax_Rf M d x Z G n1 n2 pc lc (a4 :: a3 :: a2 :: a1 :: a0 :: st) μ (ax_bd τ f) :=
  rf_cN (As := [a0, a1, a2, a3, a4]) (ax_jV_sh G) hG hM hl2 hh hd hn hdd rfl rfl hcat k
theorem rf_cN6I {M2 : ax_Mi} {d2 idx : Nat} {a0 a1 a2 a3 a4 a5 : Value} {τ : Option (Int32 × ax_M)} {f : Int32 → ax_M → Option (β × ax_M)} (hG : ax_ok G) (hM : ax_Ok M2 d2 ax_jI ([a0, a1, a2, a3, a4, a5]) μ τ) (hl2 : ax_lN M.1.cls idx M2) (hh : ax_hd M2 6) (hd : decode M.2.1 pc = .ok (.invokestatic idx, 3)) (hn : pc + 3 = n) (hdd : d2 + 1 ≤ d) (hcat : (st.map fun v => v.category).sum ≤ 8) (k : ∀ v μ3, ax_Rf M d x Z G n1 n2 n lc (.int v :: st) μ3 (f v μ3)) : ax_Rf M d x Z G n1 n2 pc lc (a5 :: a4 :: a3 :: a2 :: a1 :: a0 :: st) μ (ax_bd τ f) :=
  rf_cN (As := [a0, a1, a2, a3, a4, a5]) (ax_jI_sh G) hG hM hl2 hh hd hn hdd rfl rfl hcat k
theorem rf_cN6L {M2 : ax_Mi} {d2 idx : Nat} {a0 a1 a2 a3 a4 a5 : Value} {τ : Option (Int64 × ax_M)} {f : Int64 → ax_M → Option (β × ax_M)} (hG : ax_ok G) (hM : ax_Ok M2 d2 ax_jL ([a0, a1, a2, a3, a4, a5]) μ τ) (hl2 : ax_lN M.1.cls idx M2) (hh : ax_hd M2 6) (hd : decode M.2.1 pc = .ok (.invokestatic idx, 3)) (hn : pc + 3 = n) (hdd : d2 + 1 ≤ d) (hcat : (st.map fun v => v.category).sum ≤ 8) (k : ∀ v μ3, ax_Rf M d x Z G n1 n2 n lc (.long v :: st) μ3 (f v μ3)) : ax_Rf M d x Z G n1 n2 pc lc (a5 :: a4 :: a3 :: a2 :: a1 :: a0 :: st) μ (ax_bd τ f) :=
  rf_cN (As := [a0, a1, a2, a3, a4, a5]) (ax_jL_sh G) hG hM hl2 hh hd hn hdd rfl rfl hcat k
theorem rf_cN6V {M2 : ax_Mi} {d2 idx : Nat} {a0 a1 a2 a3 a4 a5 : Value} {τ : Option (Unit × ax_M)} {f : Unit → ax_M → Option (β × ax_M)} (hG : ax_ok G) (hM : ax_Ok M2 d2 ax_jV ([a0, a1, a2, a3, a4, a5]) μ τ) (hl2 : ax_lN M.1.cls idx M2) (hh : ax_hd M2 6) (hd : decode M.2.1 pc = .ok (.invokestatic idx, 3)) (hn : pc + 3 = n) (hdd : d2 + 1 ≤ d) (hcat : (st.map fun v => v.category).sum ≤ 8) (k : ∀ v μ3, ax_Rf M d x Z G n1 n2 n lc (st) μ3 (f v μ3)) : ax_Rf M d x Z G n1 n2 pc lc (a5 :: a4 :: a3 :: a2 :: a1 :: a0 :: st) μ (ax_bd τ f) :=
  rf_cN (As := [a0, a1, a2, a3, a4, a5]) (ax_jV_sh G) hG hM hl2 hh hd hn hdd rfl rfl hcat k
theorem rf_cN7I {M2 : ax_Mi} {d2 idx : Nat} {a0 a1 a2 a3 a4 a5 a6 : Value} {τ : Option (Int32 × ax_M)} {f : Int32 → ax_M → Option (β × ax_M)} (hG : ax_ok G) (hM : ax_Ok M2 d2 ax_jI ([a0, a1, a2, a3, a4, a5, a6]) μ τ) (hl2 : ax_lN M.1.cls idx M2) (hh : ax_hd M2 7) (hd : decode M.2.1 pc = .ok (.invokestatic idx, 3)) (hn : pc + 3 = n) (hdd : d2 + 1 ≤ d) (hcat : (st.map fun v => v.category).sum ≤ 8) (k : ∀ v μ3, ax_Rf M d x Z G n1 n2 n lc (.int v :: st) μ3 (f v μ3)) : ax_Rf M d x Z G n1 n2 pc lc (a6 :: a5 :: a4 :: a3 :: a2 :: a1 :: a0 :: st) μ (ax_bd τ f) :=
  rf_cN (As := [a0, a1, a2, a3, a4, a5, a6]) (ax_jI_sh G) hG hM hl2 hh hd hn hdd rfl rfl hcat k
theorem rf_cN7L {M2 : ax_Mi} {d2 idx : Nat} {a0 a1 a2 a3 a4 a5 a6 : Value} {τ : Option (Int64 × ax_M)} {f : Int64 → ax_M → Option (β × ax_M)} (hG : ax_ok G) (hM : ax_Ok M2 d2 ax_jL ([a0, a1, a2, a3, a4, a5, a6]) μ τ) (hl2 : ax_lN M.1.cls idx M2) (hh : ax_hd M2 7) (hd : decode M.2.1 pc = .ok (.invokestatic idx, 3)) (hn : pc + 3 = n) (hdd : d2 + 1 ≤ d) (hcat : (st.map fun v => v.category).sum ≤ 8) (k : ∀ v μ3, ax_Rf M d x Z G n1 n2 n lc (.long v :: st) μ3 (f v μ3)) : ax_Rf M d x Z G n1 n2 pc lc (a6 :: a5 :: a4 :: a3 :: a2 :: a1 :: a0 :: st) μ (ax_bd τ f) :=
  rf_cN (As := [a0, a1, a2, a3, a4, a5, a6]) (ax_jL_sh G) hG hM hl2 hh hd hn hdd rfl rfl hcat k
theorem rf_cN7V {M2 : ax_Mi} {d2 idx : Nat} {a0 a1 a2 a3 a4 a5 a6 : Value} {τ : Option (Unit × ax_M)} {f : Unit → ax_M → Option (β × ax_M)} (hG : ax_ok G) (hM : ax_Ok M2 d2 ax_jV ([a0, a1, a2, a3, a4, a5, a6]) μ τ) (hl2 : ax_lN M.1.cls idx M2) (hh : ax_hd M2 7) (hd : decode M.2.1 pc = .ok (.invokestatic idx, 3)) (hn : pc + 3 = n) (hdd : d2 + 1 ≤ d) (hcat : (st.map fun v => v.category).sum ≤ 8) (k : ∀ v μ3, ax_Rf M d x Z G n1 n2 n lc (st) μ3 (f v μ3)) : ax_Rf M d x Z G n1 n2 pc lc (a6 :: a5 :: a4 :: a3 :: a2 :: a1 :: a0 :: st) μ (ax_bd τ f) :=
  rf_cN (As := [a0, a1, a2, a3, a4, a5, a6]) (ax_jV_sh G) hG hM hl2 hh hd hn hdd rfl rfl hcat k
end AXF
