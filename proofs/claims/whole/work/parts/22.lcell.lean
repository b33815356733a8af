def ax_room8 : Room := { frames := 8, cells := 1, slots := 6, locals := 512 }
def ax_PreE (G : ax_G) (μ : ax_M) (U : State) : Prop := ax_Pre G μ U ∧ ax_Xe G U
theorem ax_blindE (G : ax_G) (μ : ax_M) (vs : List Value) : FrameBlind (va_Pc vs (ax_PreE G μ)) := by
  intro a U g mk h
  obtain ⟨h1, ⟨h2, h3, h4⟩, h5⟩ := h
  exact ⟨h1, ⟨h2, ax_K_same (u := U) (U := U.calling g mk a) rfl rfl h3, h4⟩, ax_Xe_same (u := U) (U := U.calling g mk a) rfl rfl h5⟩
/-- LatchTimes.cell -/
theorem okX8_cell {l : Launch} (hst : l.stackTraces = false) {G : ax_G} (hG : ax_ok G) (p1 p2 : Int32) (μ : ax_M) (r : Int32 × Int32) (μ2 : ax_M) (ht : fX8_cell p1 p2 μ = some (r, μ2)) :
    vx_Met l yX8_cell (ax_mw mX8_cell) ax_room8 (va_Pc (([.ref 0, .int p1, .int p2] : List Value).map (ax_sh G)) (ax_PreE G μ)) (ax_QX G r μ2) (ax_XX G r μ2) 1 6 (ax_A G) := by
  refine vx_ofW (cc := cX8_cell) (maxL := 3) (ret := some .int) (by decide) rfl ?_
  intro p e s m args below meth c s₁ B hml htab hv
  obtain ⟨rfl, ⟨hR, hK, hb⟩, hE⟩ := hv
  have hts := atoms_spec (ws := ax_mw mX8_cell) B.pre
  have hl := lv_entry (([.ref 0, .int p1, .int p2] : List Value).map (ax_sh G)) (n := 3) (by rw [ax_sl_len]; exact Nat.le_of_ble_eq_true rfl)
  rw [lg_entry_eq]
  refine pX8_cell p1 p2 μ (x := (p, l, e, _, s, m, _, below, meth, c)) hG hE hst htab (Nat.le_refl _) (Nat.le_refl _) r μ2 ht ⟨B.exec, B.bytes, hml, findClass_of_methodNamed B.named, fun w hw => hts w (List.mem_cons_of_mem _ hw), B.returns, B.notSynchronized, hK, Nat.le_refl _, Nat.le_refl _, hb, (name_of_methodNamed B.named B.method).1⟩ (Nat.zero_le _) (Nat.zero_le _) s.heap [] _ hR va_S.rf ⟨hl.1, hl.2.1, fun i v hv => ?_⟩
  exact hl.2.2 (i, ax_sh G v) (by simpa using ax_ent_mem G [.ref 0, .int p1, .int p2] 0 i v 0 hv)
/-! LatchTimesLaw.cell: what cell answers, or 1, 2 for what it throws -/
abbrev mL_cell : ax_Mi := (yL_cell, cL_cell, 5, some .int)
def fL_cell (p1 p2 : Int32) (μ : ax_M) : Option (Int32 × ax_M) := ax_bd (fX8_cell p1 p2 μ) (fun r m => if r.1 = 0 then Option.bind (ax_wrl m 84 1 0 r.2.toInt64) (fun m2 => some (0, m2)) else if r.1 = 1 then some (1, m) else some (2, m))
def ax_Z16 (x : ax_X) (G : ax_G) : Int32 → ax_M → State → Prop := fun r μ2 => MQ (ax_xb x) (ax_Q G (ax_jI r) μ2) (ax_xa x) (ax_xs x) 1 6 (ax_A G)
section AXL
variable {β : Type} {M : ax_Mi} {d : Nat} {x : ax_X} {Z : β → ax_M → State → Prop} {G : ax_G} {n1 n2 pc n : Nat} {lc : List (Option Value)} {st : List Value} {μ : ax_M} {t : Option (β × ax_M)}
theorem rf_ret16 {v : Int32} (hr : M.2.2.2 = some .int) (hd : decode M.2.1 pc = .ok (.ireturn, 1)) : ax_Rf M d x (ax_Z16 x G) G 1 6 pc lc [.int v] μ (some (v, μ)) := by
  intro r μ2 ht hC h1 h2 H locs ls hR hS hl
  cases ht
  exact W.iret hC.1 hC.2.1 (hC.2.2.2.2.2.1.trans hr) (fun t ht hW => ⟨rfl, by rw [ht]; exact hR, hS.F ht⟩) hS.2.2 hd hC.2.2.2.2.2.2.1
theorem ax_sh_ref2 {i : Nat} (h : i < 1000000) : ax_sh G (.ref i) = .ref (ax_gb G + i) := if_pos h
/-- the law's own long array -/
theorem rf_lastO {i : Int32} {v : Int64} {f : ax_M → Option (β × ax_M)} (hk : 84 < ax_gk G) (hd : decode M.2.1 pc = .ok (.lastore, 1)) (hn : pc + 1 = n) (k : ∀ μ3, ax_Rf M d x Z G n1 n2 n lc st μ3 (f μ3)) : ax_Rf M d x Z G n1 n2 pc lc (.long v :: .int i :: .ref 84 :: st) μ (Option.bind (ax_wrl μ 84 1 i v) f) := by
  subst hn
  intro r μ2 ht hC h1 h2 H locs ls hR hS hl
  by_cases hz : ax_in i 1 = true
  · simp only [ax_wrl, if_pos hz, Option.bind_some] at ht
    have e1 := ax_ws_at (G := G) (μ := μ) (i := 84) hk
    rw [ax_e_l (n := 1) rfl] at e1
    simp only [List.map_cons, ax_sh_ref2 (G := G) (i := 84) (by decide)]
    refine va_last hC.1 hC.2.1 hC.2.2.2.2.2.2.2.1.1 hR (ax_ws_D G μ) hS 84 1 e1 rfl (ax_in_vp hz) hd (fun H3 locs3 hP3 _ hS3 => ?_)
    refine k _ r μ2 ht hC h1 h2 H3 locs3 ls ?_ hS3 hl
    rw [ax_ws_set (μ2 := ax_wl μ 84 i.toNatClampNeg v) (by rw [ax_e_l (n := 1) rfl, ax_wl_upd]) (fun q hq => ax_e_wl hq)] at hP3
    exact hP3
  · simp [ax_wrl, hz] at ht
theorem rf_laldO {i : Int32} {f : Int64 → Option (β × ax_M)} (hk : 84 < ax_gk G) (hd : decode M.2.1 pc = .ok (.laload, 1)) (hn : pc + 1 = n) (k : ∀ v, ax_Rf M d x Z G n1 n2 n lc (.long v :: st) μ (f v)) : ax_Rf M d x Z G n1 n2 pc lc (.int i :: .ref 84 :: st) μ (Option.bind (ax_rl μ 84 1 i) f) := by
  subst hn
  intro r μ2 ht hC h1 h2 H locs ls hR hS hl
  by_cases hz : ax_in i 1 = true
  · simp only [ax_rl, if_pos hz, Option.bind_some] at ht
    have e1 := ax_ws_at (G := G) (μ := μ) (i := 84) hk
    rw [ax_e_l (n := 1) rfl] at e1
    have h4 := k _ r μ2 ht hC h1 h2 H locs ls hR hS hl
    simp only [List.map_cons, ax_sh_ref2 (G := G) (i := 84) (by decide)] at h4 ⊢
    exact va_lald hC.1 hC.2.1 hC.2.2.2.2.2.2.2.1.1 hR 84 1 e1 rfl (ax_in_vp hz) hd h4
  · simp [ax_rl, hz] at ht
end AXL
theorem lVL_7 : ax_lV RL 7 mX8_cell := ⟨ax_tbl_of 1086 (by decide +kernel) rfl, ax_tbl_of 1087 (by decide +kernel) rfl, ax_tbl_of 1088 (by decide +kernel) rfl⟩
def ax_hs : List (Nat × Nat × Nat × Nat) := [(0, 10, 13, 13), (0, 10, 17, 15)]
set_option maxHeartbeats 1000000 in
/-- the walk from the call of cell on -/
theorem pL_cell {x : ax_X} {G : ax_G} (hG : ax_ok G) (hk : 84 < ax_gk G) (hst : x.2.1.stackTraces = false) (hE : ax_Xe G (ax_xs x)) (htab : (ax_xc x).exceptionTable.toList = tableOf ax_hs) (hc1 : 1 ≤ (ax_xR x).cells) (hc2 : 6 ≤ (ax_xR x).slots) (p1 p2 : Int32) (μ : ax_M) :
    ax_Rf mL_cell 9 x (ax_Z16 x G) G 0 0 5 [some (.ref 0), some (.int p1), some (.int p2), some (.ref 84), none] [.int p2, .int p1, .ref 0, .int 0, .ref 84] μ (fL_cell p1 p2 μ) := by
  intro r μ2 ht hC h1 h2 H locs ls hR hS hl
  unfold fL_cell at ht
  cases hτ : fX8_cell p1 p2 μ with
  | none => rw [hτ] at ht; cases ht
  | some y =>
    obtain ⟨v, μ3⟩ := y
    rw [hτ] at ht
    have ht : (if v.1 = 0 then Option.bind (ax_wrl μ3 84 1 0 v.2.toInt64) (fun m2 => some ((0 : Int32), m2)) else if v.1 = 1 then some (1, μ3) else some (2, μ3)) = some (r, μ2) := ht
    have r1 := hC.2.2.2.2.2.2.2.2.1
    have r2 := hC.2.2.2.2.2.2.2.2.2.1
    have e1 := ax_ws_at (G := G) (μ := μ) (i := 0) (Nat.lt_of_lt_of_le (by decide) hG.1)
    rw [ax_e_o (c := 8) rfl] at e1
    have hcw := cwV (R := ax_xR x) (s := ax_xs x) (args := ax_xa x) (own := RL) (C := RX8) (index := 7) (y := yX8_cell) (bytes := cX8_cell) (maxL := 3) (ret := some .int) (ws := ax_mw mX8_cell) (rm := ax_room8) (mc := 1) (ms := 6) 2 hC.2.2.2.2.1 (by
        intro w hw
        unfold wsV at hw
        simp only [List.mem_append, List.mem_cons, List.not_mem_nil, or_false] at hw
        rcases hw with (rfl | rfl | rfl | rfl) | hw
        · exact ax_goodw lVL_7.1
        · exact ax_goodw lVL_7.2.1
        · exact ax_goodw lVL_7.2.2
        · exact ax_goodw hhX8_cell.2.2.2
        · exact ax_mw_good hhX8_cell.2.2.1 w hw) rfl rfl rfl ⟨rfl, hhX8_cell.1⟩ ⟨by show 8 + 1 ≤ _; omega, by show 8 + (3 + 11) + 512 ≤ _; omega⟩
    have hrec := va_recv hC.2.2.2.2.2.2.2.1.1 hR (ci := 8) (q0 := 0) (q := (RX8, TX8, 9)) rfl e1
    have hs0 : ax_sh G (.ref 0) = .ref (ax_gb G + 0) := ax_sh_ref2 (by decide)
    have hs84 : ax_sh G (.ref 84) = .ref (ax_gb G + 84) := ax_sh_ref2 (by decide)
    have hrun := vx_runV (p := x.1) (l := x.2.1) (e := x.2.2.1) (m := ax_xm x) (below := ax_xb x) (meth := ax_xh x) (c := ax_xc x) (H := H) (locs := locs) (cells := 0) (slots := 0) (b := ax_gb G + 0) (As := [.int p1, .int p2]) (rest := [.int 0, .ref (ax_gb G + 84)]) (g := F0 (ax_xm x) 5 ls (([.int p2, .int p1, .ref 0, .int 0, .ref 84] : List Value).map (ax_sh G))) ⟨hC.1, hC.2.1, hC.2.2.1, hC.2.2.2.1, hC.2.2.2.2.1⟩ (okX8_cell hst hG p1 p2 μ v μ3 hτ) hcw
      ⟨ax_blindE G μ _, hrec, fun U hU hW => ⟨by simp [hs0]; exact ⟨rfl, rfl⟩, ax_pre (M2 := mX8_cell) hC hR hS U hU hW, ax_Xe_moved hW (fun a g1 g2 => by rw [hU]; exact hS.2.1 a g1 g2) hE⟩⟩ rfl rfl hl.1 (by simp [hs0, hs84]; exact ⟨rfl, rfl, rfl⟩) (lv_room (by show 1 + (1 + 0) ≤ 8; omega)) dL_cell_5 ⟨hc1, hc2⟩
    intro T hT X
    rcases hrun T hT X with ⟨v2, st₀, t, T', L, h0, X', hL, g1, g2, ⟨q1, q2, q3, hz, hkp⟩, stp⟩ | ⟨q, st₀, t, T', L, E, ce, h0, X', hL, g1, g2, ⟨q1, q3, hz, hkp⟩, hce, hcv, hcl, stp⟩
    · rw [if_pos q1] at ht
      cases q2
      rw [h0] at hz hkp
      have hS3 : va_S (ax_A G) (ax_xs x).heap T'.heap (locs ++ L) := ⟨Nat.le_trans hS.1 (by rw [g1]; exact hz), fun q a1 a2 => by rw [g1, hkp q (Nat.lt_of_lt_of_le a1 hS.1) a2]; exact hS.2.1 q a1 a2, fun q hq => by
        rcases List.mem_append.mp hq with h | h
        · exact hS.2.2 q h
        · exact hL q h⟩
      have hW : ax_Rf mL_cell 9 x (ax_Z16 x G) G 1 6 8 [some (.ref 0), some (.int p1), some (.int p2), some (.ref 84), none] [.int v.2, .int 0, .ref 84] μ3 (Option.bind (ax_wrl μ3 84 1 0 v.2.toInt64) (fun m2 => some ((0 : Int32), m2))) := by
        refine rf_i2l (n := 9) dL_cell_8 rfl ?_
        refine rf_lastO (n := 10) hk dL_cell_9 rfl (fun m2 => ?_)
        refine rf_goto (tg := 21) dL_cell_10 rfl ?_
        refine rf_iconst (n := 22) 0 dL_cell_21 (by decide) rfl ?_
        exact rf_ret16 rfl dL_cell_22
      obtain ⟨t2, a1, b1⟩ := hW r μ2 ht hC hc1 hc2 T'.heap (locs ++ L) ls (by rw [g1]; exact q3) hS3 hl T' rfl X'
      refine ⟨t2, stp t2 ?_, b1⟩
      have e9 : (([.int v.2, .int 0, .ref 84] : List Value).map (ax_sh G)) = [.int v.2, .int 0, .ref (ax_gb G + 84)] := by simp only [List.map_cons, List.map_nil, hs84]; rfl
      rw [e9] at a1
      exact a1
    · rw [h0] at hz hkp
      have hS3 : va_S (ax_A G) (ax_xs x).heap T'.heap (locs ++ L) := ⟨Nat.le_trans hS.1 (by rw [g1]; exact hz), fun q a1 a2 => by rw [g1, hkp q (Nat.lt_of_lt_of_le a1 hS.1) a2]; exact hS.2.1 q a1 a2, fun q hq => by
        rcases List.mem_append.mp hq with h | h
        · exact hS.2.2 q h
        · exact hL q h⟩
      have fin : ∀ (pc0 pc1 : Nat) (k : Int) (w : Int32) (ls2 : Array Slot), decode cL_cell pc0 = .ok (.iconst k, 1) → pc0 + 1 = pc1 → decode cL_cell pc1 = .ok (.ireturn, 1) → Int32.ofInt k = w → some (w, μ3) = some (r, μ2) → ax_W x T'.heap (locs ++ L) 1 6 (ax_Z16 x G r μ2) (F0 (ax_xm x) pc0 ls2 []) := by
        intro pc0 pc1 k w ls2 d1 hp d2 hw he
        subst hp
        cases he
        refine lv_iconst hC.1 hC.2.1 d1 hw ?_
        exact W.iret hC.1 hC.2.1 hC.2.2.2.2.2.1 (fun t ht hW => ⟨rfl, by rw [ht, g1]; exact q3, hS3.F ht⟩) hS3.2.2 d2 hC.2.2.2.2.2.2.1
      have hw : vx_W x.1 x.2.1 x.2.2.1 (ax_xR x) (ax_xs x) (ax_xm x) (ax_xa x) (ax_xb x) (ax_xh x) (ax_xc x) T'.heap (locs ++ L) 1 6 (ax_Z16 x G r μ2) (F0 (ax_xm x) 5 ls [.int 0, .ref (ax_gb G + 84)]) q := by
        rcases q1 with ⟨k1, rfl⟩ | ⟨k1, rfl⟩
        · have ht1 : some ((1 : Int32), μ3) = some (r, μ2) := by rw [if_neg (by rw [k1]; decide), if_pos k1] at ht; exact ht
          refine vx_catch (own := RL) (name := "java/lang/IndexOutOfBoundsException") hC.2.2.2.1 [] ⟨0, 10, 13, 13⟩ [⟨0, 10, 17, 15⟩] (by rw [htab]; rfl) (fun z hz => nomatch hz) rfl (by decide) (hC.2.2.2.2.1 _ (ax_tbl_of 1084 (by decide +kernel) rfl)) (va_Nw.use (ax_xn_onT _ (by decide +kernel)) (hE.2.2.2.2.2 _ (by decide +kernel))) (by rw [g1]; exact hce) hcv hcl ?_
          refine lv_astore hC.1 hC.2.1 dL_cell_13 (ax_loc_has hl) (by decide) rfl (fun ls2 _ => ?_)
          exact fin 15 16 1 1 ls2 dL_cell_15 rfl dL_cell_16 (by decide) ht1
        · have ht1 : some ((2 : Int32), μ3) = some (r, μ2) := by rw [if_neg (by rw [k1]; decide), if_neg (by rw [k1]; decide)] at ht; exact ht
          refine vx_catch (own := RL) (name := "java/util/NoSuchElementException") hC.2.2.2.1 [⟨0, 10, 13, 13⟩] ⟨0, 10, 17, 15⟩ [] (by rw [htab]; rfl) (fun z hz => ?_) rfl (by decide) (hC.2.2.2.2.1 _ (ax_tbl_of 1085 (by decide +kernel) rfl)) (va_Nw.use (ax_xn_onT _ (by decide +kernel)) (hE.2.2.2.2.2 _ (by decide +kernel))) (by rw [g1]; exact hce) hcv hcl ?_
          · rw [List.mem_singleton.mp hz]
            exact Or.inr ⟨by decide, _, hC.2.2.2.2.1 _ (ax_tbl_of 1084 (by decide +kernel) rfl), hE.2.2.2.2.1⟩
          · refine lv_astore hC.1 hC.2.1 dL_cell_17 (ax_loc_has hl) (by decide) rfl (fun ls2 _ => ?_)
            exact fin 19 20 2 2 ls2 dL_cell_19 rfl dL_cell_20 (by decide) ht1
      obtain ⟨t2, a1, b1⟩ := hw T' rfl X'
      exact ⟨t2, stp.trans a1, b1⟩
def ax_mwW : List Cond := Cond.codeWith yL_cell cL_cell 5 (some .int) ax_hs :: ax_tbl
def ax_room9 : Room := { frames := 9, cells := 1, slots := 6, locals := 576 }
theorem okL_cell {l : Launch} (hst : l.stackTraces = false) {G : ax_G} (hG : ax_ok G) (hk : 84 < ax_gk G) (p1 p2 : Int32) (μ : ax_M) (r : Int32) (μ2 : ax_M) (ht : fL_cell p1 p2 μ = some (r, μ2)) :
    Met l yL_cell ax_mwW ax_room9 (va_Pc (([.ref 0, .int p1, .int p2, .ref 84] : List Value).map (ax_sh G)) (ax_PreE G μ)) (ax_Q G (ax_jI r) μ2) 1 6 (ax_A G) := by
  refine va_MetW (cc := cL_cell) (maxL := 5) (ret := some .int) (hh := ax_hs) (by decide) rfl ?_
  intro p e s m args below meth c s₁ B hml hv
  obtain ⟨rfl, ⟨hR, hK, hb⟩, hE⟩ := hv
  have hts := atoms_spec (ws := ax_mwW) B.pre
  have htab := vx_table (x := yL_cell) B (hts _ List.mem_cons_self)
  have hl := lv_entry (([.ref 0, .int p1, .int p2, .ref 84] : List Value).map (ax_sh G)) (n := 5) (by rw [ax_sl_len]; exact Nat.le_of_ble_eq_true rfl)
  rw [lg_entry_eq]
  have hW : ∀ (x : ax_X), ax_Xe G (ax_xs x) → x.2.1.stackTraces = false → (ax_xc x).exceptionTable.toList = tableOf ax_hs → 1 ≤ (ax_xR x).cells → 6 ≤ (ax_xR x).slots → ax_Rf mL_cell 9 x (ax_Z16 x G) G 0 0 0 [some (.ref 0), some (.int p1), some (.int p2), some (.ref 84), none] [] μ (fL_cell p1 p2 μ) := by
    intro x hE hst htab hc1 hc2
    refine rf_aload_n (n := 1) 3 dL_cell_0 rfl rfl rfl ?_
    refine rf_iconst (n := 2) 0 dL_cell_1 (by decide) rfl ?_
    refine rf_aload_n (n := 3) 0 dL_cell_2 rfl rfl rfl ?_
    refine rf_iload_n (n := 4) 1 dL_cell_3 rfl rfl rfl ?_
    refine rf_iload_n (n := 5) 2 dL_cell_4 rfl rfl rfl ?_
    exact pL_cell hG hk hst hE htab hc1 hc2 p1 p2 μ
  refine hW (p, l, e, _, s, m, _, below, meth, c) hE hst htab (Nat.le_refl _) (Nat.le_refl _) r μ2 ht ⟨B.exec, B.bytes, hml, findClass_of_methodNamed B.named, fun w hw => hts w (List.mem_cons_of_mem _ hw), B.returns, B.notSynchronized, hK, Nat.le_refl _, Nat.le_refl _, hb, (name_of_methodNamed B.named B.method).1⟩ (Nat.zero_le _) (Nat.zero_le _) s.heap [] _ hR va_S.rf ⟨hl.1, hl.2.1, fun i v hv => ?_⟩
  exact hl.2.2 (i, ax_sh G v) (by simpa using ax_ent_mem G [.ref 0, .int p1, .int p2, .ref 84] 0 i v 1 hv)
