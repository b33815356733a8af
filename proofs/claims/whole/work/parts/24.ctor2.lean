/-! constructors: contracts that make cells -/
def ax_roomC (d mc ms : Nat) : Room := { frames := d, cells := mc, slots := ms, locals := 64 * d }
def ax_PreC (G : ax_G) (μ : ax_M) (U : State) : Prop := ax_Pre G μ U ∧ U.heap.size = ax_gb G + ax_gk G
def ax_OkC (M : ax_Mi) (d mc ms : Nat) (vs : List Value) (k0 k1 : Nat) (ρ0 ρ1 : Nat → Nat → Option Nat) (μ0 : ax_M) (t : Option (Unit × ax_M)) : Prop :=
  ∀ (l : Launch) (D : va_G) (cA : Nat → ClassId) (b : Nat) (gx : Nat → Nat) (μ1 : ax_M), t = some ((), μ1) → Met l M.1 (ax_mw M) (ax_roomC d mc ms) (va_Pc (vs.map (ax_sh (ax_Gk D cA b k0 ρ0 gx))) (ax_PreC (ax_Gk D cA b k0 ρ0 gx) μ0)) (ax_Q (ax_Gk D cA b k1 ρ1 gx) none μ1) mc ms (ax_A (ax_Gk D cA b k0 ρ0 gx))
theorem ax_blindC (G : ax_G) (μ : ax_M) (vs : List Value) : FrameBlind (va_Pc vs (ax_PreC G μ)) := by
  intro a U g mk h
  obtain ⟨h1, ⟨h2, h3, h4⟩, h5⟩ := h
  exact ⟨h1, ⟨h2, ax_K_same (u := U) (U := U.calling g mk a) rfl rfl h3, h4⟩, h5⟩
def ax_ZC (x : ax_X) (G : ax_G) (mc ms : Nat) : Unit → ax_M → State → Prop := fun _ μ2 => MQ (ax_xb x) (ax_Q G none μ2) (ax_xa x) (ax_xs x) mc ms (ax_A G)
theorem ax_startC {M : ax_Mi} {d mc ms k0 k1 : Nat} {vs : List Value} {ρ0 ρ1 : Nat → Nat → Option Nat} {μ : ax_M} {t : Option (Unit × ax_M)} (n : Nat) {lc : List (Option Value)} (hy : plainName M.1.cls = true) (hlc : ax_ent vs ++ List.replicate n none = lc) (hlen : (lg_sl vs).length ≤ M.2.2.1)
    (body : ∀ (x : ax_X) (D : va_G) (cA : Nat → ClassId) (b : Nat) (gx : Nat → Nat), (ax_xs x).heap.size = b + k0 → mc = (ax_xR x).cells → ms = (ax_xR x).slots → ax_Rf M d x (ax_ZC x (ax_Gk D cA b k1 ρ1 gx) mc ms) (ax_Gk D cA b k0 ρ0 gx) 0 0 0 lc [] μ t) : ax_OkC M d mc ms vs k0 k1 ρ0 ρ1 μ t := by
  intro l D cA b gx μ2 ht
  refine Met.ofW (cc := M.2.1) (maxL := M.2.2.1) (ret := M.2.2.2) hy rfl ?_
  intro p e s m args below meth c s₁ B hml hv
  obtain ⟨rfl, ⟨hR, hK, hb⟩, hsz⟩ := hv
  have hts := atoms_spec (ws := ax_mw M) B.pre
  have hl := lv_entry (vs.map (ax_sh (ax_Gk D cA b k0 ρ0 gx))) (n := M.2.2.1) (by rw [ax_sl_len]; exact hlen)
  rw [lg_entry_eq]
  refine body (p, l, e, ax_roomC d mc ms, s, m, _, below, meth, c) D cA b gx hsz rfl rfl () μ2 ht ⟨B.exec, B.bytes, hml, findClass_of_methodNamed B.named, fun w hw => hts w (List.mem_cons_of_mem _ hw), B.returns, B.notSynchronized, hK, Nat.le_refl _, Nat.le_refl _, hb, (name_of_methodNamed B.named B.method).1⟩ (Nat.zero_le _) (Nat.zero_le _) s.heap [] _ hR va_S.rf ⟨hl.1, hl.2.1, fun i v hv => ?_⟩
  subst hlc
  exact hl.2.2 (i, ax_sh (ax_Gk D cA b k0 ρ0 gx) v) (by simpa using ax_ent_mem (ax_Gk D cA b k0 ρ0 gx) vs 0 i v n hv)
section AXK
variable {β : Type} {M : ax_Mi} {d : Nat} {x : ax_X} {Z : β → ax_M → State → Prop} {D : va_G} {cA : Nat → ClassId} {b k : Nat} {ρ : Nat → Nat → Option Nat} {gx : Nat → Nat} {n1 n2 pc n : Nat} {lc : List (Option Value)} {st : List Value} {μ : ax_M} {t : Option (β × ax_M)}
theorem rf_retC (hr : M.2.2.2 = none) (hd : decode M.2.1 pc = .ok (.return_, 1)) : ax_Rf M d x (ax_ZC x (ax_Gk D cA b k ρ gx) n1 n2) (ax_Gk D cA b k ρ gx) n1 n2 pc lc [] μ (some ((), μ)) := by
  intro r μ2 ht hC h1 h2 H locs ls hR hS hl
  cases ht
  exact W.vret hC.1 hC.2.1 (hC.2.2.2.2.2.1.trans hr) (fun t ht hW => ⟨rfl, by rw [ht]; exact hR, hS.F ht⟩) hS.2.2 hd hC.2.2.2.2.2.2.1
/-- the references, written otherwise -/
theorem rf_swap {ρ2 : Nat → Nat → Option Nat} (h : ∀ i, i < k → ∀ j, j < 46 → ρ i j = ρ2 i j) (kk : ax_Rf M d x Z (ax_Gk D cA b k ρ2 gx) n1 n2 pc lc st μ t) : ax_Rf M d x Z (ax_Gk D cA b k ρ gx) n1 n2 pc lc st μ t := by
  intro r μ2 ht hC h1 h2 H locs ls hR hS hl
  refine kk r μ2 ht (ax_C_k hC) h1 h2 H locs ls ?_ hS hl
  have hN : ∀ c, ax_N c ≤ 46 := by
    intro c
    unfold ax_N
    split <;> decide
  have e : ax_ws (ax_Gk D cA b k ρ2 gx) μ = ax_ws (ax_Gk D cA b k ρ gx) μ := by
    unfold ax_ws
    apply List.map_congr_left
    intro i hi
    have hi : i < k := List.mem_range.mp hi
    have e3 : ∀ c, ax_fs (ax_Gk D cA b k ρ2 gx) μ c i = ax_fs (ax_Gk D cA b k ρ gx) μ c i := by
      intro c
      unfold ax_fs
      apply List.map_congr_left
      intro q hq
      have hq : q < 46 := Nat.lt_of_lt_of_le (List.mem_range.mp hq) (hN c)
      have e4 : ax_gr (ax_Gk D cA b k ρ2 gx) i q = ax_gr (ax_Gk D cA b k ρ gx) i q := (h i hi q hq).symm
      unfold ax_fv
      split <;> first | rfl | (rw [e4]; rfl)
    have e5 : ax_e (ax_Gk D cA b k ρ2 gx) μ i = ax_e (ax_Gk D cA b k ρ gx) μ i := by
      unfold ax_e
      split <;> first | rfl | rw [e3]
    rw [e5]
    rfl
  unfold ax_Rel
  rw [e]
  exact hR
def ax_lI (own : String) (idx : Nat) (M2 : ax_Mi) : Prop := Cond.methodLink own idx M2.1 ∈ ax_tbl ∧ Cond.instanceMethod M2.1 ∈ ax_tbl
def ax_lJ (own : String) (idx : Nat) (M2 : ax_Mi) : Prop := ∃ host, Cond.methodLinkNest own idx M2.1 host ∈ ax_nest ∧ Cond.instanceMethod M2.1 ∈ ax_tbl
theorem ax_roomokC {M2 : ax_Mi} {d2 mc ms : Nat} {G : ax_G} (hC : ax_C M d x G) (hml : M2.2.2.1 ≤ 45) (hdd : d2 + 1 ≤ d) : (ax_roomC d2 mc ms).frames + 1 ≤ (ax_xR x).frames ∧ 8 + (M2.2.2.1 + 11) + (ax_roomC d2 mc ms).locals ≤ (ax_xR x).locals := by
  have h1 := hC.2.2.2.2.2.2.2.2.1
  have h2 := hC.2.2.2.2.2.2.2.2.2.1
  refine ⟨Nat.le_trans hdd h1, ?_⟩
  show 8 + (M2.2.2.1 + 11) + 64 * d2 ≤ _
  omega
theorem ax_goC {H : Heap} {locs : List Loc} {ls : Array Slot} {st0 rest : List Value} {μ1 : ax_M} {a : Array Value} {Q : State → Prop} {mc ms k1 : Nat} {ρ1 : Nat → Nat → Option Nat} {T : State} (hT : T.heap = H) (X : Stand x.1 x.2.1 x.2.2.1 (ax_xR x) (ax_xs x) (ax_xm x) (ax_xa x) (ax_xb x) (ax_xh x) (ax_xc x) T locs n1 n2) (hr : va_Run x.1 x.2.1 x.2.2.1 (ax_xR x) (ax_xs x) (ax_xm x) (ax_xa x) (ax_xb x) (ax_xh x) (ax_xc x) H locs n1 n2 mc ms (F0 (ax_xm x) pc ls st0) rest (ax_Q (ax_Gk D cA b k1 ρ1 gx) none μ1 a) (ax_A (ax_Gk D cA b k ρ gx))) (hS : va_S (ax_A (ax_Gk D cA b k ρ gx)) (ax_xs x).heap H locs)
    (kk : ∀ (H1 : Heap) (locs1 : List Loc), ax_Rel (ax_Gk D cA b k1 ρ1 gx) μ1 H1 → va_S (ax_A (ax_Gk D cA b k1 ρ1 gx)) (ax_xs x).heap H1 locs1 → ax_W x H1 locs1 (n1 + mc) (n2 + ms) Q (F0 (ax_xm x) (pc + 3) ls rest)) : ∃ t, Steps x.1.tables x.2.2.1 (ax_xb x) (T.setTop (F0 (ax_xm x) pc ls st0)) t ∧ Q t := by
  obtain ⟨v2, st₀, t, T', L, h0, X', hL, e1, e2, ⟨hv, hb, hz, hk⟩, st⟩ := hr T hT X
  cases hv
  rw [h0] at hz hk
  obtain ⟨t2, a1, b1⟩ := kk T'.heap (locs ++ L) (by rw [e1]; exact hb)
    ⟨Nat.le_trans hS.1 (by rw [e1]; exact hz), fun q h1 h2 => by rw [e1, hk q (Nat.lt_of_lt_of_le h1 hS.1) h2]; exact hS.2.1 q h1 h2, fun q hq => by
      rcases List.mem_append.mp hq with h | h
      · exact hS.2.2 q h
      · exact hL q h⟩ T' rfl X'
  exact ⟨t2, st t2 a1, b1⟩
theorem rf_cI {M2 : ax_Mi} {d2 mc ms a idx na k1 : Nat} {ρ1 : Nat → Nat → Option Nat} {As st0 : List Value} {τ : Option (Unit × ax_M)} {f : ax_M → Option (β × ax_M)} (k0 : Nat) (hk0 : (ax_xs x).heap.size = b + k0) (hn1 : k0 + n1 = k) (hM : ax_OkC M2 d2 mc ms (.ref a :: As) k k1 ρ ρ1 μ τ) (hl2 : ax_lI M.1.cls idx M2) (hh : ax_hd M2 na) (hret : M2.2.2.2 = none) (hnm : M2.1.name = "<init>") (ha : a < 1000000)
    (hd : decode M.2.1 pc = .ok (.invokespecial idx, 3)) (hn : pc + 3 = n) (hdd : d2 + 1 ≤ d) (hAs : As.length = na) (hst : st0 = As.reverse ++ .ref a :: st) (hcat : (st.map fun v => v.category).sum ≤ 8) (hc : n1 + mc ≤ (ax_xR x).cells) (hs : n2 + ms ≤ (ax_xR x).slots)
    (kk : ∀ μ3, ax_Rf M d x Z (ax_Gk D cA b k1 ρ1 gx) (n1 + mc) (n2 + ms) n lc st μ3 (f μ3)) : ax_Rf M d x Z (ax_Gk D cA b k ρ gx) n1 n2 pc lc st0 μ (ax_bd τ (fun _ m => f m)) := by
  subst hn
  subst hst
  intro r μ2 ht hC h1 h2 H locs ls hR hS hl T hT X
  have hsz := ax_size hT hR hS.1 hk0 hn1 X
  cases hτ : τ with
  | none => rw [hτ] at ht; cases ht
  | some y =>
    obtain ⟨⟨⟩, μ3⟩ := y
    rw [hτ] at ht
    have s1 : ax_sh (ax_Gk D cA b k ρ gx) (.ref a) = .ref (b + a) := if_pos ha
    have hcw := cwI (R := ax_xR x) (s := ax_xs x) (args := ax_xa x) (own := M.1.cls) (index := idx) (y := M2.1) (bytes := M2.2.1) (maxL := M2.2.2.1) (ws := ax_mw M2) (rm := ax_roomC d2 mc ms) (mc := mc) (ms := ms) na hC.2.2.2.2.1 (ax_mw_good hh.2.2.1) (by unfold ax_mw; rw [hret]) rfl rfl (hC.2.2.2.2.1 _ hh.2.2.2) (hC.2.2.2.2.1 _ hl2.1) (hC.2.2.2.2.1 _ hl2.2) hnm hh.1 (ax_roomokC hC hh.2.1 hdd)
    have hrun := va_runI (p := x.1) (l := x.2.1) (e := x.2.2.1) (m := ax_xm x) (below := ax_xb x) (meth := ax_xh x) (c := ax_xc x) (H := H) (locs := locs) (cells := n1) (slots := n2) (b := b + a) (As := As.map (ax_sh (ax_Gk D cA b k ρ gx))) (rest := st.map (ax_sh (ax_Gk D cA b k ρ gx))) (g := F0 (ax_xm x) pc ls ((As.reverse ++ .ref a :: st).map (ax_sh (ax_Gk D cA b k ρ gx)))) ⟨hC.1, hC.2.1, hC.2.2.1, hC.2.2.2.1, hC.2.2.2.2.1⟩ (hM x.2.1 D cA b gx μ3 hτ) hcw
      ⟨ax_blindC _ μ _, fun U hU hW => ⟨by rw [List.map_cons, s1], ax_pre (M2 := M2) hC hR hS U hU hW, by rw [hU]; exact hsz⟩⟩ rfl (by rw [List.length_map]; exact hAs) hl.1 (by simp [s1]) (lv_room (by rw [ax_catsum]; exact hcat)) hd ⟨hc, hs⟩
    exact ax_goC hT X hrun hS (fun H3 locs3 hR3 hS3 => kk μ3 r μ2 ht (ax_C_k hC) hc hs H3 locs3 ls hR3 hS3 hl)
theorem rf_cJ {M2 : ax_Mi} {d2 mc ms a idx na k1 : Nat} {ρ1 : Nat → Nat → Option Nat} {As st0 : List Value} {τ : Option (Unit × ax_M)} {f : ax_M → Option (β × ax_M)} (k0 : Nat) (hk0 : (ax_xs x).heap.size = b + k0) (hn1 : k0 + n1 = k) (hM : ax_OkC M2 d2 mc ms (.ref a :: As) k k1 ρ ρ1 μ τ) (hl2 : ax_lJ M.1.cls idx M2) (hh : ax_hd M2 na) (hret : M2.2.2.2 = none) (hnm : M2.1.name = "<init>") (ha : a < 1000000)
    (hd : decode M.2.1 pc = .ok (.invokespecial idx, 3)) (hn : pc + 3 = n) (hdd : d2 + 1 ≤ d) (hAs : As.length = na) (hst : st0 = As.reverse ++ .ref a :: st) (hcat : (st.map fun v => v.category).sum ≤ 8) (hc : n1 + mc ≤ (ax_xR x).cells) (hs : n2 + ms ≤ (ax_xR x).slots)
    (kk : ∀ μ3, ax_Rf M d x Z (ax_Gk D cA b k1 ρ1 gx) (n1 + mc) (n2 + ms) n lc st μ3 (f μ3)) : ax_Rf M d x Z (ax_Gk D cA b k ρ gx) n1 n2 pc lc st0 μ (ax_bd τ (fun _ m => f m)) := by
  subst hn
  subst hst
  intro r μ2 ht hC h1 h2 H locs ls hR hS hl T hT X
  have hsz := ax_size hT hR hS.1 hk0 hn1 X
  cases hτ : τ with
  | none => rw [hτ] at ht; cases ht
  | some y =>
    obtain ⟨⟨⟩, μ3⟩ := y
    rw [hτ] at ht
    have s1 : ax_sh (ax_Gk D cA b k ρ gx) (.ref a) = .ref (b + a) := if_pos ha
    obtain ⟨host, hn8, hn9⟩ := hl2
    have hcw0 := va_cnB (R := ax_xR x) (s := ax_xs x) (args := ax_xa x) (own := M.1.cls) (host := host) (index := idx) (y := M2.1) (bytes := M2.2.1) (maxL := M2.2.2.1) (ret := none) (ws := ax_mw M2) (rm := ax_roomC d2 mc ms) (mc := mc) (ms := ms) na hC.2.2.2.2.1 (ax_mw_good hh.2.2.1) (by unfold ax_mw; rw [hret]) rfl rfl (hC.2.2.2.2.2.2.2.1.2.1 _ hn8) (hC.2.2.2.2.1 _ hh.2.2.2) hh.1 (ax_roomokC hC hh.2.1 hdd)
    have hcw := And.intro hcw0 (And.intro hnm (hC.2.2.2.2.1 _ hn9))
    have hrun := va_runIN (p := x.1) (l := x.2.1) (e := x.2.2.1) (m := ax_xm x) (below := ax_xb x) (meth := ax_xh x) (c := ax_xc x) (H := H) (locs := locs) (cells := n1) (slots := n2) (b := b + a) (As := As.map (ax_sh (ax_Gk D cA b k ρ gx))) (rest := st.map (ax_sh (ax_Gk D cA b k ρ gx))) (g := F0 (ax_xm x) pc ls ((As.reverse ++ .ref a :: st).map (ax_sh (ax_Gk D cA b k ρ gx)))) ⟨hC.1, hC.2.1, hC.2.2.1, hC.2.2.2.1, hC.2.2.2.2.1⟩ (hM x.2.1 D cA b gx μ3 hτ) hcw
      ⟨ax_blindC _ μ _, fun U hU hW => ⟨by rw [List.map_cons, s1], ax_pre (M2 := M2) hC hR hS U hU hW, by rw [hU]; exact hsz⟩⟩ rfl (by rw [List.length_map]; exact hAs) hl.1 (by simp [s1]) (lv_room (by rw [ax_catsum]; exact hcat)) hd ⟨hc, hs⟩
    exact ax_goC hT X hrun hS (fun H3 locs3 hR3 hS3 => kk μ3 r μ2 ht (ax_C_k hC) hc hs H3 locs3 ls hR3 hS3 hl)
theorem rf_cIs {M2 : ax_Mi} {d2 mc ms a idx na k1 : Nat} {ρ1 : Nat → Nat → Option Nat} {As st0 : List Value} {μ3 : ax_M} (k0 : Nat) (hk0 : (ax_xs x).heap.size = b + k0) (hn1 : k0 + n1 = k) (hM : ax_OkC M2 d2 mc ms (.ref a :: As) k k1 ρ ρ1 μ (some ((), μ3))) (hl2 : ax_lI M.1.cls idx M2) (hh : ax_hd M2 na) (hret : M2.2.2.2 = none) (hnm : M2.1.name = "<init>") (ha : a < 1000000)
    (hd : decode M.2.1 pc = .ok (.invokespecial idx, 3)) (hn : pc + 3 = n) (hdd : d2 + 1 ≤ d) (hAs : As.length = na) (hst : st0 = As.reverse ++ .ref a :: st) (hcat : (st.map fun v => v.category).sum ≤ 8) (hc : n1 + mc ≤ (ax_xR x).cells) (hs : n2 + ms ≤ (ax_xR x).slots)
    (kk : ax_Rf M d x Z (ax_Gk D cA b k1 ρ1 gx) (n1 + mc) (n2 + ms) n lc st μ3 t) : ax_Rf M d x Z (ax_Gk D cA b k ρ gx) n1 n2 pc lc st0 μ t := by
  subst hn
  subst hst
  intro r μ2 ht hC h1 h2 H locs ls hR hS hl T hT X
  have hsz := ax_size hT hR hS.1 hk0 hn1 X
  have s1 : ax_sh (ax_Gk D cA b k ρ gx) (.ref a) = .ref (b + a) := if_pos ha
  have hcw := cwI (R := ax_xR x) (s := ax_xs x) (args := ax_xa x) (own := M.1.cls) (index := idx) (y := M2.1) (bytes := M2.2.1) (maxL := M2.2.2.1) (ws := ax_mw M2) (rm := ax_roomC d2 mc ms) (mc := mc) (ms := ms) na hC.2.2.2.2.1 (ax_mw_good hh.2.2.1) (by unfold ax_mw; rw [hret]) rfl rfl (hC.2.2.2.2.1 _ hh.2.2.2) (hC.2.2.2.2.1 _ hl2.1) (hC.2.2.2.2.1 _ hl2.2) hnm hh.1 (ax_roomokC hC hh.2.1 hdd)
  have hrun := va_runI (p := x.1) (l := x.2.1) (e := x.2.2.1) (m := ax_xm x) (below := ax_xb x) (meth := ax_xh x) (c := ax_xc x) (H := H) (locs := locs) (cells := n1) (slots := n2) (b := b + a) (As := As.map (ax_sh (ax_Gk D cA b k ρ gx))) (rest := st.map (ax_sh (ax_Gk D cA b k ρ gx))) (g := F0 (ax_xm x) pc ls ((As.reverse ++ .ref a :: st).map (ax_sh (ax_Gk D cA b k ρ gx)))) ⟨hC.1, hC.2.1, hC.2.2.1, hC.2.2.2.1, hC.2.2.2.2.1⟩ (hM x.2.1 D cA b gx μ3 rfl) hcw
    ⟨ax_blindC _ μ _, fun U hU hW => ⟨by rw [List.map_cons, s1], ax_pre (M2 := M2) hC hR hS U hU hW, by rw [hU]; exact hsz⟩⟩ rfl (by rw [List.length_map]; exact hAs) hl.1 (by simp [s1]) (lv_room (by rw [ax_catsum]; exact hcat)) hd ⟨hc, hs⟩
  exact ax_goC hT X hrun hS (fun H3 locs3 hR3 hS3 => kk r μ2 ht (ax_C_k hC) hc hs H3 locs3 ls hR3 hS3 hl)
theorem rf_cJs {M2 : ax_Mi} {d2 mc ms a idx na k1 : Nat} {ρ1 : Nat → Nat → Option Nat} {As st0 : List Value} {μ3 : ax_M} (k0 : Nat) (hk0 : (ax_xs x).heap.size = b + k0) (hn1 : k0 + n1 = k) (hM : ax_OkC M2 d2 mc ms (.ref a :: As) k k1 ρ ρ1 μ (some ((), μ3))) (hl2 : ax_lJ M.1.cls idx M2) (hh : ax_hd M2 na) (hret : M2.2.2.2 = none) (hnm : M2.1.name = "<init>") (ha : a < 1000000)
    (hd : decode M.2.1 pc = .ok (.invokespecial idx, 3)) (hn : pc + 3 = n) (hdd : d2 + 1 ≤ d) (hAs : As.length = na) (hst : st0 = As.reverse ++ .ref a :: st) (hcat : (st.map fun v => v.category).sum ≤ 8) (hc : n1 + mc ≤ (ax_xR x).cells) (hs : n2 + ms ≤ (ax_xR x).slots)
    (kk : ax_Rf M d x Z (ax_Gk D cA b k1 ρ1 gx) (n1 + mc) (n2 + ms) n lc st μ3 t) : ax_Rf M d x Z (ax_Gk D cA b k ρ gx) n1 n2 pc lc st0 μ t := by
  subst hn
  subst hst
  intro r μ2 ht hC h1 h2 H locs ls hR hS hl T hT X
  have hsz := ax_size hT hR hS.1 hk0 hn1 X
  have s1 : ax_sh (ax_Gk D cA b k ρ gx) (.ref a) = .ref (b + a) := if_pos ha
  obtain ⟨host, hn8, hn9⟩ := hl2
  have hcw0 := va_cnB (R := ax_xR x) (s := ax_xs x) (args := ax_xa x) (own := M.1.cls) (host := host) (index := idx) (y := M2.1) (bytes := M2.2.1) (maxL := M2.2.2.1) (ret := none) (ws := ax_mw M2) (rm := ax_roomC d2 mc ms) (mc := mc) (ms := ms) na hC.2.2.2.2.1 (ax_mw_good hh.2.2.1) (by unfold ax_mw; rw [hret]) rfl rfl (hC.2.2.2.2.2.2.2.1.2.1 _ hn8) (hC.2.2.2.2.1 _ hh.2.2.2) hh.1 (ax_roomokC hC hh.2.1 hdd)
  have hcw := And.intro hcw0 (And.intro hnm (hC.2.2.2.2.1 _ hn9))
  have hrun := va_runIN (p := x.1) (l := x.2.1) (e := x.2.2.1) (m := ax_xm x) (below := ax_xb x) (meth := ax_xh x) (c := ax_xc x) (H := H) (locs := locs) (cells := n1) (slots := n2) (b := b + a) (As := As.map (ax_sh (ax_Gk D cA b k ρ gx))) (rest := st.map (ax_sh (ax_Gk D cA b k ρ gx))) (g := F0 (ax_xm x) pc ls ((As.reverse ++ .ref a :: st).map (ax_sh (ax_Gk D cA b k ρ gx)))) ⟨hC.1, hC.2.1, hC.2.2.1, hC.2.2.2.1, hC.2.2.2.2.1⟩ (hM x.2.1 D cA b gx μ3 rfl) hcw
    ⟨ax_blindC _ μ _, fun U hU hW => ⟨by rw [List.map_cons, s1], ax_pre (M2 := M2) hC hR hS U hU hW, by rw [hU]; exact hsz⟩⟩ rfl (by rw [List.length_map]; exact hAs) hl.1 (by simp [s1]) (lv_room (by rw [ax_catsum]; exact hcat)) hd ⟨hc, hs⟩
  exact ax_goC hT X hrun hS (fun H3 locs3 hR3 hS3 => kk r μ2 ht (ax_C_k hC) hc hs H3 locs3 ls hR3 hS3 hl)
theorem ax_fv_def {G : ax_G} {ty : FieldType} {i : Nat} (hok : (match ty with | .float => false | .double => false | _ => true) = true) (h1 : ∀ j, μ.1 i j = 0) (h2 : ∀ j, μ.2 i j = 0) (h3 : ∀ j, ax_gr G i j = none) (j : Nat) : ax_fv G μ ty i j = defaultValue ty := by
  unfold ax_fv
  split <;> first | (simp [h1, h2, h3, ax_rv, defaultValue]; done) | skip
  cases ty <;> simp_all [defaultValue]
end AXK
