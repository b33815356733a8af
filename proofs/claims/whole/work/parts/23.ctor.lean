/-! making: the world grows cell by cell -/
def ax_Gk (D : va_G) (cA : Nat → ClassId) (b k : Nat) (ρ : Nat → Nat → Option Nat) (gx : Nat → Nat) : ax_G := (D, cA, (b, k), ρ, gx)
def ax_upR (ρ : Nat → Nat → Option Nat) (i j r : Nat) : Nat → Nat → Option Nat := fun a c => if a = i ∧ c = j then some r else ρ a c
theorem ax_ws_inc (D : va_G) (cA : Nat → ClassId) (b k : Nat) (ρ : Nat → Nat → Option Nat) (gx : Nat → Nat) (μ : ax_M) : ax_ws (ax_Gk D cA b (k + 1) ρ gx) μ = ax_ws (ax_Gk D cA b k ρ gx) μ ++ [(b + k, ax_e (ax_Gk D cA b k ρ gx) μ k)] := by
  unfold ax_ws
  show (List.range (k + 1)).map _ = (List.range k).map _ ++ _
  rw [List.range_succ, List.map_append]
  rfl
section AXG
variable {β : Type} {M : ax_Mi} {d : Nat} {x : ax_X} {Z : β → ax_M → State → Prop} {D : va_G} {cA : Nat → ClassId} {b k : Nat} {ρ : Nat → Nat → Option Nat} {gx : Nat → Nat} {n1 n2 pc n : Nat} {lc : List (Option Value)} {st : List Value} {μ : ax_M} {t : Option (β × ax_M)}
theorem ax_C_k {k2 : Nat} {ρ2 : Nat → Nat → Option Nat} (h : ax_C M d x (ax_Gk D cA b k ρ gx)) : ax_C M d x (ax_Gk D cA b k2 ρ2 gx) := h
theorem ax_sh_k (k2 : Nat) (ρ2 : Nat → Nat → Option Nat) : ax_sh (ax_Gk D cA b k2 ρ2 gx) = ax_sh (ax_Gk D cA b k ρ gx) := rfl
theorem ax_size {H : Heap} {locs : List Loc} {T : State} {k0 : Nat} (hT : T.heap = H) (hR : ax_Rel (ax_Gk D cA b k ρ gx) μ H) (hS : (ax_xs x).heap.size ≤ H.size) (hk0 : (ax_xs x).heap.size = b + k0) (hn : k0 + n1 = k) (X : Stand x.1 x.2.1 x.2.2.1 (ax_xR x) (ax_xs x) (ax_xm x) (ax_xa x) (ax_xb x) (ax_xh x) (ax_xc x) T locs n1 n2) : H.size = b + k := by
  have h1 : T.heap.size ≤ (ax_xs x).heap.size + n1 := X.heapSize
  rw [hT] at h1
  have h2 : b + k ≤ H.size := by
    cases k with
    | zero =>
      have : k0 = 0 := by omega
      omega
    | succ k =>
      have e1 := ax_ws_at (G := ax_Gk D cA b (k + 1) ρ gx) (μ := μ) (i := k) (Nat.lt_succ_self k)
      have h3 := (hR k _ e1).lt
      have h4 : b + k < H.size := h3
      omega
  omega
theorem ax_Rel_inc {H H1 : Heap} (hR : ax_Rel (ax_Gk D cA b k ρ gx) μ H) (hsz : H.size = b + k) (o1 : ∀ q, q < b + k → H1[q]? = H[q]?) (h : va_at D ax_cl (b + k, ax_e (ax_Gk D cA b k ρ gx) μ k) H1) : ax_Rel (ax_Gk D cA b (k + 1) ρ gx) μ H1 := by
  unfold ax_Rel
  rw [ax_ws_inc]
  refine va_P.app (va_P.kept hR (fun i y hy => o1 y.1 (by rw [← hsz]; exact (hR i y hy).lt))) (fun i y hy => ?_)
  have hi : i = 0 := by have := (List.getElem?_eq_some_iff.mp hy).1; simp at this; omega
  subst hi
  cases hy
  exact h
theorem ax_fs_V {G : ax_G} {c j i : Nat} (h : j < ax_N c) : vp_V (ax_fs G μ c i) j = ax_fv G μ (ax_ty c j) i j := by
  unfold vp_V
  rw [List.getD_eq_getElem?_getD, ax_fs_get h]
  rfl
theorem ax_S_inc {H H1 : Heap} {locs : List Loc} (hS : va_S (ax_A (ax_Gk D cA b k ρ gx)) (ax_xs x).heap H locs) (hsz : H.size = b + k) (z1 : H1.size = b + k + 1) (o1 : ∀ q, q < b + k → H1[q]? = H[q]?) : va_S (ax_A (ax_Gk D cA b (k + 1) ρ gx)) (ax_xs x).heap H1 locs :=
  ⟨Nat.le_trans hS.1 (by omega), fun y g1 g2 => (o1 y (by have := hS.1; omega)).trans (hS.2.1 y g1 g2), hS.2.2⟩
/-- a new object -/
theorem rf_newO {idx c : Nat} {q : vw_C} (k0 : Nat) (hk0 : (ax_xs x).heap.size = b + k0) (hn1 : k0 + n1 = k) (hm : ax_S k = (0, c)) (hq : ax_cl[c]? = some q) (hw : Cond.classLink M.1.cls idx q.1 ∈ ax_tbl ∧ Cond.instantiable q.1 q.2.2 ∈ ax_tbl ∧ Cond.initialized q.1 ∈ ax_tbl)
    (hz : ∀ j, j < q.2.2 → ax_fv (ax_Gk D cA b k ρ gx) μ (ax_ty c j) k j = defaultValue (ax_ty c j)) (hlt : k < 1000000) (hc : n1 + 1 ≤ (ax_xR x).cells) (hs : n2 + q.2.2 ≤ (ax_xR x).slots) (hd : decode M.2.1 pc = .ok (.new idx, 3)) (hn : pc + 3 = n)
    (kk : ax_Rf M d x Z (ax_Gk D cA b (k + 1) ρ gx) (n1 + 1) (n2 + q.2.2) n lc (.ref k :: st) μ t) : ax_Rf M d x Z (ax_Gk D cA b k ρ gx) n1 n2 pc lc st μ t := by
  subst hn
  intro r μ2 ht hC h1 h2 H locs ls hR hS hl T hT X
  have hsz := ax_size hT hR hS.1 hk0 hn1 X
  obtain ⟨w1, w2, w3, w4⟩ := ax_cls_in c q hq
  have hK := hC.2.2.2.2.2.2.2.1.1
  have hKn := hK.1 c _ hq
  have key : ∀ (H1 : Heap) (kC : Class), (ax_xs x).vm.classes[D.1 c]? = some kC → H1[b + k]? = some (blank (D.1 c) kC) → H1.size = b + k + 1 → (∀ q, q < b + k → H1[q]? = H[q]?) → ax_W x H1 locs (n1 + 1) (n2 + q.2.2) (Z r μ2) (F0 (ax_xm x) (pc + 3) ls (.ref (b + k) :: st.map (ax_sh (ax_Gk D cA b k ρ gx)))) := by
    intro H1 kC hkC e1 z1 o1
    have hat : va_at D ax_cl (b + k, ax_e (ax_Gk D cA b k ρ gx) μ k) H1 := by
      rw [ax_e_o hm]
      exact ⟨q, hq, (u_born (ax_ty c) hC.2.2.2.2.1 w1 hKn hkC e1 w2).to (fun j hj => by rw [ax_fs_V (by rw [w4]; exact hj)]; exact (hz j hj).symm)⟩
    have h4 := kk r μ2 ht (ax_C_k hC) hc hs H1 locs ls (ax_Rel_inc hR hsz o1 hat) (ax_S_inc hS hsz z1 o1) hl
    have e5 : ax_sh (ax_Gk D cA b (k + 1) ρ gx) (.ref k) = .ref (b + k) := if_pos hlt
    rw [List.map_cons, e5] at h4
    exact h4
  exact W.newcK hC.1 hC.2.1 hC.2.2.2.1 (hC.2.2.2.2.1 _ hw.1) (hC.2.2.2.2.1 _ hw.2.1) (hC.2.2.2.2.1 _ hw.2.2) (g := F0 (ax_xm x) pc ls (st.map (ax_sh (ax_Gk D cA b k ρ gx)))) rfl hd hc hs hKn.2.1 hsz key T hT X
theorem rf_newAI {v : Int32} {N : Nat} (k0 : Nat) (hk0 : (ax_xs x).heap.size = b + k0) (hn1 : k0 + n1 = k) (hm : ax_S k = (1, N)) (hv : ¬ v < 0) (hN : v.toNatClampNeg = N) (hb : N * componentBytes (newarray.typeOf .int) ≤ 536870912) (hz : ∀ j, μ.1 k j = 0) (hlt : k < 1000000) (hc : n1 + 1 ≤ (ax_xR x).cells) (hs : n2 + N ≤ (ax_xR x).slots) (hw : Cond.arrayClass (newarray.typeOf .int) ∈ ax_tbl) (hd : decode M.2.1 pc = .ok (.newarray .int, 2)) (hn : pc + 2 = n)
    (kk : ax_Rf M d x Z (ax_Gk D cA b (k + 1) ρ gx) (n1 + 1) (n2 + N) n lc (.ref k :: st) μ t) : ax_Rf M d x Z (ax_Gk D cA b k ρ gx) n1 n2 pc lc (.int v :: st) μ t := by
  subst hn
  intro r μ2 ht hC h1 h2 H locs ls hR hS hl T hT X
  have hsz := ax_size hT hR hS.1 hk0 hn1 X
  have hK := hC.2.2.2.2.2.2.2.1.1
  have hT2 := (hK.2 0 _ rfl).2
  have key : ∀ (H1 : Heap) (cB : ClassId), H1[b + k]? = some (arrV cB N (fun _ => defaultValue (newarray.typeOf .int))) → H1.size = b + k + 1 → (∀ q, q < b + k → H1[q]? = H[q]?) → ArrOfT (ax_xs x) cB (newarray.typeOf .int) → (ax_xs x).vm.findClass ("[" ++ (newarray.typeOf .int).toString) = some cB → ax_W x H1 locs (n1 + 1) (n2 + N) (Z r μ2) (F0 (ax_xm x) (pc + 2) ls (.ref (b + k) :: st.map (ax_sh (ax_Gk D cA b k ρ gx)))) := by
    intro H1 cB e1 z1 o1 _ hf
    have hcB : cB = cA 1 := Option.some.inj (hf.symm.trans hT2)
    have hat : va_at D ax_cl (b + k, ax_e (ax_Gk D cA b k ρ gx) μ k) H1 := by
      rw [ax_e_i hm]
      show H1[b + k]? = some (vp_cell _ _)
      rw [e1, hcB, vp_cell_i]
      congr 2
      funext j
      show _ = Value.int (μ.1 k j)
      rw [hz j]
      rfl
    have h4 := kk r μ2 ht (ax_C_k hC) hc hs H1 locs ls (ax_Rel_inc hR hsz o1 hat) (ax_S_inc hS hsz z1 o1) hl
    have e5 : ax_sh (ax_Gk D cA b (k + 1) ρ gx) (.ref k) = .ref (b + k) := if_pos hlt
    rw [List.map_cons, e5] at h4
    exact h4
  exact va_newaK hC.1 hC.2.1 (atype := .int) (hC.2.2.2.2.1 _ hw) (g := F0 (ax_xm x) pc ls (.int v :: st.map (ax_sh (ax_Gk D cA b k ρ gx)))) rfl hd rfl hv hN hb hc hs hsz key T hT X
theorem rf_newAL {v : Int32} {N : Nat} (k0 : Nat) (hk0 : (ax_xs x).heap.size = b + k0) (hn1 : k0 + n1 = k) (hm : ax_S k = (2, N)) (hv : ¬ v < 0) (hN : v.toNatClampNeg = N) (hb : N * componentBytes (newarray.typeOf .long) ≤ 536870912) (hz : ∀ j, μ.2 k j = 0) (hlt : k < 1000000) (hc : n1 + 1 ≤ (ax_xR x).cells) (hs : n2 + N ≤ (ax_xR x).slots) (hw : Cond.arrayClass (newarray.typeOf .long) ∈ ax_tbl) (hd : decode M.2.1 pc = .ok (.newarray .long, 2)) (hn : pc + 2 = n)
    (kk : ax_Rf M d x Z (ax_Gk D cA b (k + 1) ρ gx) (n1 + 1) (n2 + N) n lc (.ref k :: st) μ t) : ax_Rf M d x Z (ax_Gk D cA b k ρ gx) n1 n2 pc lc (.int v :: st) μ t := by
  subst hn
  intro r μ2 ht hC h1 h2 H locs ls hR hS hl T hT X
  have hsz := ax_size hT hR hS.1 hk0 hn1 X
  have hK := hC.2.2.2.2.2.2.2.1.1
  have hT2 := (hK.2 1 _ rfl).2
  have key : ∀ (H1 : Heap) (cB : ClassId), H1[b + k]? = some (arrV cB N (fun _ => defaultValue (newarray.typeOf .long))) → H1.size = b + k + 1 → (∀ q, q < b + k → H1[q]? = H[q]?) → ArrOfT (ax_xs x) cB (newarray.typeOf .long) → (ax_xs x).vm.findClass ("[" ++ (newarray.typeOf .long).toString) = some cB → ax_W x H1 locs (n1 + 1) (n2 + N) (Z r μ2) (F0 (ax_xm x) (pc + 2) ls (.ref (b + k) :: st.map (ax_sh (ax_Gk D cA b k ρ gx)))) := by
    intro H1 cB e1 z1 o1 _ hf
    have hcB : cB = cA 2 := Option.some.inj (hf.symm.trans hT2)
    have hat : va_at D ax_cl (b + k, ax_e (ax_Gk D cA b k ρ gx) μ k) H1 := by
      rw [ax_e_l hm]
      show H1[b + k]? = some (vp_cell _ _)
      rw [e1, hcB, vp_cell_l]
      congr 2
      funext j
      show _ = Value.long (μ.2 k j)
      rw [hz j]
      rfl
    have h4 := kk r μ2 ht (ax_C_k hC) hc hs H1 locs ls (ax_Rel_inc hR hsz o1 hat) (ax_S_inc hS hsz z1 o1) hl
    have e5 : ax_sh (ax_Gk D cA b (k + 1) ρ gx) (.ref k) = .ref (b + k) := if_pos hlt
    rw [List.map_cons, e5] at h4
    exact h4
  exact va_newaK hC.1 hC.2.1 (atype := .long) (hC.2.2.2.2.1 _ hw) (g := F0 (ax_xm x) pc ls (.int v :: st.map (ax_sh (ax_Gk D cA b k ρ gx)))) rfl hd rfl hv hN hb hc hs hsz key T hT X
theorem rf_newAZ {v : Int32} {N : Nat} (k0 : Nat) (hk0 : (ax_xs x).heap.size = b + k0) (hn1 : k0 + n1 = k) (hm : ax_S k = (3, N)) (hv : ¬ v < 0) (hN : v.toNatClampNeg = N) (hb : N * componentBytes (newarray.typeOf .boolean) ≤ 536870912) (hz : ∀ j, μ.1 k j = 0) (hlt : k < 1000000) (hc : n1 + 1 ≤ (ax_xR x).cells) (hs : n2 + N ≤ (ax_xR x).slots) (hw : Cond.arrayClass (newarray.typeOf .boolean) ∈ ax_tbl) (hd : decode M.2.1 pc = .ok (.newarray .boolean, 2)) (hn : pc + 2 = n)
    (kk : ax_Rf M d x Z (ax_Gk D cA b (k + 1) ρ gx) (n1 + 1) (n2 + N) n lc (.ref k :: st) μ t) : ax_Rf M d x Z (ax_Gk D cA b k ρ gx) n1 n2 pc lc (.int v :: st) μ t := by
  subst hn
  intro r μ2 ht hC h1 h2 H locs ls hR hS hl T hT X
  have hsz := ax_size hT hR hS.1 hk0 hn1 X
  have hK := hC.2.2.2.2.2.2.2.1.1
  have hT2 := (hK.2 2 _ rfl).2
  have key : ∀ (H1 : Heap) (cB : ClassId), H1[b + k]? = some (arrV cB N (fun _ => defaultValue (newarray.typeOf .boolean))) → H1.size = b + k + 1 → (∀ q, q < b + k → H1[q]? = H[q]?) → ArrOfT (ax_xs x) cB (newarray.typeOf .boolean) → (ax_xs x).vm.findClass ("[" ++ (newarray.typeOf .boolean).toString) = some cB → ax_W x H1 locs (n1 + 1) (n2 + N) (Z r μ2) (F0 (ax_xm x) (pc + 2) ls (.ref (b + k) :: st.map (ax_sh (ax_Gk D cA b k ρ gx)))) := by
    intro H1 cB e1 z1 o1 _ hf
    have hcB : cB = cA 3 := Option.some.inj (hf.symm.trans hT2)
    have hat : va_at D ax_cl (b + k, ax_e (ax_Gk D cA b k ρ gx) μ k) H1 := by
      rw [ax_e_z hm]
      show H1[b + k]? = some (vp_cell _ _)
      rw [e1, hcB, vp_cell_i]
      congr 2
      funext j
      show _ = Value.int (μ.1 k j)
      rw [hz j]
      rfl
    have h4 := kk r μ2 ht (ax_C_k hC) hc hs H1 locs ls (ax_Rel_inc hR hsz o1 hat) (ax_S_inc hS hsz z1 o1) hl
    have e5 : ax_sh (ax_Gk D cA b (k + 1) ρ gx) (.ref k) = .ref (b + k) := if_pos hlt
    rw [List.map_cons, e5] at h4
    exact h4
  exact va_newaK hC.1 hC.2.1 (atype := .boolean) (hC.2.2.2.2.1 _ hw) (g := F0 (ax_xm x) pc ls (.int v :: st.map (ax_sh (ax_Gk D cA b k ρ gx)))) rfl hd rfl hv hN hb hc hs hsz key T hT X
theorem ax_fs_setR {G G2 : ax_G} {c i j r : Nat} (hv : ax_kR c j) (hb : ax_gb G2 = ax_gb G) (h1 : ax_gr G2 i j = some r) (h2 : ∀ a, a ≠ j → ax_gr G2 i a = ax_gr G i a) : (ax_fs G μ c i).set j (.ref (ax_gb G + r)) = ax_fs G2 μ c i := by
  apply List.ext_getElem?
  intro a
  unfold ax_fs
  by_cases ha : a < ax_N c
  · by_cases haj : a = j
    · subst haj
      rw [List.getElem?_set_self (by simpa using ha)]
      simp [ha, hv G2 μ i, h1, ax_rv, hb]
    · rw [List.getElem?_set_ne (Ne.symm haj)]
      simp only [List.getElem?_map, List.getElem?_range ha, Option.map_some]
      congr 1
      unfold ax_fv
      split <;> simp [ax_rv, h2 a haj, hb]
  · rw [List.getElem?_eq_none_iff.mpr (by simp; omega), List.getElem?_eq_none_iff.mpr (by simp; omega)]
theorem ax_e_R {i j r a : Nat} (h : a ≠ i) : ax_e (ax_Gk D cA b k (ax_upR ρ i j r) gx) μ a = ax_e (ax_Gk D cA b k ρ gx) μ a := by
  have e3 : ∀ c, ax_fs (ax_Gk D cA b k (ax_upR ρ i j r) gx) μ c a = ax_fs (ax_Gk D cA b k ρ gx) μ c a := by
    intro c
    unfold ax_fs
    apply List.map_congr_left
    intro q _
    unfold ax_fv
    have e4 : ax_gr (ax_Gk D cA b k (ax_upR ρ i j r) gx) a q = ax_gr (ax_Gk D cA b k ρ gx) a q := by
      show ax_upR ρ i j r a q = ρ a q
      simp [ax_upR, h]
    split <;> first | rfl | (rw [e4]; rfl)
  unfold ax_e
  split <;> first | rfl | rw [e3]
theorem ax_ws_R {i : Nat} {e : va_E} {ρ2 : Nat → Nat → Option Nat} (he : ax_e (ax_Gk D cA b k ρ2 gx) μ i = e) (h : ∀ a, a ≠ i → ax_e (ax_Gk D cA b k ρ2 gx) μ a = ax_e (ax_Gk D cA b k ρ gx) μ a) : (ax_ws (ax_Gk D cA b k ρ gx) μ).set i (b + i, e) = ax_ws (ax_Gk D cA b k ρ2 gx) μ := by
  subst he
  apply List.ext_getElem?
  intro a
  by_cases ha : a < k
  · have e2 := ax_ws_at (G := ax_Gk D cA b k ρ2 gx) (μ := μ) (i := a) ha
    by_cases hai : a = i
    · subst hai
      rw [List.getElem?_set_self (by simp [ax_ws]; exact ha), e2]
      rfl
    · rw [List.getElem?_set_ne (Ne.symm hai), ax_ws_at (G := ax_Gk D cA b k ρ gx) ha, e2, h a hai]
      rfl
  · rw [List.getElem?_eq_none_iff.mpr (by simp [ax_ws]; exact Nat.not_lt.mp ha), List.getElem?_eq_none_iff.mpr (by simp [ax_ws]; exact Nat.not_lt.mp ha)]
/-- a final field gets its reference -/
theorem rf_putF {idx c j i v : Nat} {q : vw_C} {ty : FieldType} (hq : ax_cl[c]? = some q) (hj : j < q.2.2) (h1f : (q.2.1 j).1 = M.1.cls ∧ q.1 = M.1.cls) (hw : Cond.fieldLink M.1.cls idx q.1 (q.2.1 j).2.1 (q.2.1 j).2.2.1 ∈ ax_tbl) (hfin : (q.2.1 j).2.2.2 = true) (hin : M.1.name = "<init>") (hk : ax_kR c j) (hty : ax_ty c j = ty) (hnf : narrow ty (.ref (b + v)) = .ref (b + v) ∧ fits ty (.ref (b + v)) = true) (hm : ax_S i = (0, c)) (hi : i < k) (hi2 : i < 1000000) (hv : v < 1000000) (hd : decode M.2.1 pc = .ok (.putfield idx, 3)) (hn : pc + 3 = n)
    (kk : ax_Rf M d x Z (ax_Gk D cA b k (ax_upR ρ i j v) gx) n1 n2 n lc st μ t) : ax_Rf M d x Z (ax_Gk D cA b k ρ gx) n1 n2 pc lc (.ref v :: .ref i :: st) μ t := by
  subst hn
  intro r μ2 ht hC h1 h2 H locs ls hR hS hl
  obtain ⟨w1, w2, w3, w4⟩ := ax_cls_in c q hq
  have e1 := ax_ws_at (G := ax_Gk D cA b k ρ gx) (μ := μ) (i := i) hi
  rw [ax_e_o hm] at e1
  have s1 : ax_sh (ax_Gk D cA b k ρ gx) (.ref v) = .ref (b + v) := if_pos hv
  have s2 : ax_sh (ax_Gk D cA b k ρ gx) (.ref i) = .ref (b + i) := if_pos hi2
  rw [List.map_cons, List.map_cons, s1, s2]
  refine va_putF (v := .ref (b + v)) hC.1 hC.2.1 hC.2.2.2.2.1 w1 (ax_ty c) w2 w3 hC.2.2.2.1 hC.2.2.2.2.2.2.2.1.1 hR (ax_ws_D _ μ) hS i e1 hq j hj (hC.2.2.2.2.1 _ hw) (fun y hy => by rw [h1f.1] at hy; rw [h1f.2]; exact hy) hfin (hC.2.2.2.2.2.2.2.2.2.2.2.trans hin) h1f.1 (w2 j hj) (by rw [hty]; exact hnf.1) (by rw [hty]; exact hnf.2) (by unfold ax_fs; simp [w4]; exact hj) hd (fun H3 locs3 hP3 _ hS3 => ?_)
  refine kk r μ2 ht (ax_C_k hC) h1 h2 H3 locs3 ls ?_ hS3 hl
  have e9 : (ax_fs (ax_Gk D cA b k ρ gx) μ c i).set j (.ref (b + v)) = ax_fs (ax_Gk D cA b k (ax_upR ρ i j v) gx) μ c i := ax_fs_setR hk rfl (by show ax_upR ρ i j v i j = some v; simp [ax_upR]) (fun a ha => by show ax_upR ρ i j v i a = ρ i a; simp [ax_upR, ha])
  unfold ax_Rel
  rw [← ax_ws_R (ρ := ρ) (by rw [ax_e_o hm, ← e9]) (fun a ha => ax_e_R ha)]
  exact hP3
theorem rf_putIc {idx c j i : Nat} {v : Int32} {q : vw_C} (hq : ax_cl[c]? = some q) (hj : j < q.2.2) (h1f : (q.2.1 j).1 = q.1) (hw : Cond.fieldLink M.1.cls idx q.1 (q.2.1 j).2.1 (q.2.1 j).2.2.1 ∈ ax_tbl) (hfin : (q.2.1 j).2.2.2 = false) (hk : ax_kI c j) (hty : ax_ty c j = .int) (hm : ax_S i = (0, c)) (hi : i < k) (hi2 : i < 1000000) (hd : decode M.2.1 pc = .ok (.putfield idx, 3)) (hn : pc + 3 = n)
    (kk : ax_Rf M d x Z (ax_Gk D cA b k ρ gx) n1 n2 n lc st (ax_wi μ i j v) t) : ax_Rf M d x Z (ax_Gk D cA b k ρ gx) n1 n2 pc lc (.int v :: .ref i :: st) μ t := by
  subst hn
  intro r μ2 ht hC h1 h2 H locs ls hR hS hl
  obtain ⟨w1, w2, w3, w4⟩ := ax_cls_in c q hq
  have e1 := ax_ws_at (G := ax_Gk D cA b k ρ gx) (μ := μ) (i := i) hi
  rw [ax_e_o hm] at e1
  have s2 : ax_sh (ax_Gk D cA b k ρ gx) (.ref i) = .ref (b + i) := if_pos hi2
  rw [List.map_cons, List.map_cons, s2]
  refine va_put (v := .int v) hC.1 hC.2.1 hC.2.2.2.2.1 w1 (ax_ty c) w2 w3 hC.2.2.2.1 hC.2.2.2.2.2.2.2.1.1 hR (ax_ws_D _ μ) hS i e1 hq j hj (hC.2.2.2.2.1 _ hw) (fun y hy => by rw [h1f] at hy; exact hy) hfin (w2 j hj) (by rw [hty]; rfl) (by rw [hty]; rfl) (by unfold ax_fs; simp [w4]; exact hj) hd (fun H3 locs3 hP3 _ hS3 => ?_)
  refine kk r μ2 ht hC h1 h2 H3 locs3 ls ?_ hS3 hl
  rw [ax_ws_set (μ2 := ax_wi μ i j v) (by rw [ax_e_o hm, ax_fs_set hk]) (fun q hq => ax_e_wi hq)] at hP3
  exact hP3
theorem rf_getRc {idx c j i v : Nat} {q : vw_C} (hq : ax_cl[c]? = some q) (hj : j < q.2.2) (h1f : (q.2.1 j).1 = q.1) (hw : Cond.fieldLink M.1.cls idx q.1 (q.2.1 j).2.1 (q.2.1 j).2.2.1 ∈ ax_tbl) (hk : ax_kR c j) (hv : ρ i j = some v) (hm : ax_S i = (0, c)) (hi : i < k) (hi2 : i < 1000000) (hv2 : v < 1000000) (hd : decode M.2.1 pc = .ok (.getfield idx, 3)) (hn : pc + 3 = n)
    (kk : ax_Rf M d x Z (ax_Gk D cA b k ρ gx) n1 n2 n lc (.ref v :: st) μ t) : ax_Rf M d x Z (ax_Gk D cA b k ρ gx) n1 n2 pc lc (.ref i :: st) μ t := by
  subst hn
  intro r μ2 ht hC h1 h2 H locs ls hR hS hl
  obtain ⟨w1, w2, w3, w4⟩ := ax_cls_in c q hq
  have e1 := ax_ws_at (G := ax_Gk D cA b k ρ gx) (μ := μ) (i := i) hi
  rw [ax_e_o hm] at e1
  have s1 : ax_sh (ax_Gk D cA b k ρ gx) (.ref v) = .ref (b + v) := if_pos hv2
  have s2 : ax_sh (ax_Gk D cA b k ρ gx) (.ref i) = .ref (b + i) := if_pos hi2
  have h4 := kk r μ2 ht hC h1 h2 H locs ls hR hS hl
  rw [List.map_cons, s1] at h4
  rw [List.map_cons, s2]
  have e2 := ax_fs_get (G := ax_Gk D cA b k ρ gx) (μ := μ) (c := c) (i := i) (j := j) (by rw [w4]; exact hj)
  rw [hk] at e2
  have e3 : ax_rv (ax_Gk D cA b k ρ gx) (ax_gr (ax_Gk D cA b k ρ gx) i j) = .ref (b + v) := by
    show ax_rv (ax_Gk D cA b k ρ gx) (ρ i j) = _
    rw [hv]; rfl
  rw [e3] at e2
  exact va_get hC.1 hC.2.1 hC.2.2.2.2.1 w1 hC.2.2.2.1 hC.2.2.2.2.2.2.2.1.1 hR i e1 hq j hj (hC.2.2.2.2.1 _ hw) (fun y hy => by rw [h1f] at hy; exact hy) e2 hd h4
theorem rf_objI {idx a : Nat} (hl0 : Cond.methodLink M.1.cls idx objectInit ∈ ax_tbl) (hl2 : Cond.instanceMethod objectInit ∈ ax_tbl ∧ Cond.code objectInit ⟨#[0xb1]⟩ 1 none ∈ ax_tbl) (ha : a < 1000000) (hdd : 1 ≤ d) (hcat : (st.map fun v => v.category).sum ≤ 8) (hd : decode M.2.1 pc = .ok (.invokespecial idx, 3)) (hn : pc + 3 = n) (kk : ax_Rf M d x Z (ax_Gk D cA b k ρ gx) n1 n2 n lc st μ t) : ax_Rf M d x Z (ax_Gk D cA b k ρ gx) n1 n2 pc lc (.ref a :: st) μ t := by
  subst hn
  intro r μ2 ht hC h1 h2 H locs ls hR hS hl
  have r1 := hC.2.2.2.2.2.2.2.2.1
  have r2 := hC.2.2.2.2.2.2.2.2.2.1
  have r3 := ax_catsum (ax_Gk D cA b k ρ gx) st
  have s1 : ax_sh (ax_Gk D cA b k ρ gx) (.ref a) = .ref (b + a) := if_pos ha
  rw [List.map_cons, s1]
  exact W.objInit hC.1 hC.2.1 hC.2.2.2.1 (hC.2.2.2.2.1 _ hl0) (hC.2.2.2.2.1 _ hl2.1) (hC.2.2.2.2.1 _ hl2.2) (g := F0 (ax_xm x) pc ls (.ref (b + a) :: st.map (ax_sh (ax_Gk D cA b k ρ gx)))) rfl (hl.1.trans hC.2.2.1.symm) rfl hd (by omega) (by show 2 * 0 + _ + 12 ≤ _; rw [r3]; omega) (kk r μ2 ht hC h1 h2 H locs ls hR hS hl)
end AXG
