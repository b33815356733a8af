abbrev ax_M : Type := (Nat → Nat → Int32) × (Nat → Nat → Int64)
/-- where the world lies: class numbers and slots; array classes; its first address, how many cells; references in fields; addresses outside -/
abbrev ax_G : Type := va_G × (Nat → ClassId) × (Nat × Nat) × (Nat → Nat → Option Nat) × (Nat → Nat)
abbrev ax_gD (G : ax_G) : va_G := G.1
abbrev ax_gA (G : ax_G) : Nat → ClassId := G.2.1
abbrev ax_gb (G : ax_G) : Nat := G.2.2.1.1
abbrev ax_gk (G : ax_G) : Nat := G.2.2.1.2
abbrev ax_gr (G : ax_G) : Nat → Nat → Option Nat := G.2.2.2.1
abbrev ax_gx (G : ax_G) : Nat → Nat := G.2.2.2.2
def ax_A (G : ax_G) : Nat → Prop := fun q => ax_gb G ≤ q
def ax_rv (G : ax_G) (r : Option Nat) : Value := match r with
  | none => .null
  | some a => .ref (ax_gb G + a)
def ax_fv (G : ax_G) (μ : ax_M) (ty : FieldType) (i j : Nat) : Value := match ty with
  | .long => .long (μ.2 i j)
  | .object _ => ax_rv G (ax_gr G i j)
  | .array _ => ax_rv G (ax_gr G i j)
  | _ => .int (μ.1 i j)
def ax_fs (G : ax_G) (μ : ax_M) (c i : Nat) : List Value := (List.range (ax_N c)).map (fun j => ax_fv G μ (ax_ty c j) i j)
def ax_e (G : ax_G) (μ : ax_M) (i : Nat) : va_E := match ax_S i with
  | (0, c) => .inr (c, ax_fs G μ c i)
  | (1, n) => .inl (ax_gA G 1, n, .inl (μ.1 i))
  | (2, n) => .inl (ax_gA G 2, n, .inr (.inl (μ.2 i)))
  | (_, n) => .inl (ax_gA G 3, n, .inl (μ.1 i))
def ax_ws (G : ax_G) (μ : ax_M) : va_W := (List.range (ax_gk G)).map (fun i => (ax_gb G + i, ax_e G μ i))
theorem ax_ws_at {G : ax_G} {μ : ax_M} {i : Nat} (h : i < ax_gk G) : (ax_ws G μ)[i]? = some (ax_gb G + i, ax_e G μ i) := by
  simp [ax_ws, h]
theorem ax_ws_out {G : ax_G} {μ : ax_M} {i : Nat} {q : Nat × va_E} (h : (ax_ws G μ)[i]? = some q) : i < ax_gk G ∧ q = (ax_gb G + i, ax_e G μ i) := by
  have hl : i < ax_gk G := by
    have h1 := (List.getElem?_eq_some_iff.mp h).1
    simpa [ax_ws] using h1
  rw [ax_ws_at hl] at h
  exact ⟨hl, (Option.some.inj h).symm⟩
theorem ax_ws_D (G : ax_G) (μ : ax_M) : va_D (ax_A G) (ax_ws G μ) := by
  refine ⟨fun i j p q hi hj hpq => ?_, fun k q hk => ?_⟩
  · obtain ⟨-, rfl⟩ := ax_ws_out hi
    obtain ⟨-, rfl⟩ := ax_ws_out hj
    exact Nat.add_left_cancel hpq
  · obtain ⟨-, rfl⟩ := ax_ws_out hk
    exact Nat.le_add_right _ _
theorem ax_ws_set {G : ax_G} {μ μ2 : ax_M} {i : Nat} {e : va_E} (he : ax_e G μ2 i = e) (h : ∀ k, k ≠ i → ax_e G μ2 k = ax_e G μ k) : (ax_ws G μ).set i (ax_gb G + i, e) = ax_ws G μ2 := by
  subst he
  apply List.ext_getElem?
  intro k
  by_cases hk : k < ax_gk G
  · by_cases hki : k = i
    · subst hki
      rw [List.getElem?_set_self (by simpa [ax_ws] using hk), ax_ws_at hk]
    · rw [List.getElem?_set_ne (Ne.symm hki), ax_ws_at hk, ax_ws_at hk, h k hki]
  · have e1 : ((ax_ws G μ).set i (ax_gb G + i, ax_e G μ2 i))[k]? = none := by
      rw [List.getElem?_eq_none_iff]; simp [ax_ws]; omega
    have e2 : (ax_ws G μ2)[k]? = none := by
      rw [List.getElem?_eq_none_iff]; simp [ax_ws]; omega
    rw [e1, e2]
/-! memory: writes and checked reads -/
def ax_wi (μ : ax_M) (i j : Nat) (v : Int32) : ax_M := (fun a b => if a = i ∧ b = j then v else μ.1 a b, μ.2)
def ax_wl (μ : ax_M) (i j : Nat) (v : Int64) : ax_M := (μ.1, fun a b => if a = i ∧ b = j then v else μ.2 a b)
def ax_in (i : Int32) (n : Nat) : Bool := !(decide (i < 0) || decide (n ≤ i.toNatClampNeg))
def ax_rd (μ : ax_M) (a n : Nat) (i : Int32) : Option Int32 := if ax_in i n = true then some (μ.1 a i.toNatClampNeg) else none
def ax_rl (μ : ax_M) (a n : Nat) (i : Int32) : Option Int64 := if ax_in i n = true then some (μ.2 a i.toNatClampNeg) else none
def ax_wr (μ : ax_M) (a n : Nat) (i v : Int32) : Option ax_M := if ax_in i n = true then some (ax_wi μ a i.toNatClampNeg v) else none
def ax_wz (μ : ax_M) (a n : Nat) (i v : Int32) : Option ax_M := if ax_in i n = true then some (ax_wi μ a i.toNatClampNeg (vp_nar .boolean v)) else none
def ax_wrl (μ : ax_M) (a n : Nat) (i : Int32) (v : Int64) : Option ax_M := if ax_in i n = true then some (ax_wl μ a i.toNatClampNeg v) else none
def ax_dv (x y : Int32) : Option Int32 := if y = 0 then none else some (x / y)
def ax_rm (x y : Int32) : Option Int32 := if y = 0 then none else some (x - x / y * y)
def ax_dl (x y : Int64) : Option Int64 := if y = 0 then none else some (x / y)
def ax_ml (x y : Int64) : Option Int64 := if y = 0 then none else some (x - x / y * y)
def ax_mx (x y : Int32) : Int32 := if x < y then y else x
def ax_mn (x y : Int32) : Int32 := if y < x then y else x
def ax_us (x y : Int32) : Int32 := (x.toUInt32 >>> (y.toUInt32 &&& Int32.toUInt32 31)).toInt32
/-- arraycopy of ints -/
def ax_cp (μ : ax_M) (a n0 : Nat) (sp : Int32) (b n1 : Nat) (dp n : Int32) : Option ax_M :=
  if sp < 0 ∨ dp < 0 ∨ n < 0 ∨ n0 < sp.toNatClampNeg + n.toNatClampNeg ∨ n1 < dp.toNatClampNeg + n.toNatClampNeg then none
  else some (fun i => if i = b then va_cpy (μ.1 a) (μ.1 b) sp.toNatClampNeg dp.toNatClampNeg n.toNatClampNeg else μ.1 i, μ.2)
def ax_let {α β : Type} (e : α) (f : α → β) : β := f e
def ax_bd {α β : Type} (t : Option (α × ax_M)) (f : α → ax_M → Option β) : Option β := match t with
  | none => none
  | some q => f q.1 q.2
theorem ax_in_vp {i : Int32} {n : Nat} (h : ax_in i n = true) : vp_in i n := by
  intro hc
  rcases hc with hc | hc <;> simp [ax_in, hc] at h
theorem ax_e_i {G : ax_G} {μ : ax_M} {a n : Nat} (h : ax_S a = (1, n)) : ax_e G μ a = .inl (ax_gA G 1, n, .inl (μ.1 a)) := by unfold ax_e; rw [h]; rfl
theorem ax_e_l {G : ax_G} {μ : ax_M} {a n : Nat} (h : ax_S a = (2, n)) : ax_e G μ a = .inl (ax_gA G 2, n, .inr (.inl (μ.2 a))) := by unfold ax_e; rw [h]; rfl
theorem ax_e_z {G : ax_G} {μ : ax_M} {a n : Nat} (h : ax_S a = (3, n)) : ax_e G μ a = .inl (ax_gA G 3, n, .inl (μ.1 a)) := by unfold ax_e; rw [h]; rfl
theorem ax_e_o {G : ax_G} {μ : ax_M} {a c : Nat} (h : ax_S a = (0, c)) : ax_e G μ a = .inr (c, ax_fs G μ c a) := by unfold ax_e; rw [h]; rfl
/-- a cell's entry hangs on that cell's values alone -/
theorem ax_e_eq {G : ax_G} {μ μ2 : ax_M} {k : Nat} (h1 : ∀ j, μ2.1 k j = μ.1 k j) (h2 : ∀ j, μ2.2 k j = μ.2 k j) : ax_e G μ2 k = ax_e G μ k := by
  have e1 : μ2.1 k = μ.1 k := funext h1
  have e2 : μ2.2 k = μ.2 k := funext h2
  have e3 : ∀ c, ax_fs G μ2 c k = ax_fs G μ c k := by
    intro c
    unfold ax_fs
    apply List.map_congr_left
    intro j _
    unfold ax_fv
    split <;> simp [e1, e2]
  unfold ax_e
  split <;> simp [e1, e2, e3]
theorem ax_e_wi {G : ax_G} {μ : ax_M} {i j : Nat} {v : Int32} {k : Nat} (h : k ≠ i) : ax_e G (ax_wi μ i j v) k = ax_e G μ k := ax_e_eq (fun q => by simp [ax_wi, h]) (fun q => rfl)
theorem ax_e_wl {G : ax_G} {μ : ax_M} {i j : Nat} {v : Int64} {k : Nat} (h : k ≠ i) : ax_e G (ax_wl μ i j v) k = ax_e G μ k := ax_e_eq (fun q => rfl) (fun q => by simp [ax_wl, h])
theorem ax_wi_upd (μ : ax_M) (i j : Nat) (v : Int32) : (ax_wi μ i j v).1 i = upd (μ.1 i) j v := by
  funext q
  simp [ax_wi, upd]
theorem ax_wl_upd (μ : ax_M) (i j : Nat) (v : Int64) : (ax_wl μ i j v).2 i = vp_updL (μ.2 i) j v := by
  funext q
  simp [ax_wl, vp_updL]
/-- an int field of an object is written -/
theorem ax_fs_set {G : ax_G} {μ : ax_M} {c i j : Nat} {v : Int32} (hv : ∀ (G : ax_G) (μ : ax_M) (i : Nat), ax_fv G μ (ax_ty c j) i j = .int (μ.1 i j)) : (ax_fs G μ c i).set j (.int v) = ax_fs G (ax_wi μ i j v) c i := by
  apply List.ext_getElem?
  intro k
  unfold ax_fs
  by_cases hk : k < ax_N c
  · by_cases hkj : k = j
    · subst hkj
      rw [List.getElem?_set_self (by simpa using hk)]
      simp [hk, hv, ax_wi]
    · rw [List.getElem?_set_ne (Ne.symm hkj)]
      simp only [List.getElem?_map, List.getElem?_range hk, Option.map_some]
      congr 1
      unfold ax_fv
      split <;> simp [ax_wi, hkj]
  · rw [List.getElem?_eq_none_iff.mpr (by simp; omega), List.getElem?_eq_none_iff.mpr (by simp; omega)]
theorem ax_fs_setL {G : ax_G} {μ : ax_M} {c i j : Nat} {v : Int64} (hv : ∀ (G : ax_G) (μ : ax_M) (i : Nat), ax_fv G μ (ax_ty c j) i j = .long (μ.2 i j)) : (ax_fs G μ c i).set j (.long v) = ax_fs G (ax_wl μ i j v) c i := by
  apply List.ext_getElem?
  intro k
  unfold ax_fs
  by_cases hk : k < ax_N c
  · by_cases hkj : k = j
    · subst hkj
      rw [List.getElem?_set_self (by simpa using hk)]
      simp [hk, hv, ax_wl]
    · rw [List.getElem?_set_ne (Ne.symm hkj)]
      simp only [List.getElem?_map, List.getElem?_range hk, Option.map_some]
      congr 1
      unfold ax_fv
      split <;> simp [ax_wl, hkj]
  · rw [List.getElem?_eq_none_iff.mpr (by simp; omega), List.getElem?_eq_none_iff.mpr (by simp; omega)]
theorem ax_fs_get {G : ax_G} {μ : ax_M} {c i j : Nat} (h : j < ax_N c) : (ax_fs G μ c i)[j]? = some (ax_fv G μ (ax_ty c j) i j) := by
  simp [ax_fs, h]
/-! frames -/
def ax_sh (G : ax_G) : Value → Value
  | .ref i => if i < 1000000 then .ref (ax_gb G + i) else .ref (ax_gx G i)
  | v => v
theorem ax_sh_ref {G : ax_G} {i : Nat} (h : i < ax_K0) : ax_sh G (.ref i) = .ref (ax_gb G + i) := if_pos (Nat.lt_trans h (Nat.le_of_ble_eq_true rfl))
theorem ax_sh_cat (G : ax_G) (v : Value) : (ax_sh G v).category = v.category := by
  cases v <;> simp only [ax_sh]
  split <;> rfl
def ax_get : List (Option Value) → Nat → Option Value
  | [], _ => none
  | a :: _, 0 => a
  | _ :: l, n + 1 => ax_get l n
def ax_set : List (Option Value) → Nat → Option Value → List (Option Value)
  | [], _, _ => []
  | _ :: l, 0, v => v :: l
  | a :: l, n + 1, v => a :: ax_set l n v
def ax_c2 : Option Value → Bool
  | some v => v.category == 2
  | none => false
def ax_ok1 (lc : List (Option Value)) : Nat → Bool
  | 0 => true
  | n + 1 => !ax_c2 (ax_get lc n)
def ax_al (G : ax_G) : Nat → List (Option Value) → List (Nat × Value)
  | _, [] => []
  | i, none :: l => ax_al G (i + 1) l
  | i, some v :: l => (i, ax_sh G v) :: ax_al G (i + 1) l
theorem ax_get_same : ∀ (lc : List (Option Value)) (i : Nat) (x : Option Value) (w : Value), ax_get (ax_set lc i x) i = some w → x = some w
  | [], _, _, _, h => by simp [ax_set, ax_get] at h
  | _ :: l, 0, x, w, h => by simpa [ax_set, ax_get] using h
  | a :: l, n + 1, x, w, h => ax_get_same l n x w (by simpa [ax_set, ax_get] using h)
theorem ax_get_ne : ∀ (lc : List (Option Value)) (i k : Nat) (x : Option Value), k ≠ i → ax_get (ax_set lc i x) k = ax_get lc k
  | [], _, _, _, _ => by simp [ax_set]
  | _ :: l, 0, 0, _, h => absurd rfl h
  | _ :: l, 0, k + 1, _, _ => by simp [ax_set, ax_get]
  | a :: l, n + 1, 0, _, _ => by simp [ax_set, ax_get]
  | a :: l, n + 1, k + 1, x, h => by simp only [ax_set, ax_get]; exact ax_get_ne l n k x (fun e => h (by rw [e]))
theorem ax_al_mem (G : ax_G) : ∀ (lc : List (Option Value)) (i k : Nat) (v : Value), ax_get lc k = some v → (i + k, ax_sh G v) ∈ ax_al G i lc
  | [], _, _, _, h => by simp [ax_get] at h
  | none :: l, i, 0, v, h => by simp [ax_get] at h
  | some a :: l, i, 0, v, h => by
    simp only [ax_get, Option.some.injEq] at h
    subst h
    simp [ax_al]
  | none :: l, i, k + 1, v, h => by
    have h1 := ax_al_mem G l (i + 1) k v (by simpa [ax_get] using h)
    simp only [ax_al]
    rwa [show i + (k + 1) = i + 1 + k by omega]
  | some a :: l, i, k + 1, v, h => by
    have h1 := ax_al_mem G l (i + 1) k v (by simpa [ax_get] using h)
    simp only [ax_al]
    rw [show i + (k + 1) = i + 1 + k by omega]
    exact List.mem_cons_of_mem _ h1
theorem ax_al_of (G : ax_G) : ∀ (lc : List (Option Value)) (i : Nat) (q : Nat × Value), q ∈ ax_al G i lc → ∃ k v, q = (i + k, ax_sh G v) ∧ ax_get lc k = some v
  | [], _, _, h => by simp [ax_al] at h
  | none :: l, i, q, h => by
    obtain ⟨k, v, h1, h2⟩ := ax_al_of G l (i + 1) q (by simpa [ax_al] using h)
    exact ⟨k + 1, v, by rw [h1, show i + (k + 1) = i + 1 + k by omega], by simpa [ax_get] using h2⟩
  | some a :: l, i, q, h => by
    simp only [ax_al, List.mem_cons] at h
    rcases h with h | h
    · exact ⟨0, a, h, rfl⟩
    · obtain ⟨k, v, h1, h2⟩ := ax_al_of G l (i + 1) q h
      exact ⟨k + 1, v, by rw [h1, show i + (k + 1) = i + 1 + k by omega], by simpa [ax_get] using h2⟩
def ax_loc (nL : Nat) (ls : Array Slot) (G : ax_G) (lc : List (Option Value)) : Prop := ls.size = nL ∧ lv_wf ls ∧ ∀ (i : Nat) (v : Value), ax_get lc i = some v → ls[i]? = some (.val (ax_sh G v))
theorem ax_loc_has {nL : Nat} {ls : Array Slot} {G : ax_G} {lc : List (Option Value)} (h : ax_loc nL ls G lc) : lv_has ls nL (ax_al G 0 lc) := by
  refine ⟨h.1, h.2.1, fun q hq => ?_⟩
  obtain ⟨k, v, rfl, h2⟩ := ax_al_of G lc 0 q hq
  simpa using h.2.2 k v h2
theorem ax_loc_put1 {nL i : Nat} {ls : Array Slot} {G : ax_G} {lc : List (Option Value)} {v : Value} (hk : ax_ok1 lc i = true)
    (h : lv_has ls nL ((i, ax_sh G v) :: (ax_al G 0 lc).filter (fun q => !(q.1 == i) && !(q.1 + 1 == i && q.2.category == 2)))) : ax_loc nL ls G (ax_set lc i (some v)) := by
  refine ⟨h.1, h.2.1, fun k w hw => ?_⟩
  by_cases hki : k = i
  · subst hki
    have e := ax_get_same lc k (some v) w hw
    cases e
    exact h.2.2 (k, ax_sh G v) List.mem_cons_self
  · rw [ax_get_ne lc i k _ hki] at hw
    refine h.2.2 (k, ax_sh G w) (List.mem_cons_of_mem _ (List.mem_filter.mpr ⟨by simpa using ax_al_mem G lc 0 k w hw, ?_⟩))
    have h2 : ¬ (k + 1 = i ∧ w.category = 2) := by
      rintro ⟨rfl, hc⟩
      simp [ax_ok1, hw, ax_c2, hc] at hk
    simp only [ax_sh_cat, Bool.and_eq_true, Bool.not_eq_true', beq_eq_false_iff_ne, ne_eq, Bool.and_eq_false_iff]
    refine ⟨hki, ?_⟩
    by_cases h3 : k + 1 = i
    · exact Or.inr (fun h4 => h2 ⟨h3, h4⟩)
    · exact Or.inl h3
theorem ax_loc_put2 {nL i : Nat} {ls : Array Slot} {G : ax_G} {lc : List (Option Value)} {v : Value} (hk : ax_ok1 lc i = true)
    (h : lv_has ls nL ((i, ax_sh G v) :: (ax_al G 0 lc).filter (fun q => !(q.1 == i) && (!(q.1 == i + 1) && !(q.1 + 1 == i && q.2.category == 2))))) : ax_loc nL ls G (ax_set (ax_set lc i (some v)) (i + 1) none) := by
  refine ⟨h.1, h.2.1, fun k w hw => ?_⟩
  by_cases hk1 : k = i + 1
  · subst hk1
    have e := ax_get_same _ (i + 1) none w hw
    cases e
  · rw [ax_get_ne _ (i + 1) k _ hk1] at hw
    by_cases hki : k = i
    · subst hki
      have e := ax_get_same lc k (some v) w hw
      cases e
      exact h.2.2 (k, ax_sh G v) List.mem_cons_self
    · rw [ax_get_ne lc i k _ hki] at hw
      refine h.2.2 (k, ax_sh G w) (List.mem_cons_of_mem _ (List.mem_filter.mpr ⟨by simpa using ax_al_mem G lc 0 k w hw, ?_⟩))
      have h2 : ¬ (k + 1 = i ∧ w.category = 2) := by
        rintro ⟨rfl, hc⟩
        simp [ax_ok1, hw, ax_c2, hc] at hk
      simp only [ax_sh_cat, Bool.and_eq_true, Bool.not_eq_true', beq_eq_false_iff_ne, ne_eq, Bool.and_eq_false_iff]
      refine ⟨hki, hk1, ?_⟩
      by_cases h3 : k + 1 = i
      · exact Or.inr (fun h4 => h2 ⟨h3, h4⟩)
      · exact Or.inl h3
/-- fewer locals are known -/
def ax_mask : List Bool → List (Option Value) → List (Option Value)
  | true :: bs, a :: l => a :: ax_mask bs l
  | false :: bs, _ :: l => none :: ax_mask bs l
  | _, _ => []
theorem ax_mask_get : ∀ (bs : List Bool) (lc : List (Option Value)) (k : Nat) (v : Value), ax_get (ax_mask bs lc) k = some v → ax_get lc k = some v
  | [], lc, k, v, h => by simp [ax_mask, ax_get] at h
  | true :: bs, [], k, v, h => by simp [ax_mask, ax_get] at h
  | false :: bs, [], k, v, h => by simp [ax_mask, ax_get] at h
  | true :: bs, a :: l, 0, v, h => by simpa [ax_mask, ax_get] using h
  | false :: bs, a :: l, 0, v, h => by simp [ax_mask, ax_get] at h
  | true :: bs, a :: l, k + 1, v, h => by
    simp only [ax_mask, ax_get] at h ⊢
    exact ax_mask_get bs l k v h
  | false :: bs, a :: l, k + 1, v, h => by
    simp only [ax_mask, ax_get] at h ⊢
    exact ax_mask_get bs l k v h
def ax_ent : List Value → List (Option Value)
  | [] => []
  | v :: l => if v.category = 2 then some v :: none :: ax_ent l else some v :: ax_ent l
theorem ax_ent_mem (G : ax_G) : ∀ (vs : List Value) (i k : Nat) (v : Value) (n : Nat), ax_get (ax_ent vs ++ List.replicate n none) k = some v → (i + k, ax_sh G v) ∈ lv_args i (vs.map (ax_sh G))
  | [], i, k, v, n, h => by
    have : ∀ (n k : Nat), ax_get (List.replicate n none) k = none := by
      intro n
      induction n with
      | zero => intro k; rfl
      | succ n ih => intro k; cases k with
        | zero => rfl
        | succ k => exact ih k
    simp [ax_ent, this] at h
  | a :: l, i, k, v, n, h => by
    simp only [ax_ent] at h
    simp only [List.map_cons, lv_args, ax_sh_cat]
    split at h
    next hc =>
      rw [if_pos hc]
      match k, h with
      | 0, h => simp only [List.cons_append, ax_get, Option.some.injEq] at h; subst h; simp
      | 1, h => simp [ax_get] at h
      | k + 2, h =>
        simp only [List.cons_append, ax_get] at h
        have := ax_ent_mem G l (i + 2) k v n h
        rw [show i + (k + 2) = i + 2 + k by omega]
        exact List.mem_cons_of_mem _ this
    next hc =>
      rw [if_neg hc]
      match k, h with
      | 0, h => simp only [List.cons_append, ax_get, Option.some.injEq] at h; subst h; simp
      | k + 1, h =>
        simp only [List.cons_append, ax_get] at h
        have := ax_ent_mem G l (i + 1) k v n h
        rw [show i + (k + 1) = i + 1 + k by omega]
        exact List.mem_cons_of_mem _ this
theorem ax_sl_len (G : ax_G) : ∀ vs : List Value, (lg_sl (vs.map (ax_sh G))).length = (lg_sl vs).length
  | [] => rfl
  | v :: l => by
    have := ax_sl_len G l
    simp only [lg_sl, List.map_cons, List.flatMap_cons, List.length_append, ax_sh_cat] at this ⊢
    rw [this]
    split <;> rfl
/-! words -/
def ax_tbl : List Cond := lw_tbl.filter goodWord
theorem ax_tbl_of {w : Cond} (i : Nat) (h : tables_1[i]? = some w) (hg : goodWord w = true) : w ∈ ax_tbl := List.mem_filter.mpr ⟨List.mem_append_right _ (List.mem_of_getElem? h), hg⟩
theorem ax_tbl_sel {w : Cond} (i : Nat) (h : (k2_sels lw_privs)[i]? = some w) (hg : goodWord w = true) : w ∈ ax_tbl := List.mem_filter.mpr ⟨List.mem_append_left _ (List.mem_of_getElem? h), hg⟩
theorem ax_tbl_lw {w : Cond} (h : w ∈ ax_tbl) : w ∈ lw_tbl := (List.mem_filter.mp h).1
abbrev ax_Mi : Type := MethodName × ByteArray × Nat × Option FieldType
def ax_mw (M : ax_Mi) : List Cond := Cond.code M.1 M.2.1 M.2.2.1 M.2.2.2 :: ax_tbl
theorem ax_mw_good {M : ax_Mi} (h : Cond.code M.1 M.2.1 M.2.2.1 M.2.2.2 ∈ ax_tbl) : GoodIn ax_tbl (ax_mw M) := by
  intro w hw
  have h1 : w ∈ ax_tbl := by
    rcases List.mem_cons.mp hw with e | e
    · rw [e]; exact h
    · exact e
  exact ⟨h1, good_of_word (List.mem_filter.mp h1).2⟩
def ax_wb : List Int32 := [112, 101, 114, 105, 111, 100, 32, 112, 104, 97, 115, 101, 32, 108, 97, 116, 99, 104, 32, 102, 108, 111, 112, 32, 112, 97, 116, 104, 32, 115, 107, 101, 119, 32, 115, 101, 101, 100, 32]
def ax_tx : String := "period phase latch flop path skew seed "
/-- what lies outside the world and stays: the text of the reference's words, two statics -/
def ax_Xt (G : ax_G) (U : State) (H : Heap) : Prop :=
  va_Z "java/lang/String" "COMPACT_STRINGS" "Z" (.int 1) (ax_A G) U H ∧ (∃ v : Value, (v = .null ∨ v = .ref (ax_gx G 1000003)) ∧ va_Z "jdk/internal/util/Preconditions" "SIOOBE_FORMATTER" "Ljava/util/function/BiFunction;" v (ax_A G) U H) ∧
  vk_S 1 [39] [ax_wb] (fun _ => ax_gx G 1000000) (fun _ => ax_gx G 1000002) (ax_A G) U H ∧ vk_R "LatchTimesModel" 142 ax_tx (ax_gx G 1000000) U
theorem ax_Xt_moved {G : ax_G} {s U : State} (hW : s.WarmedH U.vm) {H : Heap} (hq : ∀ a : Nat, a < s.heap.size → ¬ ax_A G a → H[a]? = s.heap[a]?) (h : ax_Xt G s s.heap) : ax_Xt G U H := by
  obtain ⟨h1, ⟨v, hv, h2⟩, h3, h4⟩ := h
  exact ⟨(h1.kept hq).moved hW.alike, ⟨v, hv, (h2.kept hq).moved hW.alike⟩, (h3.kept hq).moved hW.alike, h4.warm hW⟩
theorem ax_Xt_same {G : ax_G} {u U : State} {H : Heap} (hv : U.vm = u.vm) (h : ax_Xt G u H) : ax_Xt G U H := by
  obtain ⟨h1, ⟨v, hv2, h2⟩, h3, h4⟩ := h
  have ha : u.vm.Alike U.vm := by rw [hv]; exact Vm.Alike.refl _
  exact ⟨h1.moved ha, ⟨v, hv2, h2.moved ha⟩, h3.moved ha, h4.same hv⟩
def ax_nest : List Cond := [.methodLinkNest RX8 15 yX1_init "LatchTimes", .methodLinkNest RX3 11 yX1_init "LatchTimes", .methodLinkNest RX8 31 yX2_init "LatchTimes", .methodLinkNest RX3 170 yX8_find "LatchTimes", .methodLinkNest RX1 106 yX8_roundedUp "LatchTimes", .methodLinkNest RX6 111 yX8_roundedUp "LatchTimes", .methodLinkNest RX4 65 yX8_roundedUp "LatchTimes", .methodLinkNest RX5 98 yX8_roundedUp "LatchTimes"]
theorem ax_nest_is : ∀ w ∈ ax_nest, ∃ a i y h, w = .methodLinkNest a i y h := by
  intro w hw
  simp only [ax_nest, List.mem_cons, List.not_mem_nil, or_false] at hw
  rcases hw with h | h | h | h | h | h | h | h <;> exact ⟨_, _, _, _, h⟩
theorem ax_nest_onT : ∀ w ∈ ax_nest, w.onTables = true := by
  intro w hw
  obtain ⟨a, i, y, h, rfl⟩ := ax_nest_is w hw
  rfl
def ax_tys (G : ax_G) : List (ClassId × FieldType) := [(ax_gA G 1, .int), (ax_gA G 2, .long), (ax_gA G 3, .boolean)]
def ax_K (G : ax_G) (U : State) : Prop := va_K (ax_gD G) ax_cl (ax_tys G) U ∧ (∀ w ∈ ax_nest, va_Nw w U) ∧ ax_Xt G U U.heap
theorem ax_K_moved {G : ax_G} {s U : State} (hW : s.WarmedH U.vm) (hq : ∀ a : Nat, a < s.heap.size → ¬ ax_A G a → U.heap[a]? = s.heap[a]?) (h : ax_K G s) : ax_K G U := by
  obtain ⟨h1, h2, h3⟩ := h
  refine ⟨va_K.moved hW.alike h1, fun w hw => ?_, ax_Xt_moved hW hq h3⟩
  obtain ⟨a, i, y, hh, rfl⟩ := ax_nest_is w hw
  exact va_Nw.warmM hW (h2 _ hw)
theorem ax_K_same {G : ax_G} {u U : State} (hv : U.vm = u.vm) (hh : U.heap = u.heap) (h : ax_K G u) : ax_K G U := by
  obtain ⟨h1, h2, h3⟩ := h
  have ha : u.vm.Alike U.vm := by rw [hv]; exact Vm.Alike.refl _
  exact ⟨va_K.moved ha h1, fun w hw => va_Nw.same (ax_nest_onT w hw) hv.symm (h2 w hw), by rw [hh]; exact ax_Xt_same hv h3⟩
def ax_Rel (G : ax_G) (μ : ax_M) (H : Heap) : Prop := va_P (ax_gD G) ax_cl (ax_ws G μ) H
/-! a method's start and end -/
def ax_Pre (G : ax_G) (μ : ax_M) (U : State) : Prop := ax_Rel G μ U.heap ∧ ax_K G U ∧ ax_gb G ≤ U.heap.size
def ax_Q (G : ax_G) (v : Option Value) (μ : ax_M) : Array Value → State → Outcome → State → Prop := fun _ st oc t => oc = .returned v ∧ ax_Rel G μ t.heap ∧ va_F (ax_A G) st t
def ax_room (d : Nat) : Room := { frames := d, cells := 0, slots := 0, locals := 64 * d }
/-- the cells are all made -/
def ax_ok (G : ax_G) : Prop := ax_K0 ≤ ax_gk G ∧ ax_gr G = ax_R
/-- a method's contract: if its function answers, so does it, and leaves the memory that the function leaves -/
def ax_Ok {α : Type} (M : ax_Mi) (d : Nat) (J : α → Option Value) (vs : List Value) (μ : ax_M) (t : Option (α × ax_M)) : Prop :=
  ∀ (l : Launch) (G : ax_G), ax_ok G → ∀ (r : α) (μ2 : ax_M), t = some (r, μ2) → Met l M.1 (ax_mw M) (ax_room d) (va_Pc (vs.map (ax_sh G)) (ax_Pre G μ)) (ax_Q G (J r) μ2) 0 0 (ax_A G)
theorem ax_blind (G : ax_G) (μ : ax_M) (vs : List Value) : FrameBlind (va_Pc vs (ax_Pre G μ)) := by
  intro a U g mk h
  obtain ⟨h1, h2, h3, h4⟩ := h
  exact ⟨h1, h2, ax_K_same (u := U) (U := U.calling g mk a) rfl rfl h3, h4⟩
/-! the walk: machine, frame, world, against a function's answer -/
abbrev ax_X : Type := Program × Launch × Env × Room × State × MethodId × Array Value × List Frame × Method × Code
abbrev ax_xR (x : ax_X) : Room := x.2.2.2.1
abbrev ax_xs (x : ax_X) : State := x.2.2.2.2.1
abbrev ax_xm (x : ax_X) : MethodId := x.2.2.2.2.2.1
abbrev ax_xa (x : ax_X) : Array Value := x.2.2.2.2.2.2.1
abbrev ax_xb (x : ax_X) : List Frame := x.2.2.2.2.2.2.2.1
abbrev ax_xh (x : ax_X) : Method := x.2.2.2.2.2.2.2.2.1
abbrev ax_xc (x : ax_X) : Code := x.2.2.2.2.2.2.2.2.2
abbrev ax_W (x : ax_X) (H : Heap) (locs : List Loc) (n1 n2 : Nat) (Q : State → Prop) (g : JFrame) : Prop := W x.1 x.2.1 x.2.2.1 (ax_xR x) (ax_xs x) (ax_xm x) (ax_xa x) (ax_xb x) (ax_xh x) (ax_xc x) H locs n1 n2 Q g
def ax_C (M : ax_Mi) (d : Nat) (x : ax_X) (G : ax_G) : Prop :=
  x.1.tables.exec = Jvm.exec ∧ (ax_xc x).code = M.2.1 ∧ (ax_xc x).maxLocals = M.2.2.1 ∧ (ax_xs x).vm.findClass M.1.cls = some (ax_xm x).cls ∧ (∀ w ∈ ax_tbl, w.before (ax_xa x) (ax_xs x) = true) ∧
  (ax_xh x).sig.returnType = M.2.2.2 ∧ (ax_xh x).locks = false ∧ ax_K G (ax_xs x) ∧ d ≤ (ax_xR x).frames ∧ 64 * d ≤ (ax_xR x).locals ∧ ax_gb G ≤ (ax_xs x).heap.size ∧ (ax_xh x).name = M.1.name
def ax_Rf {β : Type} (M : ax_Mi) (d : Nat) (x : ax_X) (Z : β → ax_M → State → Prop) (G : ax_G) (n1 n2 pc : Nat) (lc : List (Option Value)) (st : List Value) (μ : ax_M) (t : Option (β × ax_M)) : Prop :=
  ∀ (r : β) (μ2 : ax_M), t = some (r, μ2) → ax_C M d x G → n1 ≤ (ax_xR x).cells → n2 ≤ (ax_xR x).slots → ∀ (H : Heap) (locs : List Loc) (ls : Array Slot), ax_Rel G μ H → va_S (ax_A G) (ax_xs x).heap H locs → ax_loc M.2.2.1 ls G lc →
    ax_W x H locs n1 n2 (Z r μ2) (F0 (ax_xm x) pc ls (st.map (ax_sh G)))
def ax_jI (v : Int32) : Option Value := some (.int v)
def ax_jL (v : Int64) : Option Value := some (.long v)
def ax_jV (_ : Unit) : Option Value := none
def ax_Z {α : Type} (J : α → Option Value) (x : ax_X) (G : ax_G) : α → ax_M → State → Prop := fun r μ2 => MQ (ax_xb x) (ax_Q G (J r) μ2) (ax_xa x) (ax_xs x) 0 0 (ax_A G)
/-- a method, from its entry -/
theorem ax_start {α : Type} {M : ax_Mi} {d : Nat} {J : α → Option Value} {vs : List Value} {μ : ax_M} {t : Option (α × ax_M)} (n : Nat) {lc : List (Option Value)} (hy : plainName M.1.cls = true) (hlc : ax_ent vs ++ List.replicate n none = lc) (hlen : (lg_sl vs).length ≤ M.2.2.1)
    (body : ∀ (x : ax_X) (G : ax_G), ax_ok G → ax_Rf M d x (ax_Z J x G) G 0 0 0 lc [] μ t) : ax_Ok M d J vs μ t := by
  intro l G hG r μ2 ht
  refine Met.ofW (cc := M.2.1) (maxL := M.2.2.1) (ret := M.2.2.2) hy rfl ?_
  intro p e s m args below meth c s₁ B hml hv
  obtain ⟨rfl, hR, hK, hb⟩ := hv
  have hts := atoms_spec (ws := ax_mw M) B.pre
  have hl := lv_entry (vs.map (ax_sh G)) (n := M.2.2.1) (by rw [ax_sl_len]; exact hlen)
  rw [lg_entry_eq]
  refine body (p, l, e, _, s, m, _, below, meth, c) G hG r μ2 ht ⟨B.exec, B.bytes, hml, findClass_of_methodNamed B.named, fun w hw => hts w (List.mem_cons_of_mem _ hw), B.returns, B.notSynchronized, hK, Nat.le_refl _, Nat.le_refl _, hb, (name_of_methodNamed B.named B.method).1⟩ (Nat.zero_le _) (Nat.zero_le _) s.heap [] _ hR va_S.rf ⟨hl.1, hl.2.1, fun i v hv => ?_⟩
  subst hlc
  exact hl.2.2 (i, ax_sh G v) (by simpa using ax_ent_mem G vs 0 i v n hv)
section AXR
variable {β : Type} {M : ax_Mi} {d : Nat} {x : ax_X} {Z : β → ax_M → State → Prop} {G : ax_G} {n1 n2 pc n : Nat} {lc : List (Option Value)} {st : List Value} {μ : ax_M} {t : Option (β × ax_M)}
theorem rf_iadd {a b : Int32} (hd : decode M.2.1 pc = .ok (.iadd, 1)) (hn : pc + 1 = n) (k : ax_Rf M d x Z G n1 n2 n lc (.int (a + b) :: st) μ t) : ax_Rf M d x Z G n1 n2 pc lc (.int b :: .int a :: st) μ t := by
  subst hn
  intro r μ2 ht hC h1 h2 H locs ls hR hS hl
  exact lv_iadd hC.1 hC.2.1 hd (k r μ2 ht hC h1 h2 H locs ls hR hS hl)
theorem rf_isub {a b : Int32} (hd : decode M.2.1 pc = .ok (.isub, 1)) (hn : pc + 1 = n) (k : ax_Rf M d x Z G n1 n2 n lc (.int (a - b) :: st) μ t) : ax_Rf M d x Z G n1 n2 pc lc (.int b :: .int a :: st) μ t := by
  subst hn
  intro r μ2 ht hC h1 h2 H locs ls hR hS hl
  exact lv_isub hC.1 hC.2.1 hd (k r μ2 ht hC h1 h2 H locs ls hR hS hl)
theorem rf_imul {a b : Int32} (hd : decode M.2.1 pc = .ok (.imul, 1)) (hn : pc + 1 = n) (k : ax_Rf M d x Z G n1 n2 n lc (.int (a * b) :: st) μ t) : ax_Rf M d x Z G n1 n2 pc lc (.int b :: .int a :: st) μ t := by
  subst hn
  intro r μ2 ht hC h1 h2 H locs ls hR hS hl
  exact lv_imul hC.1 hC.2.1 hd (k r μ2 ht hC h1 h2 H locs ls hR hS hl)
theorem rf_iand {a b : Int32} (hd : decode M.2.1 pc = .ok (.iand, 1)) (hn : pc + 1 = n) (k : ax_Rf M d x Z G n1 n2 n lc (.int (a &&& b) :: st) μ t) : ax_Rf M d x Z G n1 n2 pc lc (.int b :: .int a :: st) μ t := by
  subst hn
  intro r μ2 ht hC h1 h2 H locs ls hR hS hl
  exact lv_iand hC.1 hC.2.1 hd (k r μ2 ht hC h1 h2 H locs ls hR hS hl)
theorem rf_ior {a b : Int32} (hd : decode M.2.1 pc = .ok (.ior, 1)) (hn : pc + 1 = n) (k : ax_Rf M d x Z G n1 n2 n lc (.int (a ||| b) :: st) μ t) : ax_Rf M d x Z G n1 n2 pc lc (.int b :: .int a :: st) μ t := by
  subst hn
  intro r μ2 ht hC h1 h2 H locs ls hR hS hl
  exact lv_ior hC.1 hC.2.1 hd (k r μ2 ht hC h1 h2 H locs ls hR hS hl)
theorem rf_ixor {a b : Int32} (hd : decode M.2.1 pc = .ok (.ixor, 1)) (hn : pc + 1 = n) (k : ax_Rf M d x Z G n1 n2 n lc (.int (a ^^^ b) :: st) μ t) : ax_Rf M d x Z G n1 n2 pc lc (.int b :: .int a :: st) μ t := by
  subst hn
  intro r μ2 ht hC h1 h2 H locs ls hR hS hl
  exact lv_ixor hC.1 hC.2.1 hd (k r μ2 ht hC h1 h2 H locs ls hR hS hl)
theorem rf_ishl {a b : Int32} (hd : decode M.2.1 pc = .ok (.ishl, 1)) (hn : pc + 1 = n) (k : ax_Rf M d x Z G n1 n2 n lc (.int (a <<< (b &&& 31)) :: st) μ t) : ax_Rf M d x Z G n1 n2 pc lc (.int b :: .int a :: st) μ t := by
  subst hn
  intro r μ2 ht hC h1 h2 H locs ls hR hS hl
  exact lv_ishl hC.1 hC.2.1 hd (k r μ2 ht hC h1 h2 H locs ls hR hS hl)
theorem rf_ishr {a b : Int32} (hd : decode M.2.1 pc = .ok (.ishr, 1)) (hn : pc + 1 = n) (k : ax_Rf M d x Z G n1 n2 n lc (.int (a >>> (b &&& 31)) :: st) μ t) : ax_Rf M d x Z G n1 n2 pc lc (.int b :: .int a :: st) μ t := by
  subst hn
  intro r μ2 ht hC h1 h2 H locs ls hR hS hl
  exact lv_ishr hC.1 hC.2.1 hd (k r μ2 ht hC h1 h2 H locs ls hR hS hl)
theorem rf_iushr {a b : Int32} (hd : decode M.2.1 pc = .ok (.iushr, 1)) (hn : pc + 1 = n) (k : ax_Rf M d x Z G n1 n2 n lc (.int (ax_us a b) :: st) μ t) : ax_Rf M d x Z G n1 n2 pc lc (.int b :: .int a :: st) μ t := by
  subst hn
  intro r μ2 ht hC h1 h2 H locs ls hR hS hl
  exact lv_iushr (v := ax_us a b) hC.1 hC.2.1 hd rfl (k r μ2 ht hC h1 h2 H locs ls hR hS hl)
theorem rf_ladd {a b : Int64} (hd : decode M.2.1 pc = .ok (.ladd, 1)) (hn : pc + 1 = n) (k : ax_Rf M d x Z G n1 n2 n lc (.long (a + b) :: st) μ t) : ax_Rf M d x Z G n1 n2 pc lc (.long b :: .long a :: st) μ t := by
  subst hn
  intro r μ2 ht hC h1 h2 H locs ls hR hS hl
  exact lv_ladd hC.1 hC.2.1 hd (k r μ2 ht hC h1 h2 H locs ls hR hS hl)
theorem rf_lsub {a b : Int64} (hd : decode M.2.1 pc = .ok (.lsub, 1)) (hn : pc + 1 = n) (k : ax_Rf M d x Z G n1 n2 n lc (.long (a - b) :: st) μ t) : ax_Rf M d x Z G n1 n2 pc lc (.long b :: .long a :: st) μ t := by
  subst hn
  intro r μ2 ht hC h1 h2 H locs ls hR hS hl
  exact lv_lsub hC.1 hC.2.1 hd (k r μ2 ht hC h1 h2 H locs ls hR hS hl)
theorem rf_lmul {a b : Int64} (hd : decode M.2.1 pc = .ok (.lmul, 1)) (hn : pc + 1 = n) (k : ax_Rf M d x Z G n1 n2 n lc (.long (a * b) :: st) μ t) : ax_Rf M d x Z G n1 n2 pc lc (.long b :: .long a :: st) μ t := by
  subst hn
  intro r μ2 ht hC h1 h2 H locs ls hR hS hl
  exact lv_lmul hC.1 hC.2.1 hd (k r μ2 ht hC h1 h2 H locs ls hR hS hl)
theorem rf_ineg {a : Int32} (hd : decode M.2.1 pc = .ok (.ineg, 1)) (hn : pc + 1 = n) (k : ax_Rf M d x Z G n1 n2 n lc (.int (-a) :: st) μ t) : ax_Rf M d x Z G n1 n2 pc lc (.int a :: st) μ t := by
  subst hn
  intro r μ2 ht hC h1 h2 H locs ls hR hS hl
  exact lv_ineg hC.1 hC.2.1 hd (k r μ2 ht hC h1 h2 H locs ls hR hS hl)
theorem rf_lneg {a : Int64} (hd : decode M.2.1 pc = .ok (.lneg, 1)) (hn : pc + 1 = n) (k : ax_Rf M d x Z G n1 n2 n lc (.long (-a) :: st) μ t) : ax_Rf M d x Z G n1 n2 pc lc (.long a :: st) μ t := by
  subst hn
  intro r μ2 ht hC h1 h2 H locs ls hR hS hl
  exact lv_lneg hC.1 hC.2.1 hd (k r μ2 ht hC h1 h2 H locs ls hR hS hl)
theorem rf_i2l {a : Int32} (hd : decode M.2.1 pc = .ok (.i2l, 1)) (hn : pc + 1 = n) (k : ax_Rf M d x Z G n1 n2 n lc (.long a.toInt64 :: st) μ t) : ax_Rf M d x Z G n1 n2 pc lc (.int a :: st) μ t := by
  subst hn
  intro r μ2 ht hC h1 h2 H locs ls hR hS hl
  exact lv_i2l hC.1 hC.2.1 hd rfl (k r μ2 ht hC h1 h2 H locs ls hR hS hl)
theorem rf_l2i {a : Int64} (hd : decode M.2.1 pc = .ok (.l2i, 1)) (hn : pc + 1 = n) (k : ax_Rf M d x Z G n1 n2 n lc (.int a.toInt32 :: st) μ t) : ax_Rf M d x Z G n1 n2 pc lc (.long a :: st) μ t := by
  subst hn
  intro r μ2 ht hC h1 h2 H locs ls hR hS hl
  exact lv_l2i hC.1 hC.2.1 hd rfl (k r μ2 ht hC h1 h2 H locs ls hR hS hl)
theorem rf_lcmp {a b : Int64} (hd : decode M.2.1 pc = .ok (.lcmp, 1)) (hn : pc + 1 = n) (k : ax_Rf M d x Z G n1 n2 n lc (.int (lg_cmp a b) :: st) μ t) : ax_Rf M d x Z G n1 n2 pc lc (.long b :: .long a :: st) μ t := by
  subst hn
  intro r μ2 ht hC h1 h2 H locs ls hR hS hl
  exact W.lcmp hC.1 hC.2.1 hd (k r μ2 ht hC h1 h2 H locs ls hR hS hl)
theorem rf_iconst {i : Int} (v : Int32) (hd : decode M.2.1 pc = .ok (.iconst i, 1)) (hv : Int32.ofInt i = v) (hn : pc + 1 = n) (k : ax_Rf M d x Z G n1 n2 n lc (.int v :: st) μ t) : ax_Rf M d x Z G n1 n2 pc lc (st) μ t := by
  subst hn
  intro r μ2 ht hC h1 h2 H locs ls hR hS hl
  exact lv_iconst hC.1 hC.2.1 hd hv (k r μ2 ht hC h1 h2 H locs ls hR hS hl)
theorem rf_bipush {i : Int} (v : Int32) (hd : decode M.2.1 pc = .ok (.bipush i, 2)) (hv : (Int8.ofInt i).toInt32 = v) (hn : pc + 2 = n) (k : ax_Rf M d x Z G n1 n2 n lc (.int v :: st) μ t) : ax_Rf M d x Z G n1 n2 pc lc (st) μ t := by
  subst hn
  intro r μ2 ht hC h1 h2 H locs ls hR hS hl
  exact lv_bipush hC.1 hC.2.1 hd hv (k r μ2 ht hC h1 h2 H locs ls hR hS hl)
theorem rf_sipush {i : Int} (v : Int32) (hd : decode M.2.1 pc = .ok (.sipush i, 3)) (hv : (Int16.ofInt i).toInt32 = v) (hn : pc + 3 = n) (k : ax_Rf M d x Z G n1 n2 n lc (.int v :: st) μ t) : ax_Rf M d x Z G n1 n2 pc lc (st) μ t := by
  subst hn
  intro r μ2 ht hC h1 h2 H locs ls hR hS hl
  exact lv_sipush hC.1 hC.2.1 hd hv (k r μ2 ht hC h1 h2 H locs ls hR hS hl)
theorem rf_lconst {i : Fin 2} (v : Int64) (hd : decode M.2.1 pc = .ok (.lconst i, 1)) (hv : Int64.ofNat (i : Nat) = v) (hn : pc + 1 = n) (k : ax_Rf M d x Z G n1 n2 n lc (.long v :: st) μ t) : ax_Rf M d x Z G n1 n2 pc lc (st) μ t := by
  subst hn
  intro r μ2 ht hC h1 h2 H locs ls hR hS hl
  exact lv_lconst hC.1 hC.2.1 hd hv (k r μ2 ht hC h1 h2 H locs ls hR hS hl)
theorem rf_ldc {i : Nat} {v : Int32} (hd : decode M.2.1 pc = .ok (.ldc i, 2)) (hw : Cond.constant M.1.cls i v ∈ ax_tbl) (hn : pc + 2 = n) (k : ax_Rf M d x Z G n1 n2 n lc (.int v :: st) μ t) : ax_Rf M d x Z G n1 n2 pc lc (st) μ t := by
  subst hn
  intro r μ2 ht hC h1 h2 H locs ls hR hS hl
  exact lv_ldc hC.1 hC.2.1 hC.2.2.2.1 (hC.2.2.2.2.1 _ hw) hd (k r μ2 ht hC h1 h2 H locs ls hR hS hl)
theorem rf_ldcw {i : Nat} {v : Int32} (hd : decode M.2.1 pc = .ok (.ldc_w i, 3)) (hw : Cond.constant M.1.cls i v ∈ ax_tbl) (hn : pc + 3 = n) (k : ax_Rf M d x Z G n1 n2 n lc (.int v :: st) μ t) : ax_Rf M d x Z G n1 n2 pc lc (st) μ t := by
  subst hn
  intro r μ2 ht hC h1 h2 H locs ls hR hS hl
  exact lv_ldcw hC.1 hC.2.1 hC.2.2.2.1 (hC.2.2.2.2.1 _ hw) hd (k r μ2 ht hC h1 h2 H locs ls hR hS hl)
theorem rf_ldc2 {i : Nat} {v : Int64} (hd : decode M.2.1 pc = .ok (.ldc2_w i, 3)) (hw : Cond.constantLong M.1.cls i v ∈ ax_tbl) (hn : pc + 3 = n) (k : ax_Rf M d x Z G n1 n2 n lc (.long v :: st) μ t) : ax_Rf M d x Z G n1 n2 pc lc (st) μ t := by
  subst hn
  intro r μ2 ht hC h1 h2 H locs ls hR hS hl
  exact lv_ldc2 hC.1 hC.2.1 hC.2.2.2.1 (hC.2.2.2.2.1 _ hw) hd (k r μ2 ht hC h1 h2 H locs ls hR hS hl)
theorem rf_iload_n {k0 : Fin 4} (i : Nat) {v : Int32} (hd : decode M.2.1 pc = .ok (.iload_n k0, 1)) (hi : (k0 : Nat) = i) (hg : ax_get lc i = some (.int v)) (hn : pc + 1 = n) (k : ax_Rf M d x Z G n1 n2 n lc (.int v :: st) μ t) : ax_Rf M d x Z G n1 n2 pc lc (st) μ t := by
  subst hn
  intro r μ2 ht hC h1 h2 H locs ls hR hS hl
  exact lv_iload_n hC.1 hC.2.1 hd hi (hl.2.2 i _ hg) (k r μ2 ht hC h1 h2 H locs ls hR hS hl)
theorem rf_iload (i : Nat) {v : Int32} (hd : decode M.2.1 pc = .ok (.iload i, 2)) (hg : ax_get lc i = some (.int v)) (hn : pc + 2 = n) (k : ax_Rf M d x Z G n1 n2 n lc (.int v :: st) μ t) : ax_Rf M d x Z G n1 n2 pc lc (st) μ t := by
  subst hn
  intro r μ2 ht hC h1 h2 H locs ls hR hS hl
  exact lv_iload hC.1 hC.2.1 hd (hl.2.2 i _ hg) (k r μ2 ht hC h1 h2 H locs ls hR hS hl)
theorem rf_lload_n {k0 : Fin 4} (i : Nat) {v : Int64} (hd : decode M.2.1 pc = .ok (.lload_n k0, 1)) (hi : (k0 : Nat) = i) (hg : ax_get lc i = some (.long v)) (hn : pc + 1 = n) (k : ax_Rf M d x Z G n1 n2 n lc (.long v :: st) μ t) : ax_Rf M d x Z G n1 n2 pc lc (st) μ t := by
  subst hn
  intro r μ2 ht hC h1 h2 H locs ls hR hS hl
  exact lv_lload_n hC.1 hC.2.1 hd hi (hl.2.2 i _ hg) (k r μ2 ht hC h1 h2 H locs ls hR hS hl)
theorem rf_lload (i : Nat) {v : Int64} (hd : decode M.2.1 pc = .ok (.lload i, 2)) (hg : ax_get lc i = some (.long v)) (hn : pc + 2 = n) (k : ax_Rf M d x Z G n1 n2 n lc (.long v :: st) μ t) : ax_Rf M d x Z G n1 n2 pc lc (st) μ t := by
  subst hn
  intro r μ2 ht hC h1 h2 H locs ls hR hS hl
  exact lv_lload hC.1 hC.2.1 hd (hl.2.2 i _ hg) (k r μ2 ht hC h1 h2 H locs ls hR hS hl)
theorem ax_sh_is (G : ax_G) (i : Nat) : ∃ a, ax_sh G (.ref i) = .ref a := by
  simp only [ax_sh]
  split
  · exact ⟨_, rfl⟩
  · exact ⟨_, rfl⟩
theorem rf_aload_n {k0 : Fin 4} (i : Nat) {v : Nat} (hd : decode M.2.1 pc = .ok (.aload_n k0, 1)) (hi : (k0 : Nat) = i) (hg : ax_get lc i = some (.ref v)) (hn : pc + 1 = n) (k : ax_Rf M d x Z G n1 n2 n lc (.ref v :: st) μ t) : ax_Rf M d x Z G n1 n2 pc lc st μ t := by
  subst hn
  intro r μ2 ht hC h1 h2 H locs ls hR hS hl
  obtain ⟨a, ha⟩ := ax_sh_is G v
  have h3 := hl.2.2 i _ hg
  rw [ha] at h3
  have h4 := k r μ2 ht hC h1 h2 H locs ls hR hS hl
  simp only [List.map_cons, ha] at h4
  exact lv_aload_n hC.1 hC.2.1 hd hi h3 h4
theorem rf_aload (i : Nat) {v : Nat} (hd : decode M.2.1 pc = .ok (.aload i, 2)) (hg : ax_get lc i = some (.ref v)) (hn : pc + 2 = n) (k : ax_Rf M d x Z G n1 n2 n lc (.ref v :: st) μ t) : ax_Rf M d x Z G n1 n2 pc lc st μ t := by
  subst hn
  intro r μ2 ht hC h1 h2 H locs ls hR hS hl
  obtain ⟨a, ha⟩ := ax_sh_is G v
  have h3 := hl.2.2 i _ hg
  rw [ha] at h3
  have h4 := k r μ2 ht hC h1 h2 H locs ls hR hS hl
  simp only [List.map_cons, ha] at h4
  exact lv_aload hC.1 hC.2.1 hd h3 h4
theorem rf_istore_n {k0 : Fin 4} (i : Nat) {v : Int32} {lc2 : List (Option Value)} (hd : decode M.2.1 pc = .ok (.istore_n k0, 1)) (hi : (k0 : Nat) = i) (hk : ax_ok1 lc i = true) (hi2 : i < M.2.2.1) (hs : ax_set lc i (some (.int v)) = lc2) (hn : pc + 1 = n) (k : ax_Rf M d x Z G n1 n2 n lc2 st μ t) : ax_Rf M d x Z G n1 n2 pc lc (.int v :: st) μ t := by
  subst hn
  subst hs
  intro r μ2 ht hC h1 h2 H locs ls hR hS hl
  refine lv_istore_n hC.1 hC.2.1 hd hi (ax_loc_has hl) hi2 rfl (fun ls2 hl2 => ?_)
  exact k r μ2 ht hC h1 h2 H locs ls2 hR hS (ax_loc_put1 (v := .int v) hk hl2)
theorem rf_istore (i : Nat) {v : Int32} {lc2 : List (Option Value)} (hd : decode M.2.1 pc = .ok (.istore i, 2)) (hk : ax_ok1 lc i = true) (hi2 : i < M.2.2.1) (hs : ax_set lc i (some (.int v)) = lc2) (hn : pc + 2 = n) (k : ax_Rf M d x Z G n1 n2 n lc2 st μ t) : ax_Rf M d x Z G n1 n2 pc lc (.int v :: st) μ t := by
  subst hn
  subst hs
  intro r μ2 ht hC h1 h2 H locs ls hR hS hl
  refine lv_istore hC.1 hC.2.1 hd (ax_loc_has hl) hi2 rfl (fun ls2 hl2 => ?_)
  exact k r μ2 ht hC h1 h2 H locs ls2 hR hS (ax_loc_put1 (v := .int v) hk hl2)
theorem rf_lstore_n {k0 : Fin 4} (i : Nat) {v : Int64} {lc2 : List (Option Value)} (hd : decode M.2.1 pc = .ok (.lstore_n k0, 1)) (hi : (k0 : Nat) = i) (hk : ax_ok1 lc i = true) (hi2 : i + 1 < M.2.2.1) (hs : ax_set (ax_set lc i (some (.long v))) (i + 1) none = lc2) (hn : pc + 1 = n) (k : ax_Rf M d x Z G n1 n2 n lc2 st μ t) : ax_Rf M d x Z G n1 n2 pc lc (.long v :: st) μ t := by
  subst hn
  subst hs
  intro r μ2 ht hC h1 h2 H locs ls hR hS hl
  refine lv_lstore_n hC.1 hC.2.1 hd hi (ax_loc_has hl) hi2 rfl (fun ls2 hl2 => ?_)
  exact k r μ2 ht hC h1 h2 H locs ls2 hR hS (ax_loc_put2 (v := .long v) hk hl2)
theorem rf_lstore (i : Nat) {v : Int64} {lc2 : List (Option Value)} (hd : decode M.2.1 pc = .ok (.lstore i, 2)) (hk : ax_ok1 lc i = true) (hi2 : i + 1 < M.2.2.1) (hs : ax_set (ax_set lc i (some (.long v))) (i + 1) none = lc2) (hn : pc + 2 = n) (k : ax_Rf M d x Z G n1 n2 n lc2 st μ t) : ax_Rf M d x Z G n1 n2 pc lc (.long v :: st) μ t := by
  subst hn
  subst hs
  intro r μ2 ht hC h1 h2 H locs ls hR hS hl
  refine lv_lstore hC.1 hC.2.1 hd (ax_loc_has hl) hi2 rfl (fun ls2 hl2 => ?_)
  exact k r μ2 ht hC h1 h2 H locs ls2 hR hS (ax_loc_put2 (v := .long v) hk hl2)
theorem rf_astore_n {k0 : Fin 4} (i : Nat) {v : Nat} {lc2 : List (Option Value)} (hd : decode M.2.1 pc = .ok (.astore_n k0, 1)) (hi : (k0 : Nat) = i) (hk : ax_ok1 lc i = true) (hi2 : i < M.2.2.1) (hs : ax_set lc i (some (.ref v)) = lc2) (hn : pc + 1 = n) (k : ax_Rf M d x Z G n1 n2 n lc2 st μ t) : ax_Rf M d x Z G n1 n2 pc lc (.ref v :: st) μ t := by
  subst hn
  subst hs
  intro r μ2 ht hC h1 h2 H locs ls hR hS hl
  obtain ⟨a, ha⟩ := ax_sh_is G v
  simp only [List.map_cons, ha]
  refine lv_astore_n hC.1 hC.2.1 hd hi (ax_loc_has hl) hi2 rfl (fun ls2 hl2 => ?_)
  exact k r μ2 ht hC h1 h2 H locs ls2 hR hS (ax_loc_put1 (v := .ref v) hk (by rw [ha]; exact hl2))
theorem rf_astore (i : Nat) {v : Nat} {lc2 : List (Option Value)} (hd : decode M.2.1 pc = .ok (.astore i, 2)) (hk : ax_ok1 lc i = true) (hi2 : i < M.2.2.1) (hs : ax_set lc i (some (.ref v)) = lc2) (hn : pc + 2 = n) (k : ax_Rf M d x Z G n1 n2 n lc2 st μ t) : ax_Rf M d x Z G n1 n2 pc lc (.ref v :: st) μ t := by
  subst hn
  subst hs
  intro r μ2 ht hC h1 h2 H locs ls hR hS hl
  obtain ⟨a, ha⟩ := ax_sh_is G v
  simp only [List.map_cons, ha]
  refine lv_astore hC.1 hC.2.1 hd (ax_loc_has hl) hi2 rfl (fun ls2 hl2 => ?_)
  exact k r μ2 ht hC h1 h2 H locs ls2 hR hS (ax_loc_put1 (v := .ref v) hk (by rw [ha]; exact hl2))
theorem rf_iinc {z : Int} (i : Nat) {v : Int32} {w : Int32} {lc2 : List (Option Value)} (hd : decode M.2.1 pc = .ok (.iinc i z, 3)) (hg : ax_get lc i = some (.int v)) (hw : Int32.ofInt z = w) (hk : ax_ok1 lc i = true) (hi2 : i < M.2.2.1) (hs : ax_set lc i (some (.int (v + w))) = lc2) (hn : pc + 3 = n) (k : ax_Rf M d x Z G n1 n2 n lc2 st μ t) : ax_Rf M d x Z G n1 n2 pc lc st μ t := by
  subst hn
  subst hs
  subst hw
  intro r μ2 ht hC h1 h2 H locs ls hR hS hl
  have hm := ax_al_mem G lc 0 i _ hg
  obtain ⟨q, hq⟩ := List.getElem?_of_mem hm
  rw [Nat.zero_add] at hq
  refine lv_iinc (x := v) hC.1 hC.2.1 hd (ax_loc_has hl) hq rfl hi2 rfl (fun ls2 hl2 => ?_)
  exact k r μ2 ht hC h1 h2 H locs ls2 hR hS (ax_loc_put1 (v := .int (v + Int32.ofInt z)) hk hl2)
theorem rf_dupI {a : Int32} (hd : decode M.2.1 pc = .ok (.dup, 1)) (hn : pc + 1 = n) (k : ax_Rf M d x Z G n1 n2 n lc (.int a :: .int a :: st) μ t) : ax_Rf M d x Z G n1 n2 pc lc (.int a :: st) μ t := by
  subst hn
  intro r μ2 ht hC h1 h2 H locs ls hR hS hl
  exact lv_dup hC.1 hC.2.1 hd rfl (k r μ2 ht hC h1 h2 H locs ls hR hS hl)
theorem rf_dupR {a : Nat} (hd : decode M.2.1 pc = .ok (.dup, 1)) (hn : pc + 1 = n) (k : ax_Rf M d x Z G n1 n2 n lc (.ref a :: .ref a :: st) μ t) : ax_Rf M d x Z G n1 n2 pc lc (.ref a :: st) μ t := by
  subst hn
  intro r μ2 ht hC h1 h2 H locs ls hR hS hl
  exact lv_dup hC.1 hC.2.1 hd (by rw [ax_sh_cat]; rfl) (k r μ2 ht hC h1 h2 H locs ls hR hS hl)
theorem rf_dup2 {a : Int32} {b : Nat} (hd : decode M.2.1 pc = .ok (.dup2, 1)) (hn : pc + 1 = n) (k : ax_Rf M d x Z G n1 n2 n lc (.int a :: .ref b :: .int a :: .ref b :: st) μ t) : ax_Rf M d x Z G n1 n2 pc lc (.int a :: .ref b :: st) μ t := by
  subst hn
  intro r μ2 ht hC h1 h2 H locs ls hR hS hl
  exact lv_dup2_11 hC.1 hC.2.1 hd rfl (by rw [ax_sh_cat]; rfl) (k r μ2 ht hC h1 h2 H locs ls hR hS hl)
theorem rf_if_eq {a : Int32} {tT tF : Option (β × ax_M)} {off : Int} {tg : Nat} (hd : decode M.2.1 pc = .ok (.ifCond .eq off, 3)) (hg : (pc : Int) + off = (tg : Int)) (hn : pc + 3 = n) (kt : a = 0 → ax_Rf M d x Z G n1 n2 tg lc st μ tT) (kf : ¬ a = 0 → ax_Rf M d x Z G n1 n2 n lc st μ tF) : ax_Rf M d x Z G n1 n2 pc lc (.int a :: st) μ (if a = 0 then tT else tF) := by
  subst hn
  intro r μ2 ht hC h1 h2 H locs ls hR hS hl
  exact lv_if_eq hC.1 hC.2.1 hd hg (fun hc => kt hc r μ2 (by rw [if_pos hc] at ht; exact ht) hC h1 h2 H locs ls hR hS hl) (fun hc => kf hc r μ2 (by rw [if_neg hc] at ht; exact ht) hC h1 h2 H locs ls hR hS hl)
theorem rf_if_lt {a : Int32} {tT tF : Option (β × ax_M)} {off : Int} {tg : Nat} (hd : decode M.2.1 pc = .ok (.ifCond .lt off, 3)) (hg : (pc : Int) + off = (tg : Int)) (hn : pc + 3 = n) (kt : a < 0 → ax_Rf M d x Z G n1 n2 tg lc st μ tT) (kf : ¬ a < 0 → ax_Rf M d x Z G n1 n2 n lc st μ tF) : ax_Rf M d x Z G n1 n2 pc lc (.int a :: st) μ (if a < 0 then tT else tF) := by
  subst hn
  intro r μ2 ht hC h1 h2 H locs ls hR hS hl
  exact lv_if_lt hC.1 hC.2.1 hd hg (fun hc => kt hc r μ2 (by rw [if_pos hc] at ht; exact ht) hC h1 h2 H locs ls hR hS hl) (fun hc => kf hc r μ2 (by rw [if_neg hc] at ht; exact ht) hC h1 h2 H locs ls hR hS hl)
theorem rf_if_ge {a : Int32} {tT tF : Option (β × ax_M)} {off : Int} {tg : Nat} (hd : decode M.2.1 pc = .ok (.ifCond .ge off, 3)) (hg : (pc : Int) + off = (tg : Int)) (hn : pc + 3 = n) (kt : 0 ≤ a → ax_Rf M d x Z G n1 n2 tg lc st μ tT) (kf : ¬ 0 ≤ a → ax_Rf M d x Z G n1 n2 n lc st μ tF) : ax_Rf M d x Z G n1 n2 pc lc (.int a :: st) μ (if 0 ≤ a then tT else tF) := by
  subst hn
  intro r μ2 ht hC h1 h2 H locs ls hR hS hl
  exact lv_if_ge hC.1 hC.2.1 hd hg (fun hc => kt hc r μ2 (by rw [if_pos hc] at ht; exact ht) hC h1 h2 H locs ls hR hS hl) (fun hc => kf hc r μ2 (by rw [if_neg hc] at ht; exact ht) hC h1 h2 H locs ls hR hS hl)
theorem rf_if_gt {a : Int32} {tT tF : Option (β × ax_M)} {off : Int} {tg : Nat} (hd : decode M.2.1 pc = .ok (.ifCond .gt off, 3)) (hg : (pc : Int) + off = (tg : Int)) (hn : pc + 3 = n) (kt : 0 < a → ax_Rf M d x Z G n1 n2 tg lc st μ tT) (kf : ¬ 0 < a → ax_Rf M d x Z G n1 n2 n lc st μ tF) : ax_Rf M d x Z G n1 n2 pc lc (.int a :: st) μ (if 0 < a then tT else tF) := by
  subst hn
  intro r μ2 ht hC h1 h2 H locs ls hR hS hl
  exact lv_if_gt hC.1 hC.2.1 hd hg (fun hc => kt hc r μ2 (by rw [if_pos hc] at ht; exact ht) hC h1 h2 H locs ls hR hS hl) (fun hc => kf hc r μ2 (by rw [if_neg hc] at ht; exact ht) hC h1 h2 H locs ls hR hS hl)
theorem rf_if_le {a : Int32} {tT tF : Option (β × ax_M)} {off : Int} {tg : Nat} (hd : decode M.2.1 pc = .ok (.ifCond .le off, 3)) (hg : (pc : Int) + off = (tg : Int)) (hn : pc + 3 = n) (kt : a ≤ 0 → ax_Rf M d x Z G n1 n2 tg lc st μ tT) (kf : ¬ a ≤ 0 → ax_Rf M d x Z G n1 n2 n lc st μ tF) : ax_Rf M d x Z G n1 n2 pc lc (.int a :: st) μ (if a ≤ 0 then tT else tF) := by
  subst hn
  intro r μ2 ht hC h1 h2 H locs ls hR hS hl
  exact lv_if_le hC.1 hC.2.1 hd hg (fun hc => kt hc r μ2 (by rw [if_pos hc] at ht; exact ht) hC h1 h2 H locs ls hR hS hl) (fun hc => kf hc r μ2 (by rw [if_neg hc] at ht; exact ht) hC h1 h2 H locs ls hR hS hl)
theorem rf_if_ne {a : Int32} {tT tF : Option (β × ax_M)} {off : Int} {tg : Nat} (hd : decode M.2.1 pc = .ok (.ifCond .ne off, 3)) (hg : (pc : Int) + off = (tg : Int)) (hn : pc + 3 = n) (kt : ¬ a = 0 → ax_Rf M d x Z G n1 n2 tg lc st μ tT) (kf : a = 0 → ax_Rf M d x Z G n1 n2 n lc st μ tF) : ax_Rf M d x Z G n1 n2 pc lc (.int a :: st) μ (if a = 0 then tF else tT) := by
  subst hn
  intro r μ2 ht hC h1 h2 H locs ls hR hS hl
  exact lv_if_ne hC.1 hC.2.1 hd hg (fun hc => kt hc r μ2 (by rw [if_neg hc] at ht; exact ht) hC h1 h2 H locs ls hR hS hl) (fun hc => kf hc r μ2 (by rw [if_pos hc] at ht; exact ht) hC h1 h2 H locs ls hR hS hl)
theorem rf_icmp_eq {a b : Int32} {tT tF : Option (β × ax_M)} {off : Int} {tg : Nat} (hd : decode M.2.1 pc = .ok (.if_icmp .eq off, 3)) (hg : (pc : Int) + off = (tg : Int)) (hn : pc + 3 = n) (kt : a = b → ax_Rf M d x Z G n1 n2 tg lc st μ tT) (kf : ¬ a = b → ax_Rf M d x Z G n1 n2 n lc st μ tF) : ax_Rf M d x Z G n1 n2 pc lc (.int b :: .int a :: st) μ (if a = b then tT else tF) := by
  subst hn
  intro r μ2 ht hC h1 h2 H locs ls hR hS hl
  exact lv_icmp_eq hC.1 hC.2.1 hd hg (fun hc => kt hc r μ2 (by rw [if_pos hc] at ht; exact ht) hC h1 h2 H locs ls hR hS hl) (fun hc => kf hc r μ2 (by rw [if_neg hc] at ht; exact ht) hC h1 h2 H locs ls hR hS hl)
theorem rf_icmp_lt {a b : Int32} {tT tF : Option (β × ax_M)} {off : Int} {tg : Nat} (hd : decode M.2.1 pc = .ok (.if_icmp .lt off, 3)) (hg : (pc : Int) + off = (tg : Int)) (hn : pc + 3 = n) (kt : a < b → ax_Rf M d x Z G n1 n2 tg lc st μ tT) (kf : ¬ a < b → ax_Rf M d x Z G n1 n2 n lc st μ tF) : ax_Rf M d x Z G n1 n2 pc lc (.int b :: .int a :: st) μ (if a < b then tT else tF) := by
  subst hn
  intro r μ2 ht hC h1 h2 H locs ls hR hS hl
  exact lv_icmp_lt hC.1 hC.2.1 hd hg (fun hc => kt hc r μ2 (by rw [if_pos hc] at ht; exact ht) hC h1 h2 H locs ls hR hS hl) (fun hc => kf hc r μ2 (by rw [if_neg hc] at ht; exact ht) hC h1 h2 H locs ls hR hS hl)
theorem rf_icmp_ge {a b : Int32} {tT tF : Option (β × ax_M)} {off : Int} {tg : Nat} (hd : decode M.2.1 pc = .ok (.if_icmp .ge off, 3)) (hg : (pc : Int) + off = (tg : Int)) (hn : pc + 3 = n) (kt : b ≤ a → ax_Rf M d x Z G n1 n2 tg lc st μ tT) (kf : ¬ b ≤ a → ax_Rf M d x Z G n1 n2 n lc st μ tF) : ax_Rf M d x Z G n1 n2 pc lc (.int b :: .int a :: st) μ (if b ≤ a then tT else tF) := by
  subst hn
  intro r μ2 ht hC h1 h2 H locs ls hR hS hl
  exact lv_icmp_ge hC.1 hC.2.1 hd hg (fun hc => kt hc r μ2 (by rw [if_pos hc] at ht; exact ht) hC h1 h2 H locs ls hR hS hl) (fun hc => kf hc r μ2 (by rw [if_neg hc] at ht; exact ht) hC h1 h2 H locs ls hR hS hl)
theorem rf_icmp_gt {a b : Int32} {tT tF : Option (β × ax_M)} {off : Int} {tg : Nat} (hd : decode M.2.1 pc = .ok (.if_icmp .gt off, 3)) (hg : (pc : Int) + off = (tg : Int)) (hn : pc + 3 = n) (kt : b < a → ax_Rf M d x Z G n1 n2 tg lc st μ tT) (kf : ¬ b < a → ax_Rf M d x Z G n1 n2 n lc st μ tF) : ax_Rf M d x Z G n1 n2 pc lc (.int b :: .int a :: st) μ (if b < a then tT else tF) := by
  subst hn
  intro r μ2 ht hC h1 h2 H locs ls hR hS hl
  exact lv_icmp_gt hC.1 hC.2.1 hd hg (fun hc => kt hc r μ2 (by rw [if_pos hc] at ht; exact ht) hC h1 h2 H locs ls hR hS hl) (fun hc => kf hc r μ2 (by rw [if_neg hc] at ht; exact ht) hC h1 h2 H locs ls hR hS hl)
theorem rf_icmp_le {a b : Int32} {tT tF : Option (β × ax_M)} {off : Int} {tg : Nat} (hd : decode M.2.1 pc = .ok (.if_icmp .le off, 3)) (hg : (pc : Int) + off = (tg : Int)) (hn : pc + 3 = n) (kt : a ≤ b → ax_Rf M d x Z G n1 n2 tg lc st μ tT) (kf : ¬ a ≤ b → ax_Rf M d x Z G n1 n2 n lc st μ tF) : ax_Rf M d x Z G n1 n2 pc lc (.int b :: .int a :: st) μ (if a ≤ b then tT else tF) := by
  subst hn
  intro r μ2 ht hC h1 h2 H locs ls hR hS hl
  exact lv_icmp_le hC.1 hC.2.1 hd hg (fun hc => kt hc r μ2 (by rw [if_pos hc] at ht; exact ht) hC h1 h2 H locs ls hR hS hl) (fun hc => kf hc r μ2 (by rw [if_neg hc] at ht; exact ht) hC h1 h2 H locs ls hR hS hl)
theorem rf_icmp_ne {a b : Int32} {tT tF : Option (β × ax_M)} {off : Int} {tg : Nat} (hd : decode M.2.1 pc = .ok (.if_icmp .ne off, 3)) (hg : (pc : Int) + off = (tg : Int)) (hn : pc + 3 = n) (kt : ¬ a = b → ax_Rf M d x Z G n1 n2 tg lc st μ tT) (kf : a = b → ax_Rf M d x Z G n1 n2 n lc st μ tF) : ax_Rf M d x Z G n1 n2 pc lc (.int b :: .int a :: st) μ (if a = b then tF else tT) := by
  subst hn
  intro r μ2 ht hC h1 h2 H locs ls hR hS hl
  exact lv_icmp_ne hC.1 hC.2.1 hd hg (fun hc => kt hc r μ2 (by rw [if_neg hc] at ht; exact ht) hC h1 h2 H locs ls hR hS hl) (fun hc => kf hc r μ2 (by rw [if_pos hc] at ht; exact ht) hC h1 h2 H locs ls hR hS hl)
theorem rf_goto {off : Int} {tg : Nat} (hd : decode M.2.1 pc = .ok (.goto off, 3)) (hg : (pc : Int) + off = (tg : Int)) (k : ax_Rf M d x Z G n1 n2 tg lc st μ t) : ax_Rf M d x Z G n1 n2 pc lc st μ t := by
  intro r μ2 ht hC h1 h2 H locs ls hR hS hl
  exact lv_goto hC.1 hC.2.1 hd hg (k r μ2 ht hC h1 h2 H locs ls hR hS hl)
theorem rf_none : ax_Rf M d x Z G n1 n2 pc lc st μ none := fun r μ2 ht => by cases ht
theorem rf_split {c : Prop} {dc : Decidable c} {tT tF : Option (β × ax_M)} (kt : c → ax_Rf M d x Z G n1 n2 pc lc st μ tT) (kf : ¬ c → ax_Rf M d x Z G n1 n2 pc lc st μ tF) : ax_Rf M d x Z G n1 n2 pc lc st μ (@ite _ c dc tT tF) := by
  intro r μ2 ht hC h1 h2 H locs ls hR hS hl
  by_cases hc : c
  · exact kt hc r μ2 (by rw [if_pos hc] at ht; exact ht) hC h1 h2 H locs ls hR hS hl
  · exact kf hc r μ2 (by rw [if_neg hc] at ht; exact ht) hC h1 h2 H locs ls hR hS hl
theorem rf_mask (bs : List Bool) {lc2 : List (Option Value)} (hm : ax_mask bs lc = lc2) (k : ax_Rf M d x Z G n1 n2 pc lc2 st μ t) : ax_Rf M d x Z G n1 n2 pc lc st μ t := by
  subst hm
  intro r μ2 ht hC h1 h2 H locs ls hR hS hl
  exact k r μ2 ht hC h1 h2 H locs ls hR hS ⟨hl.1, hl.2.1, fun i v hv => hl.2.2 i v (ax_mask_get bs lc i v hv)⟩
theorem rf_letI {a : Int32} {f : Int32 → Option (β × ax_M)} (k : ∀ v, ax_Rf M d x Z G n1 n2 pc lc (.int v :: st) μ (f v)) : ax_Rf M d x Z G n1 n2 pc lc (.int a :: st) μ (ax_let a f) := k a
theorem rf_letL {a : Int64} {f : Int64 → Option (β × ax_M)} (k : ∀ v, ax_Rf M d x Z G n1 n2 pc lc (.long v :: st) μ (f v)) : ax_Rf M d x Z G n1 n2 pc lc (.long a :: st) μ (ax_let a f) := k a
theorem rf_idiv {a b : Int32} {f : Int32 → Option (β × ax_M)} (hd : decode M.2.1 pc = .ok (.idiv, 1)) (hn : pc + 1 = n) (k : ∀ v, ax_Rf M d x Z G n1 n2 n lc (.int v :: st) μ (f v)) : ax_Rf M d x Z G n1 n2 pc lc (.int b :: .int a :: st) μ (Option.bind (ax_dv a b) f) := by
  subst hn
  intro r μ2 ht hC h1 h2 H locs ls hR hS hl
  by_cases hz : b = 0
  · simp [ax_dv, hz] at ht
  · simp only [ax_dv, if_neg hz, Option.bind_some] at ht
    exact lv_idiv hC.1 hC.2.1 hd hz (k _ r μ2 ht hC h1 h2 H locs ls hR hS hl)
theorem rf_irem {a b : Int32} {f : Int32 → Option (β × ax_M)} (hd : decode M.2.1 pc = .ok (.irem, 1)) (hn : pc + 1 = n) (k : ∀ v, ax_Rf M d x Z G n1 n2 n lc (.int v :: st) μ (f v)) : ax_Rf M d x Z G n1 n2 pc lc (.int b :: .int a :: st) μ (Option.bind (ax_rm a b) f) := by
  subst hn
  intro r μ2 ht hC h1 h2 H locs ls hR hS hl
  by_cases hz : b = 0
  · simp [ax_rm, hz] at ht
  · simp only [ax_rm, if_neg hz, Option.bind_some] at ht
    exact lv_irem hC.1 hC.2.1 hd hz (k _ r μ2 ht hC h1 h2 H locs ls hR hS hl)
theorem rf_ldiv {a b : Int64} {f : Int64 → Option (β × ax_M)} (hd : decode M.2.1 pc = .ok (.ldiv, 1)) (hn : pc + 1 = n) (k : ∀ v, ax_Rf M d x Z G n1 n2 n lc (.long v :: st) μ (f v)) : ax_Rf M d x Z G n1 n2 pc lc (.long b :: .long a :: st) μ (Option.bind (ax_dl a b) f) := by
  subst hn
  intro r μ2 ht hC h1 h2 H locs ls hR hS hl
  by_cases hz : b = 0
  · simp [ax_dl, hz] at ht
  · simp only [ax_dl, if_neg hz, Option.bind_some] at ht
    exact lv_ldiv hC.1 hC.2.1 hd hz (k _ r μ2 ht hC h1 h2 H locs ls hR hS hl)
theorem rf_lrem {a b : Int64} {f : Int64 → Option (β × ax_M)} (hd : decode M.2.1 pc = .ok (.lrem, 1)) (hn : pc + 1 = n) (k : ∀ v, ax_Rf M d x Z G n1 n2 n lc (.long v :: st) μ (f v)) : ax_Rf M d x Z G n1 n2 pc lc (.long b :: .long a :: st) μ (Option.bind (ax_ml a b) f) := by
  subst hn
  intro r μ2 ht hC h1 h2 H locs ls hR hS hl
  by_cases hz : b = 0
  · simp [ax_ml, hz] at ht
  · simp only [ax_ml, if_neg hz, Option.bind_some] at ht
    exact lv_lrem hC.1 hC.2.1 hd hz (k _ r μ2 ht hC h1 h2 H locs ls hR hS hl)
theorem rf_iald {a m : Nat} {i : Int32} {f : Int32 → Option (β × ax_M)} (hG : ax_ok G) (hd : decode M.2.1 pc = .ok (.iaload, 1)) (hm : ax_S a = (1, m)) (ha : a < ax_K0) (hn : pc + 1 = n) (k : ∀ v, ax_Rf M d x Z G n1 n2 n lc (.int v :: st) μ (f v)) : ax_Rf M d x Z G n1 n2 pc lc (.int i :: .ref a :: st) μ (Option.bind (ax_rd μ a m i) f) := by
  subst hn
  intro r μ2 ht hC h1 h2 H locs ls hR hS hl
  by_cases hz : ax_in i m = true
  · simp only [ax_rd, if_pos hz, Option.bind_some] at ht
    have e1 := ax_ws_at (G := G) (μ := μ) (i := a) (Nat.lt_of_lt_of_le ha hG.1)
    rw [ax_e_i hm] at e1
    have h4 := k _ r μ2 ht hC h1 h2 H locs ls hR hS hl
    simp only [List.map_cons, ax_sh_ref ha] at h4 ⊢
    exact va_iald hC.1 hC.2.1 hC.2.2.2.2.2.2.2.1.1 hR a 0 e1 rfl (ax_in_vp hz) hd h4
  · simp [ax_rd, hz] at ht
theorem rf_zald {a m : Nat} {i : Int32} {f : Int32 → Option (β × ax_M)} (hG : ax_ok G) (hd : decode M.2.1 pc = .ok (.baload, 1)) (hm : ax_S a = (3, m)) (ha : a < ax_K0) (hn : pc + 1 = n) (k : ∀ v, ax_Rf M d x Z G n1 n2 n lc (.int v :: st) μ (f v)) : ax_Rf M d x Z G n1 n2 pc lc (.int i :: .ref a :: st) μ (Option.bind (ax_rd μ a m i) f) := by
  subst hn
  intro r μ2 ht hC h1 h2 H locs ls hR hS hl
  by_cases hz : ax_in i m = true
  · simp only [ax_rd, if_pos hz, Option.bind_some] at ht
    have e1 := ax_ws_at (G := G) (μ := μ) (i := a) (Nat.lt_of_lt_of_le ha hG.1)
    rw [ax_e_z hm] at e1
    have h4 := k _ r μ2 ht hC h1 h2 H locs ls hR hS hl
    simp only [List.map_cons, ax_sh_ref ha] at h4 ⊢
    exact va_zald hC.1 hC.2.1 hC.2.2.2.2.2.2.2.1.1 hR a 2 e1 rfl (ax_in_vp hz) hd h4
  · simp [ax_rd, hz] at ht
theorem rf_lald {a m : Nat} {i : Int32} {f : Int64 → Option (β × ax_M)} (hG : ax_ok G) (hd : decode M.2.1 pc = .ok (.laload, 1)) (hm : ax_S a = (2, m)) (ha : a < ax_K0) (hn : pc + 1 = n) (k : ∀ v, ax_Rf M d x Z G n1 n2 n lc (.long v :: st) μ (f v)) : ax_Rf M d x Z G n1 n2 pc lc (.int i :: .ref a :: st) μ (Option.bind (ax_rl μ a m i) f) := by
  subst hn
  intro r μ2 ht hC h1 h2 H locs ls hR hS hl
  by_cases hz : ax_in i m = true
  · simp only [ax_rl, if_pos hz, Option.bind_some] at ht
    have e1 := ax_ws_at (G := G) (μ := μ) (i := a) (Nat.lt_of_lt_of_le ha hG.1)
    rw [ax_e_l hm] at e1
    have h4 := k _ r μ2 ht hC h1 h2 H locs ls hR hS hl
    simp only [List.map_cons, ax_sh_ref ha] at h4 ⊢
    exact va_lald hC.1 hC.2.1 hC.2.2.2.2.2.2.2.1.1 hR a 1 e1 rfl (ax_in_vp hz) hd h4
  · simp [ax_rl, hz] at ht
theorem rf_iast {a m : Nat} {i : Int32} {v : Int32} {f : ax_M → Option (β × ax_M)} (hG : ax_ok G) (hd : decode M.2.1 pc = .ok (.iastore, 1)) (hm : ax_S a = (1, m)) (ha : a < ax_K0) (hn : pc + 1 = n) (k : ∀ μ3, ax_Rf M d x Z G n1 n2 n lc st μ3 (f μ3)) : ax_Rf M d x Z G n1 n2 pc lc (.int v :: .int i :: .ref a :: st) μ (Option.bind (ax_wr μ a m i v) f) := by
  subst hn
  intro r μ2 ht hC h1 h2 H locs ls hR hS hl
  by_cases hz : ax_in i m = true
  · simp only [ax_wr, if_pos hz, Option.bind_some] at ht
    have e1 := ax_ws_at (G := G) (μ := μ) (i := a) (Nat.lt_of_lt_of_le ha hG.1)
    rw [ax_e_i hm] at e1
    simp only [List.map_cons, ax_sh_ref ha]
    refine va_iast hC.1 hC.2.1 hC.2.2.2.2.2.2.2.1.1 hR (ax_ws_D G μ) hS a 0 e1 rfl (ax_in_vp hz) hd (fun H3 locs3 hP3 _ hS3 => ?_)
    refine k _ r μ2 ht hC h1 h2 H3 locs3 ls ?_ hS3 hl
    rw [ax_ws_set (μ2 := ax_wi μ a i.toNatClampNeg v) (by rw [ax_e_i hm, ax_wi_upd]) (fun q hq => ax_e_wi hq)] at hP3
    exact hP3
  · simp [ax_wr, hz] at ht
theorem rf_zast {a m : Nat} {i : Int32} {v : Int32} {f : ax_M → Option (β × ax_M)} (hG : ax_ok G) (hd : decode M.2.1 pc = .ok (.bastore, 1)) (hm : ax_S a = (3, m)) (ha : a < ax_K0) (hn : pc + 1 = n) (k : ∀ μ3, ax_Rf M d x Z G n1 n2 n lc st μ3 (f μ3)) : ax_Rf M d x Z G n1 n2 pc lc (.int v :: .int i :: .ref a :: st) μ (Option.bind (ax_wz μ a m i v) f) := by
  subst hn
  intro r μ2 ht hC h1 h2 H locs ls hR hS hl
  by_cases hz : ax_in i m = true
  · simp only [ax_wz, if_pos hz, Option.bind_some] at ht
    have e1 := ax_ws_at (G := G) (μ := μ) (i := a) (Nat.lt_of_lt_of_le ha hG.1)
    rw [ax_e_z hm] at e1
    simp only [List.map_cons, ax_sh_ref ha]
    refine va_zast hC.1 hC.2.1 hC.2.2.2.2.2.2.2.1.1 hR (ax_ws_D G μ) hS a 2 e1 rfl (ax_in_vp hz) hd (fun H3 locs3 hP3 _ hS3 => ?_)
    refine k _ r μ2 ht hC h1 h2 H3 locs3 ls ?_ hS3 hl
    rw [ax_ws_set (μ2 := ax_wi μ a i.toNatClampNeg (vp_nar .boolean v)) (by rw [ax_e_z hm, ax_wi_upd]) (fun q hq => ax_e_wi hq)] at hP3
    exact hP3
  · simp [ax_wz, hz] at ht
theorem rf_last {a m : Nat} {i : Int32} {v : Int64} {f : ax_M → Option (β × ax_M)} (hG : ax_ok G) (hd : decode M.2.1 pc = .ok (.lastore, 1)) (hm : ax_S a = (2, m)) (ha : a < ax_K0) (hn : pc + 1 = n) (k : ∀ μ3, ax_Rf M d x Z G n1 n2 n lc st μ3 (f μ3)) : ax_Rf M d x Z G n1 n2 pc lc (.long v :: .int i :: .ref a :: st) μ (Option.bind (ax_wrl μ a m i v) f) := by
  subst hn
  intro r μ2 ht hC h1 h2 H locs ls hR hS hl
  by_cases hz : ax_in i m = true
  · simp only [ax_wrl, if_pos hz, Option.bind_some] at ht
    have e1 := ax_ws_at (G := G) (μ := μ) (i := a) (Nat.lt_of_lt_of_le ha hG.1)
    rw [ax_e_l hm] at e1
    simp only [List.map_cons, ax_sh_ref ha]
    refine va_last hC.1 hC.2.1 hC.2.2.2.2.2.2.2.1.1 hR (ax_ws_D G μ) hS a 1 e1 rfl (ax_in_vp hz) hd (fun H3 locs3 hP3 _ hS3 => ?_)
    refine k _ r μ2 ht hC h1 h2 H3 locs3 ls ?_ hS3 hl
    rw [ax_ws_set (μ2 := ax_wl μ a i.toNatClampNeg v) (by rw [ax_e_l hm, ax_wl_upd]) (fun q hq => ax_e_wl hq)] at hP3
    exact hP3
  · simp [ax_wrl, hz] at ht
theorem rf_alen1 {a m : Nat} {v : Int32} (hG : ax_ok G) (hd : decode M.2.1 pc = .ok (.arraylength, 1)) (hm : ax_S a = (1, m)) (hv : Int32.ofNat m = v) (ha : a < ax_K0) (hn : pc + 1 = n) (k : ax_Rf M d x Z G n1 n2 n lc (.int v :: st) μ t) : ax_Rf M d x Z G n1 n2 pc lc (.ref a :: st) μ t := by
  subst hn
  intro r μ2 ht hC h1 h2 H locs ls hR hS hl
  have e1 := ax_ws_at (G := G) (μ := μ) (i := a) (Nat.lt_of_lt_of_le ha hG.1)
  rw [ax_e_i hm] at e1
  have h4 := k r μ2 ht hC h1 h2 H locs ls hR hS hl
  simp only [List.map_cons, ax_sh_ref ha] at h4 ⊢
  exact va_alen hC.1 hC.2.1 hC.2.2.2.2.2.2.2.1.1 hR a 0 e1 rfl hv hd h4
theorem rf_alen2 {a m : Nat} {v : Int32} (hG : ax_ok G) (hd : decode M.2.1 pc = .ok (.arraylength, 1)) (hm : ax_S a = (2, m)) (hv : Int32.ofNat m = v) (ha : a < ax_K0) (hn : pc + 1 = n) (k : ax_Rf M d x Z G n1 n2 n lc (.int v :: st) μ t) : ax_Rf M d x Z G n1 n2 pc lc (.ref a :: st) μ t := by
  subst hn
  intro r μ2 ht hC h1 h2 H locs ls hR hS hl
  have e1 := ax_ws_at (G := G) (μ := μ) (i := a) (Nat.lt_of_lt_of_le ha hG.1)
  rw [ax_e_l hm] at e1
  have h4 := k r μ2 ht hC h1 h2 H locs ls hR hS hl
  simp only [List.map_cons, ax_sh_ref ha] at h4 ⊢
  exact va_alen hC.1 hC.2.1 hC.2.2.2.2.2.2.2.1.1 hR a 1 e1 rfl hv hd h4
theorem rf_alen3 {a m : Nat} {v : Int32} (hG : ax_ok G) (hd : decode M.2.1 pc = .ok (.arraylength, 1)) (hm : ax_S a = (3, m)) (hv : Int32.ofNat m = v) (ha : a < ax_K0) (hn : pc + 1 = n) (k : ax_Rf M d x Z G n1 n2 n lc (.int v :: st) μ t) : ax_Rf M d x Z G n1 n2 pc lc (.ref a :: st) μ t := by
  subst hn
  intro r μ2 ht hC h1 h2 H locs ls hR hS hl
  have e1 := ax_ws_at (G := G) (μ := μ) (i := a) (Nat.lt_of_lt_of_le ha hG.1)
  rw [ax_e_z hm] at e1
  have h4 := k r μ2 ht hC h1 h2 H locs ls hR hS hl
  simp only [List.map_cons, ax_sh_ref ha] at h4 ⊢
  exact va_alen hC.1 hC.2.1 hC.2.2.2.2.2.2.2.1.1 hR a 2 e1 rfl hv hd h4
end AXR
