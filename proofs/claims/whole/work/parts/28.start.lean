def R_law : String := "LatchTimesLaw"
def lw_P (b : Addr) (xs : List Int32) (args : Array Value) (s : State) : Prop := args = #[.ref b] ∧ s.IntsAt b xs ∧ xs.length ≤ 3072 ∧ (Jvm.Cond.and given_1 narrow_1).before args s = true
def lw_Q (_ : Array Value) (s : State) (o : Outcome) (t : State) : Prop := o = .returned (some (.int 1)) ∧ Framed s o t [] 601024 7293034
def lw_Z (below : List Frame) (a : Array Value) (s : State) : State → Prop := fun t => ∃ o, t.status = .running ∧ Ended t below o ∧ lw_Q a s o t
/-- the law's own end, with 1 on the stack, nothing written that was there before, its room as the claim has it -/
theorem lw_ret {p : Program} {l : Launch} {e : Env} {s : State} {m : MethodId} {below : List Frame} {meth : Method} {c : Code} {b : Nat} (hx : p.tables.exec = Jvm.exec) (hb : c.code = code) (hr : meth.sig.returnType = ret) (hlocks : meth.locks = false) {pc : Nat} {H : Heap} {ls : Array Slot} (hdg : decode code pc = .ok (.ireturn, 1)) : W p l e room_1 s m #[Value.ref b] below meth c H [] 601024 7293034 (lw_Z below #[Value.ref b] s) (F0 m pc ls [.int 1]) := by
  intro T hT X
  obtain ⟨fs, hret, hrun, hended, hW, hframe⟩ := X.leave (v := some (.int 1)) (hlocks := hlocks) (fun h => by rw [hr] at h; cases h)
  have hmeth' : T.vm.method? m = some meth := X.method'
  refine ⟨T.setFrames fs, ?_, .returned (some (.int 1)), hrun, hended, rfl, ⟨_, rfl⟩, hW, hframe⟩
  jvm_step X.here [X.here.top, hx, hb, hdg, hmeth', hr, ret, narrow_b1]
  (try refine ⟨rfl, ?_⟩); (try refine ⟨rfl, ?_⟩)
  first | (intro acts; rw [hret _ acts rfl rfl rfl]) | rw [hret _ _ rfl rfl rfl]
  exact Steps.refl _
/-- what holds at the law's entry: the machine, the code, the tables' words (any of lw_tbl by 'hts w (by decide +kernel)'), the script of L ints xs at the cell b, what the Statement gives of the start (any of its parts by flat_of_before) -/
def lw_At (p : Program) (s : State) (m : MethodId) (meth : Method) (c : Code) (b L : Nat) (xs : Nat → Int32) : Prop :=
  p.tables.exec = Jvm.exec ∧ c.code = code ∧ meth.sig.returnType = ret ∧ c.maxLocals = 7 ∧ s.vm.findClass R_law = some m.cls ∧ (∀ w ∈ lw_tbl, w.before #[Value.ref b] s = true) ∧ va_X b L xs s s.heap ∧ b < s.heap.size ∧ meth.locks = false ∧ (Jvm.Cond.and given_1 narrow_1).before #[Value.ref b] s = true
/-! the law's entry, and its loop -/
theorem okty_8 : ∀ j, j < 9 → (match ax_ty 8 j with | .float => false | .double => false | _ => true) = true := by decide +kernel
theorem okty_9 : ∀ j, j < 46 → (match ax_ty 9 j with | .float => false | .double => false | _ => true) = true := by decide +kernel
theorem ax_in_tbl {w : Cond} (h : w ∈ lw_tbl) (hg : goodWord w = true) : w ∈ ax_tbl := List.mem_filter.mpr ⟨h, hg⟩
theorem nwL_8 : Cond.classLink RL 8 RX8 ∈ ax_tbl ∧ Cond.instantiable RX8 9 ∈ ax_tbl ∧ Cond.initialized RX8 ∈ ax_tbl := ⟨ax_in_tbl (by decide +kernel) rfl, ax_in_tbl (by decide +kernel) rfl, ax_in_tbl (by decide +kernel) rfl⟩
theorem nwL_18 : Cond.classLink RL 18 RX9 ∈ ax_tbl ∧ Cond.instantiable RX9 46 ∈ ax_tbl ∧ Cond.initialized RX9 ∈ ax_tbl := ⟨ax_in_tbl (by decide +kernel) rfl, ax_in_tbl (by decide +kernel) rfl, ax_in_tbl (by decide +kernel) rfl⟩
theorem liL_17 : ax_lI RL 17 mX8_init := ⟨ax_in_tbl (by decide +kernel) rfl, ax_in_tbl (by decide +kernel) rfl⟩
theorem liL_20 : ax_lI RL 20 mX9_init := ⟨ax_in_tbl (by decide +kernel) rfl, ax_in_tbl (by decide +kernel) rfl⟩
theorem ax_nest_tbl : ∀ w ∈ ax_nest, w ∈ lw_tbl := by decide +kernel
theorem ax_xn_tbl : ∀ w ∈ ax_xn, w ∈ lw_tbl := by decide +kernel
theorem ax_inst : ∀ (c : Nat) (q : vw_C), ax_cl[c]? = some q → Cond.instantiable q.1 q.2.2 ∈ lw_tbl := by
  intro c q hq
  match c, hq with
  | 0, hq => cases hq; decide +kernel
  | 1, hq => cases hq; decide +kernel
  | 2, hq => cases hq; decide +kernel
  | 3, hq => cases hq; decide +kernel
  | 4, hq => cases hq; decide +kernel
  | 5, hq => cases hq; decide +kernel
  | 6, hq => cases hq; decide +kernel
  | 7, hq => cases hq; decide +kernel
  | 8, hq => cases hq; decide +kernel
  | 9, hq => cases hq; decide +kernel
  | c + 10, hq => simp [ax_cl] at hq
theorem ax_arrT {args : Array Value} {s : State} {ty : FieldType} (h : (Cond.arrayClass ty).before args s = true) : ∃ cA, ArrOfT s cA ty ∧ s.vm.findClass ("[" ++ ty.toString) = some cA := by
  obtain ⟨c, k, comp, h1, h2, h3⟩ := Cond.arrayClass_spec h
  exact ⟨c, fun n z => ⟨fun k h => (by cases h), k, h2, comp, h3⟩, h1⟩
def ax_tW : Term := Term.string "LatchTimesModel" (142 : Nat)
def ax_pre1 : Cond := Jvm.Cond.and given_1 narrow_1
theorem ax_wel : ∀ j, j < 39 → (Cond.eq (.elem (.field ax_tW "java/lang/String" "value" "[B") (.int (Int32.ofNat j))) (.int (ax_wb.getD j 0))) ∈ flatC ax_pre1 := by decide +kernel
theorem ax_world {p : Program} {s : State} {m : MethodId} {meth : Method} {c : Code} {b L : Nat} {xs : Nat → Int32} (C0 : lw_At p s m meth c b L xs) : ∃ (D : va_G) (cA : Nat → ClassId) (gx : Nat → Nat), gx 1000001 = b ∧ ∀ (k : Nat) (ρ : Nat → Nat → Option Nat), ax_K (ax_Gk D cA s.heap.size k ρ gx) s ∧ ax_Xe (ax_Gk D cA s.heap.size k ρ gx) s := by
  obtain ⟨hx, hb, hr, hml, hown, hts, hX, hbl, hlocks, hgv⟩ := C0
  have hs := flat_of_before ax_pre1 hgv
  have hA : ∀ a : Nat, a < s.heap.size → ¬ (fun q : Nat => s.heap.size ≤ q) a := fun a h => Nat.not_le.mpr h
  have hcl : ∀ c : Nat, ∃ q : ClassId × (Nat → Nat), ∀ y, ax_cl[c]? = some y → u_Kn s y.1 y.2.1 y.2.2 q.1 q.2 := by
    intro c
    cases hc : ax_cl[c]? with
    | none => exact ⟨(m.cls, fun _ => 0), fun y hy => by cases hy⟩
    | some y =>
      obtain ⟨cC, iS, h⟩ := u_known (C := y.1) (T := y.2.1) (N := y.2.2) (n := y.2.2) hts (fun w hw => (List.mem_filter.mp ((ax_cls_in c y hc).1 w hw)).1) (hts _ (ax_inst c y hc))
      exact ⟨(cC, iS), fun z hz => by cases hz; exact h⟩
  obtain ⟨f, hf⟩ := Classical.axiomOfChoice hcl
  obtain ⟨c1, a1, n1⟩ := ax_arrT (hts (.arrayClass .int) (by decide +kernel))
  obtain ⟨c2, a2, n2⟩ := ax_arrT (hts (.arrayClass .long) (by decide +kernel))
  obtain ⟨c3, a3, n3⟩ := ax_arrT (hts (.arrayClass .boolean) (by decide +kernel))
  obtain ⟨adK, adV, hS0, hS1⟩ := vk_Sof (args := #[Value.ref b]) (s := s) (N := 1) (tm := fun _ => ax_tW) (len := [39]) (byt := [ax_wb]) (A := fun q : Nat => s.heap.size ≤ q)
    (fun i hi => by obtain rfl : i = 0 := by omega
                    decide)
    (fun i hi => hs _ (by decide +kernel)) (fun i hi => hs _ (by decide +kernel)) (fun i hi => hs _ (by decide +kernel))
    (fun i hi => by obtain rfl : i = 0 := by omega
                    exact hs _ (by decide +kernel))
    (fun i hi j hj => by obtain rfl : i = 0 := by omega
                         exact hs _ (ax_wel j hj))
    (fun i j hi hj h => absurd (show i = j by omega) h) hA
  obtain ⟨a4, -, -, -, e4, -⟩ := Cond.exactly_spec (args := #[Value.ref b]) (first := s) (o := none) (s := s) (idx := []) (t := Term.string "LatchTimes" (177 : Nat)) (cls := "java/lang/String") (hs _ (by decide +kernel))
  obtain ⟨a5, -, -, -, e5, -⟩ := Cond.exactly_spec (args := #[Value.ref b]) (first := s) (o := none) (s := s) (idx := []) (t := Term.string "LatchTimes" (208 : Nat)) (cls := "java/lang/String") (hs _ (by decide +kernel))
  have hq := va_Zqof (A := fun q : Nat => s.heap.size ≤ q) (hts (.laysStatic "jdk/internal/util/Preconditions" "SIOOBE_FORMATTER" "Ljava/util/function/BiFunction;") (by decide +kernel)) (hts (.initialized "jdk/internal/util/Preconditions") (by decide +kernel)) (hs (.isRef (.static "jdk/internal/util/Preconditions" "SIOOBE_FORMATTER" "Ljava/util/function/BiFunction;")) (by decide +kernel)) hA
  obtain ⟨a3v, hq⟩ : ∃ t : Nat, ∃ v : Value, (v = .null ∨ v = .ref t) ∧ va_Z "jdk/internal/util/Preconditions" "SIOOBE_FORMATTER" "Ljava/util/function/BiFunction;" v (fun q : Nat => s.heap.size ≤ q) s s.heap := by
    rcases hq with h | ⟨t, h⟩
    · exact ⟨0, _, Or.inl rfl, h⟩
    · exact ⟨t, _, Or.inr rfl, h⟩
  refine ⟨(fun c => (f c).1, fun c => (f c).2), fun i => if i = 1 then c1 else if i = 2 then c2 else c3, fun i => if i = 1000000 then adK 0 else if i = 1000001 then b else if i = 1000002 then adV 0 else if i = 1000003 then a3v else if i = 1000004 then a4 else a5, rfl, fun k ρ => ⟨⟨⟨fun c q h => hf c q h, fun k q h => ?_⟩, fun w hw => va_Nw.of (ax_nest_onT w hw) (hts w (ax_nest_tbl w hw)), ?_, hq, ?_, ?_⟩, ?_, ?_, ?_, ?_, ?_, fun w hw => va_Nw.of (ax_xn_onT w hw) (hts w (ax_xn_tbl w hw))⟩⟩
  · match k, h with
    | 0, h => cases h; exact ⟨a1, n1⟩
    | 1, h => cases h; exact ⟨a2, n2⟩
    | 2, h => cases h; exact ⟨a3, n3⟩
    | k + 3, h => simp [ax_tys] at h
  · exact va_Zof (hts _ (by decide +kernel)) (hts _ (by decide +kernel)) (va_eqt (hs (Cond.eq (.static "java/lang/String" "COMPACT_STRINGS" "Z") (.int 1)) (by decide +kernel))) hA
  · refine ⟨fun i hi => ?_, fun i j hi hj _ => by omega⟩
    obtain rfl : i = 0 := by omega
    exact hS0.1 0 hi
  · exact vk_R.of (hts _ (by decide +kernel)) (hS1 0 (by omega))
  · exact vk_R.of (hts _ (by decide +kernel)) e4
  · exact vk_R.of (hts _ (by decide +kernel)) e5
  · exact vx_Zqof (hts _ (by decide +kernel)) (hts _ (by decide +kernel)) (hs _ (by decide +kernel)) hA
  · exact vx_Zqof (hts _ (by decide +kernel)) (hts _ (by decide +kernel)) (hs _ (by decide +kernel)) hA
  · exact va_Nc.of (hs (.not (.castable "java/util/NoSuchElementException" "java/lang/IndexOutOfBoundsException")) (by decide +kernel))
/-- the law's loop -/
theorem law_loop {x : ax_X} {G : ax_G} {xs : Nat → Int32} {L : Nat} {Z : Int32 → ax_M → State → Prop} (hG : ax_ok G) (hk : 84 < ax_gk G) (hst : x.2.1.stackTraces = false) (hE : ax_Xe G (ax_xs x)) (hX : ax_Sc G x L xs) (hend9 : ∀ (m1 m2 : Nat) (lc : List (Option Value)) (μ : ax_M), ax_Rf mL_law 20 x Z G m1 m2 1554 lc [.int 1] μ (some (1, μ))) (hw1 : 686 ≤ (ax_xR x).cells) (hw2 : 9100 ≤ (ax_xR x).slots) :
    ∀ (n k : Nat), n + k = 600 → ∀ (a4 : Int32) (μ : ax_M), ax_Rf mL_law 20 x Z G (85 + k) (5431 + 6 * k) 23 [some (.ref 1000001), some (.ref 0), some (.ref 57), some (.ref 84), some (.int a4), none, none] [] μ (ax_lp1 (fL_law_B23 xs L) n a4 μ) := by
  intro n
  induction n with
  | zero =>
    intro k _ a4 μ r μ2 ht
    cases ht
  | succ n ih =>
    intro k hk2 a4 μ
    exact pL_law_B23 (n1 := 85 + k) (n2 := 5431 + 6 * k) hG hk hst hE hX hend9 (by omega) (by omega) (ax_lp1 (fL_law_B23 xs L) n) (fun a μ => ih (k + 1) (by omega) a μ) a4 μ
set_option maxHeartbeats 1000000 in
/-- the law, from its entry, if the pure functions answer -/
theorem whole_pure {p : Program} {e : Env} {s : State} {m : MethodId} {below : List Frame} {meth : Method} {c : Code} (l : Launch) (hflags : l.flags = flags0) {b L : Nat} {xs : Nat → Int32} (hnm : meth.name = "law") (C0 : lw_At p s m meth c b L xs) {μ5 μ6 : ax_M}
    (h5 : (ax_bd (fX9_freshText mu_4) (fun _ m => ax_bd (fX9_takeText m) (fun _ m => ax_bd (fX9_begins m) (fun _ m => some ((), m))))) = some ((), μ5)) (hz : ∀ j, μ5.2 84 j = 0) (h6 : ax_lp1 (fL_law_B23 xs L) 600 0 μ5 = some (1, μ6)) :
    W p l e room_1 s m #[Value.ref b] below meth c s.heap [] 0 0 (lw_Z below #[Value.ref b] s) (entryFrame m ([Value.ref b] : List Value).toArray 7) := by
  obtain ⟨D, cA, gx, hgb, hw⟩ := ax_world C0
  obtain ⟨hx, hb, hr, hml, hown, hts, hX, hbl, hlocks, hgv⟩ := id C0
  have hst : l.stackTraces = false := by
    unfold Launch.stackTraces
    rw [hflags]
    decide +kernel
  have hend9 : ∀ (k : Nat) (ρ : Nat → Nat → Option Nat) (m1 m2 : Nat) (lc : List (Option Value)) (μ : ax_M), ax_Rf mL_law 20 (p, l, e, room_1, s, m, #[Value.ref b], below, meth, c) (fun (_ : Int32) (_ : ax_M) => lw_Z below #[Value.ref b] s) (ax_Gk D cA s.heap.size k ρ gx) m1 m2 1554 lc [.int 1] μ (some (1, μ)) := by
    intro k ρ m1 m2 lc μ r μ2 ht hC h1 h2 H locs ls hR hS hl
    refine W.widen (k := 601024) (n := 7293034) h1 h2 ?_
    refine va_forget (fun q hq => hS.2.2 q hq) ?_
    exact lw_ret hx hb hr hlocks dL_law_1554
  have hSc : ∀ (k : Nat) (ρ : Nat → Nat → Option Nat), ax_Sc (ax_Gk D cA s.heap.size k ρ gx) (p, l, e, room_1, s, m, #[Value.ref b], below, meth, c) L xs := by
    intro k ρ
    refine ⟨?_, ?_, ?_⟩
    · show va_X (gx 1000001) L xs s s.heap
      rw [hgb]; exact hX
    · show gx 1000001 < s.heap.size
      rw [hgb]; exact hbl
    · show ¬ s.heap.size ≤ gx 1000001
      rw [hgb]; exact Nat.not_le.mpr hbl
  have ok9 : ax_OkC mX9_init 4 26 2645 [.ref 57] 58 84 rh_63 ax_R mu_3 (some ((), μ5)) := by rw [← h5]; exact okc_X9_init_57
  have hk0 : (ax_xs (p, l, e, room_1, s, m, #[Value.ref b], below, meth, c)).heap.size = s.heap.size + 0 := rfl
  have hmain : ax_Rf mL_law 20 (p, l, e, room_1, s, m, #[Value.ref b], below, meth, c) (fun (_ : Int32) (_ : ax_M) => lw_Z below #[Value.ref b] s) (ax_Gk D cA s.heap.size 0 rh_0 gx) 0 0 0 [some (.ref 1000001), none, none, none, none, none, none] [] mu_0 (some (1, μ6)) := by
    refine rf_newO (n := 3) (q := (RX8, TX8, 9)) (c := 8) 0 hk0 rfl rfl rfl nwL_8 (fun j hj => ax_fv_def (okty_8 j hj) (fun _ => rfl) (fun _ => rfl) (fun _ => rfl) j) (Nat.le_of_ble_eq_true rfl) (Nat.le_of_ble_eq_true rfl) (Nat.le_of_ble_eq_true rfl) dL_law_0 rfl ?_
    refine rf_dupR (n := 4) dL_law_3 rfl ?_
    refine rf_cIs (n := 7) (As := []) 0 hk0 rfl okc_X8_init_0 liL_17 hhX8_init rfl rfl (Nat.le_of_ble_eq_true rfl) dL_law_4 rfl (Nat.le_of_ble_eq_true rfl) rfl rfl (Nat.le_of_ble_eq_true rfl) (Nat.le_of_ble_eq_true rfl) (Nat.le_of_ble_eq_true rfl) ?_
    refine rf_astore_n (n := 8) 1 dL_law_7 rfl rfl (Nat.le_of_ble_eq_true rfl) rfl rfl ?_
    refine rf_newO (n := 11) (q := (RX9, TX9, 46)) (c := 9) 0 hk0 rfl rfl rfl nwL_18 (fun j hj => ax_fv_def (okty_9 j hj) (fun _ => rfl) (fun _ => rfl) (fun _ => rfl) j) (Nat.le_of_ble_eq_true rfl) (Nat.le_of_ble_eq_true rfl) (Nat.le_of_ble_eq_true rfl) dL_law_8 rfl ?_
    refine rf_dupR (n := 12) dL_law_11 rfl ?_
    refine rf_cIs (n := 15) (As := []) 0 hk0 rfl ok9 liL_20 hhX9_init rfl rfl (Nat.le_of_ble_eq_true rfl) dL_law_12 rfl (Nat.le_of_ble_eq_true rfl) rfl rfl (Nat.le_of_ble_eq_true rfl) (Nat.le_of_ble_eq_true rfl) (Nat.le_of_ble_eq_true rfl) ?_
    refine rf_astore_n (n := 16) 2 dL_law_15 rfl rfl (Nat.le_of_ble_eq_true rfl) rfl rfl ?_
    refine rf_iconst (n := 17) (1 : Int32) dL_law_16 (by decide) rfl ?_
    refine rf_newAL (n := 19) 0 hk0 rfl (N := 1) rfl (by decide) (by decide) (by decide) hz (Nat.le_of_ble_eq_true rfl) (Nat.le_of_ble_eq_true rfl) (Nat.le_of_ble_eq_true rfl) ax_arr_long dL_law_17 rfl ?_
    refine rf_astore_n (n := 20) 3 dL_law_19 rfl rfl (Nat.le_of_ble_eq_true rfl) rfl rfl ?_
    refine rf_iconst (n := 21) (0 : Int32) dL_law_20 (by decide) rfl ?_
    refine rf_istore (n := 23) 4 dL_law_21 rfl (Nat.le_of_ble_eq_true rfl) rfl rfl ?_
    rw [← h6]
    exact law_loop (G := ax_Gk D cA s.heap.size 85 ax_R gx) ⟨Nat.le_of_ble_eq_true rfl, rfl⟩ (Nat.le_of_ble_eq_true rfl) hst (hw 85 ax_R).2 (hSc 85 ax_R) (hend9 85 ax_R) (Nat.le_of_ble_eq_true rfl) (Nat.le_of_ble_eq_true rfl) 600 0 rfl 0 μ5
  have e1 : ([Value.ref b] : List Value) = ([.ref 1000001] : List Value).map (ax_sh (ax_Gk D cA s.heap.size 0 rh_0 gx)) := by
    have h9 : ax_sh (ax_Gk D cA s.heap.size 0 rh_0 gx) (.ref 1000001) = .ref (gx 1000001) := rfl
    simp only [List.map_cons, List.map_nil, h9, hgb]
  have hl := lv_entry (([.ref 1000001] : List Value).map (ax_sh (ax_Gk D cA s.heap.size 0 rh_0 gx))) (n := 7) (by rw [ax_sl_len]; decide)
  rw [← e1] at hl
  rw [lg_entry_eq]
  refine hmain 1 μ6 rfl ⟨hx, hb, hml, hown, fun w hw => hts w (List.mem_filter.mp hw).1, hr, hlocks, (hw 0 rh_0).1, Nat.le_of_ble_eq_true rfl, Nat.le_of_ble_eq_true rfl, Nat.le_refl _, hnm⟩ (Nat.zero_le _) (Nat.zero_le _) s.heap [] _ (fun k q h => absurd (ax_ws_out h).1 (Nat.not_lt_zero k)) va_S.rf ⟨hl.1, hl.2.1, fun i v hv => ?_⟩
  exact hl.2.2 (i, ax_sh (ax_Gk D cA s.heap.size 0 rh_0 gx) v) (by rw [e1]; simpa using ax_ent_mem (ax_Gk D cA s.heap.size 0 rh_0 gx) [.ref 1000001] 0 i v 6 hv)
