section AXM
variable {β : Type} {M : ax_Mi} {d : Nat} {x : ax_X} {Z : β → ax_M → State → Prop} {G : ax_G} {n1 n2 pc n : Nat} {lc : List (Option Value)} {st : List Value} {μ : ax_M} {t : Option (β × ax_M)}
theorem rf_pfI {idx c j i : Nat} {v : Int32} {f : ax_M → Option (β × ax_M)} (hG : ax_ok G) (hty : ax_ty c j = .int) (hd : decode M.2.1 pc = .ok (.putfield idx, 3)) (hf : ax_fl M.1.cls idx c j) (hk : ax_kI c j) (hw : ax_nf c j) (hm : ax_S i = (0, c)) (hi : i < ax_K0) (hn : pc + 3 = n) (k : ∀ μ3, ax_Rf M d x Z G n1 n2 n lc st μ3 (f μ3)) : ax_Rf M d x Z G n1 n2 pc lc (.int v :: .ref i :: st) μ (ax_let (ax_wi μ i j v) f) := rf_putI hG hty hd hf hk hw hm hi hn (k _)
theorem rf_pfZ {idx c j i : Nat} {v : Int32} {f : ax_M → Option (β × ax_M)} (hG : ax_ok G) (hty : ax_ty c j = .boolean) (hz : v = 0 ∨ v = 1) (hd : decode M.2.1 pc = .ok (.putfield idx, 3)) (hf : ax_fl M.1.cls idx c j) (hk : ax_kI c j) (hw : ax_nf c j) (hm : ax_S i = (0, c)) (hi : i < ax_K0) (hn : pc + 3 = n) (k : ∀ μ3, ax_Rf M d x Z G n1 n2 n lc st μ3 (f μ3)) : ax_Rf M d x Z G n1 n2 pc lc (.int v :: .ref i :: st) μ (ax_let (ax_wi μ i j v) f) := rf_putZ hG hty hz hd hf hk hw hm hi hn (k _)
theorem rf_pfL {idx c j i : Nat} {v : Int64} {f : ax_M → Option (β × ax_M)} (hG : ax_ok G) (hty : ax_ty c j = .long) (hd : decode M.2.1 pc = .ok (.putfield idx, 3)) (hf : ax_fl M.1.cls idx c j) (hk : ax_kL c j) (hw : ax_nf c j) (hm : ax_S i = (0, c)) (hi : i < ax_K0) (hn : pc + 3 = n) (k : ∀ μ3, ax_Rf M d x Z G n1 n2 n lc st μ3 (f μ3)) : ax_Rf M d x Z G n1 n2 pc lc (.long v :: .ref i :: st) μ (ax_let (ax_wl μ i j v) f) := rf_putL hG hty hd hf hk hw hm hi hn (k _)
theorem rf_pfZc {idx c j i : Nat} {v : Int32} {f : ax_M → Option (β × ax_M)} (hG : ax_ok G) (hty : ax_ty c j = .boolean) (hd : decode M.2.1 pc = .ok (.putfield idx, 3)) (hf : ax_fl M.1.cls idx c j) (hk : ax_kI c j) (hw : ax_nf c j) (hm : ax_S i = (0, c)) (hi : i < ax_K0) (hn : pc + 3 = n) (k : ∀ μ3, ax_Rf M d x Z G n1 n2 n lc st μ3 (f μ3)) : ax_Rf M d x Z G n1 n2 pc lc (.int v :: .ref i :: st) μ (if v = 0 ∨ v = 1 then ax_let (ax_wi μ i j v) f else none) := rf_split (fun hz => rf_pfZ hG hty hz hd hf hk hw hm hi hn k) (fun _ => rf_none)
theorem rf_max {a b : Int32} {idx : Nat} (hd : decode M.2.1 pc = .ok (.invokestatic idx, 3)) (hl0 : Cond.methodLink M.1.cls idx Lib.Math.max.name ∈ ax_tbl) (hl2 : Cond.static Lib.Math.max.name ∈ ax_tbl ∧ Cond.initialized "java/lang/Math" ∈ ax_tbl ∧ Cond.code Lib.Math.max.name Lib.Math.max.code 2 (some .int) ∈ ax_tbl) (hdd : 1 ≤ d) (hcat : (st.map fun v => v.category).sum ≤ 8) (hn : pc + 3 = n) (k : ax_Rf M d x Z G n1 n2 n lc (.int (ax_mx a b) :: st) μ t) : ax_Rf M d x Z G n1 n2 pc lc (.int b :: .int a :: st) μ t := by
  subst hn
  intro r μ2 ht hC h1 h2 H locs ls hR hS hl
  have r1 := hC.2.2.2.2.2.2.2.2.1
  have r2 := hC.2.2.2.2.2.2.2.2.2.1
  have r3 := ax_catsum G st
  exact va_mmax hC.1 hC.2.1 (hC.2.2.1.trans hl.1.symm) hC.2.2.2.1 (hC.2.2.2.2.1 _ hl0) (hC.2.2.2.2.1 _ hl2.1) (hC.2.2.2.2.1 _ hl2.2.1) (hC.2.2.2.2.1 _ hl2.2.2) (by omega) (by rw [r3]; omega) h1 h2 hd (k r μ2 ht hC h1 h2 H locs ls hR hS hl)
theorem rf_min {a b : Int32} {idx : Nat} (hd : decode M.2.1 pc = .ok (.invokestatic idx, 3)) (hl0 : Cond.methodLink M.1.cls idx Lib.Math.min.name ∈ ax_tbl) (hl2 : Cond.static Lib.Math.min.name ∈ ax_tbl ∧ Cond.initialized "java/lang/Math" ∈ ax_tbl ∧ Cond.code Lib.Math.min.name Lib.Math.min.code 2 (some .int) ∈ ax_tbl) (hdd : 1 ≤ d) (hcat : (st.map fun v => v.category).sum ≤ 8) (hn : pc + 3 = n) (k : ax_Rf M d x Z G n1 n2 n lc (.int (ax_mn a b) :: st) μ t) : ax_Rf M d x Z G n1 n2 pc lc (.int b :: .int a :: st) μ t := by
  subst hn
  intro r μ2 ht hC h1 h2 H locs ls hR hS hl
  have r1 := hC.2.2.2.2.2.2.2.2.1
  have r2 := hC.2.2.2.2.2.2.2.2.2.1
  have r3 := ax_catsum G st
  exact va_mmin hC.1 hC.2.1 (hC.2.2.1.trans hl.1.symm) hC.2.2.2.1 (hC.2.2.2.2.1 _ hl0) (hC.2.2.2.2.1 _ hl2.1) (hC.2.2.2.2.1 _ hl2.2.1) (hC.2.2.2.2.1 _ hl2.2.2) (by omega) (by rw [r3]; omega) h1 h2 hd (k r μ2 ht hC h1 h2 H locs ls hR hS hl)
theorem ax_e_cp {G : ax_G} {μ : ax_M} {b : Nat} {g : Nat → Int32} {k : Nat} (h : k ≠ b) : ax_e G (fun i => if i = b then g else μ.1 i, μ.2) k = ax_e G μ k := ax_e_eq (fun q => by simp [h]) (fun q => rfl)
theorem rf_copy {a b m0 m1 idx : Nat} {sp dp m : Int32} {f : ax_M → Option (β × ax_M)} (hG : ax_ok G) (hd : decode M.2.1 pc = .ok (.invokestatic idx, 3)) (hl0 : Cond.methodLink M.1.cls idx arraycopyName ∈ ax_tbl) (hl2 : Cond.native arraycopyName ∈ ax_tbl ∧ Cond.static arraycopyName ∈ ax_tbl ∧ Cond.initialized "java/lang/System" ∈ ax_tbl) (hdd : 1 ≤ d) (hcat : (st.map fun v => v.category).sum ≤ 8) (hm0 : ax_S a = (1, m0)) (hm1 : ax_S b = (1, m1)) (ha : a < ax_K0) (hb : b < ax_K0) (hn : pc + 3 = n) (k : ∀ μ3, ax_Rf M d x Z G n1 n2 n lc st μ3 (f μ3)) : ax_Rf M d x Z G n1 n2 pc lc (.int m :: .int dp :: .ref b :: .int sp :: .ref a :: st) μ (Option.bind (ax_cp μ a m0 sp b m1 dp m) f) := by
  subst hn
  intro r μ2 ht hC h1 h2 H locs ls hR hS hl
  by_cases hz : sp < 0 ∨ dp < 0 ∨ m < 0 ∨ m0 < sp.toNatClampNeg + m.toNatClampNeg ∨ m1 < dp.toNatClampNeg + m.toNatClampNeg
  · simp [ax_cp, hz] at ht
  · simp only [ax_cp, if_neg hz, Option.bind_some] at ht
    have r1 := hC.2.2.2.2.2.2.2.2.1
    have r2 := hC.2.2.2.2.2.2.2.2.2.1
    have r3 := ax_catsum G st
    have e0 := ax_ws_at (G := G) (μ := μ) (i := a) (Nat.lt_of_lt_of_le ha hG.1)
    rw [ax_e_i hm0] at e0
    have e1 := ax_ws_at (G := G) (μ := μ) (i := b) (Nat.lt_of_lt_of_le hb hG.1)
    rw [ax_e_i hm1] at e1
    simp only [List.map_cons, ax_sh_ref ha, ax_sh_ref hb]
    refine va_copyi hC.1 hC.2.1 (hC.2.2.1.trans hl.1.symm) hC.2.2.2.1 (hC.2.2.2.2.1 _ hl0) (hC.2.2.2.2.1 _ hl2.1) (hC.2.2.2.2.1 _ hl2.2.1) (hC.2.2.2.2.1 _ hl2.2.2) hC.2.2.2.2.2.2.2.1.1 hR (ax_ws_D G μ) hS a b 0 0 e0 e1 rfl rfl rfl (fun h => hz (Or.inl h)) (fun h => hz (Or.inr (Or.inl h))) (fun h => hz (Or.inr (Or.inr (Or.inl h)))) (by omega) (by omega) (fun i _ => rfl) (by omega) (by rw [r3]; show _ + (nativeFrameWords "java/lang/System" "arraycopy" 5 + 11) ≤ _; rw [show nativeFrameWords "java/lang/System" "arraycopy" 5 = 7 from by decide]; omega) hd (fun H3 locs3 hP3 _ hS3 => ?_)
    refine k _ r μ2 ht hC h1 h2 H3 locs3 ls ?_ hS3 hl
    rw [ax_ws_set (μ2 := (fun i => if i = b then va_cpy (μ.1 a) (μ.1 b) sp.toNatClampNeg dp.toNatClampNeg m.toNatClampNeg else μ.1 i, μ.2)) (by rw [ax_e_i hm1]; simp) (fun q hq => ax_e_cp hq)] at hP3
    exact hP3
theorem rf_tabIn {a : Int32} {df lo hi off : Int} {offs : Array Int} {len tg : Nat} (c : Int32) (hx : a = c) (hd : decode M.2.1 pc = .ok (.tableswitch df lo hi offs, len)) (hh : ¬ c.toInt < lo ∧ ¬ hi < c.toInt) (ho : offs[(c.toInt - lo).toNat]? = some off) (hg : (pc : Int) + off = (tg : Int)) (k : ax_Rf M d x Z G n1 n2 tg lc st μ t) : ax_Rf M d x Z G n1 n2 pc lc (.int a :: st) μ t := by
  subst hx
  intro r μ2 ht hC h1 h2 H locs ls hR hS hl
  exact lv_tableIn hC.1 hC.2.1 hd hh.1 hh.2 ho hg (k r μ2 ht hC h1 h2 H locs ls hR hS hl)
theorem ax_out {a : Int32} {lo hi : Int} (l : List Int32) (h : ∀ c ∈ l, ¬ a = c) (hl : (List.range (hi - lo + 1).toNat).all (fun k => l.any (fun c => c.toInt == lo + k)) = true) : a.toInt < lo ∨ hi < a.toInt := by
  by_cases h1 : a.toInt < lo
  · exact Or.inl h1
  · by_cases h2 : hi < a.toInt
    · exact Or.inr h2
    · exfalso
      have h3 := List.all_eq_true.mp hl (a.toInt - lo).toNat (List.mem_range.mpr (by omega))
      obtain ⟨c, hc, he⟩ := List.any_eq_true.mp h3
      simp only [beq_iff_eq] at he
      exact h c hc (Int32.toInt_inj.mp (by omega))
theorem rf_tabOut {a : Int32} {df lo hi : Int} {offs : Array Int} {len tg : Nat} (l : List Int32) (h : ∀ c ∈ l, ¬ a = c) (hd : decode M.2.1 pc = .ok (.tableswitch df lo hi offs, len)) (hl : (List.range (hi - lo + 1).toNat).all (fun k => l.any (fun c => c.toInt == lo + k)) = true) (hg : (pc : Int) + df = (tg : Int)) (k : ax_Rf M d x Z G n1 n2 tg lc st μ t) : ax_Rf M d x Z G n1 n2 pc lc (.int a :: st) μ t := by
  intro r μ2 ht hC h1 h2 H locs ls hR hS hl9
  exact lv_tableOut hC.1 hC.2.1 hd (ax_out l h hl) hg (k r μ2 ht hC h1 h2 H locs ls hR hS hl9)
theorem rf_lookup {a : Int32} {df off : Int} {ps : Array (Int × Int)} {len tg : Nat} (hd : decode M.2.1 pc = .ok (.lookupswitch df ps, len)) (hp : (ps.toList.zip (ps.toList.drop 1)).all (fun (a, next) => a.1 < next.1) = true) (ho : Op.lookupswitch.offset ps.toList df a.toInt = off) (hg : (pc : Int) + off = (tg : Int)) (k : ax_Rf M d x Z G n1 n2 tg lc st μ t) : ax_Rf M d x Z G n1 n2 pc lc (.int a :: st) μ t := by
  intro r μ2 ht hC h1 h2 H locs ls hR hS hl
  exact lv_lookup hC.1 hC.2.1 hd hp ho hg (k r μ2 ht hC h1 h2 H locs ls hR hS hl)
end AXM
def ax_FU : Nat := 1000000
def ax_lp0 {β : Type} (B : (ax_M → Option β) → ax_M → Option β) : Nat → ax_M → Option β
  | 0, _ => none
  | n + 1, μ => B (ax_lp0 B n)  μ
theorem rf_lp0 {β : Type} {B : (ax_M → Option β) → ax_M → Option β} {P : ax_M → Option β → Prop} (h0 : ∀  (μ : ax_M), P  μ none) (h : ∀ (rc : ax_M → Option β), (∀  (μ : ax_M), P  μ (rc  μ)) → ∀  (μ : ax_M), P  μ (B rc  μ)) : ∀ (n : Nat)  (μ : ax_M), P  μ (ax_lp0 B n  μ)
  | 0, μ => h0  μ
  | n + 1, μ => h (ax_lp0 B n) (rf_lp0 h0 h n)  μ
def ax_lp1 {α0 β : Type} (B : (α0 → ax_M → Option β) → α0 → ax_M → Option β) : Nat → α0 → ax_M → Option β
  | 0, _, _ => none
  | n + 1, a0, μ => B (ax_lp1 B n) a0 μ
theorem rf_lp1 {α0 β : Type} {B : (α0 → ax_M → Option β) → α0 → ax_M → Option β} {P : α0 → ax_M → Option β → Prop} (h0 : ∀ (a0 : α0) (μ : ax_M), P a0 μ none) (h : ∀ (rc : α0 → ax_M → Option β), (∀ (a0 : α0) (μ : ax_M), P a0 μ (rc a0 μ)) → ∀ (a0 : α0) (μ : ax_M), P a0 μ (B rc a0 μ)) : ∀ (n : Nat) (a0 : α0) (μ : ax_M), P a0 μ (ax_lp1 B n a0 μ)
  | 0, a0, μ => h0 a0 μ
  | n + 1, a0, μ => h (ax_lp1 B n) (rf_lp1 h0 h n) a0 μ
def ax_lp2 {α0 α1 β : Type} (B : (α0 → α1 → ax_M → Option β) → α0 → α1 → ax_M → Option β) : Nat → α0 → α1 → ax_M → Option β
  | 0, _, _, _ => none
  | n + 1, a0, a1, μ => B (ax_lp2 B n) a0 a1 μ
theorem rf_lp2 {α0 α1 β : Type} {B : (α0 → α1 → ax_M → Option β) → α0 → α1 → ax_M → Option β} {P : α0 → α1 → ax_M → Option β → Prop} (h0 : ∀ (a0 : α0) (a1 : α1) (μ : ax_M), P a0 a1 μ none) (h : ∀ (rc : α0 → α1 → ax_M → Option β), (∀ (a0 : α0) (a1 : α1) (μ : ax_M), P a0 a1 μ (rc a0 a1 μ)) → ∀ (a0 : α0) (a1 : α1) (μ : ax_M), P a0 a1 μ (B rc a0 a1 μ)) : ∀ (n : Nat) (a0 : α0) (a1 : α1) (μ : ax_M), P a0 a1 μ (ax_lp2 B n a0 a1 μ)
  | 0, a0, a1, μ => h0 a0 a1 μ
  | n + 1, a0, a1, μ => h (ax_lp2 B n) (rf_lp2 h0 h n) a0 a1 μ
def ax_lp3 {α0 α1 α2 β : Type} (B : (α0 → α1 → α2 → ax_M → Option β) → α0 → α1 → α2 → ax_M → Option β) : Nat → α0 → α1 → α2 → ax_M → Option β
  | 0, _, _, _, _ => none
  | n + 1, a0, a1, a2, μ => B (ax_lp3 B n) a0 a1 a2 μ
theorem rf_lp3 {α0 α1 α2 β : Type} {B : (α0 → α1 → α2 → ax_M → Option β) → α0 → α1 → α2 → ax_M → Option β} {P : α0 → α1 → α2 → ax_M → Option β → Prop} (h0 : ∀ (a0 : α0) (a1 : α1) (a2 : α2) (μ : ax_M), P a0 a1 a2 μ none) (h : ∀ (rc : α0 → α1 → α2 → ax_M → Option β), (∀ (a0 : α0) (a1 : α1) (a2 : α2) (μ : ax_M), P a0 a1 a2 μ (rc a0 a1 a2 μ)) → ∀ (a0 : α0) (a1 : α1) (a2 : α2) (μ : ax_M), P a0 a1 a2 μ (B rc a0 a1 a2 μ)) : ∀ (n : Nat) (a0 : α0) (a1 : α1) (a2 : α2) (μ : ax_M), P a0 a1 a2 μ (ax_lp3 B n a0 a1 a2 μ)
  | 0, a0, a1, a2, μ => h0 a0 a1 a2 μ
  | n + 1, a0, a1, a2, μ => h (ax_lp3 B n) (rf_lp3 h0 h n) a0 a1 a2 μ
def ax_lp4 {α0 α1 α2 α3 β : Type} (B : (α0 → α1 → α2 → α3 → ax_M → Option β) → α0 → α1 → α2 → α3 → ax_M → Option β) : Nat → α0 → α1 → α2 → α3 → ax_M → Option β
  | 0, _, _, _, _, _ => none
  | n + 1, a0, a1, a2, a3, μ => B (ax_lp4 B n) a0 a1 a2 a3 μ
theorem rf_lp4 {α0 α1 α2 α3 β : Type} {B : (α0 → α1 → α2 → α3 → ax_M → Option β) → α0 → α1 → α2 → α3 → ax_M → Option β} {P : α0 → α1 → α2 → α3 → ax_M → Option β → Prop} (h0 : ∀ (a0 : α0) (a1 : α1) (a2 : α2) (a3 : α3) (μ : ax_M), P a0 a1 a2 a3 μ none) (h : ∀ (rc : α0 → α1 → α2 → α3 → ax_M → Option β), (∀ (a0 : α0) (a1 : α1) (a2 : α2) (a3 : α3) (μ : ax_M), P a0 a1 a2 a3 μ (rc a0 a1 a2 a3 μ)) → ∀ (a0 : α0) (a1 : α1) (a2 : α2) (a3 : α3) (μ : ax_M), P a0 a1 a2 a3 μ (B rc a0 a1 a2 a3 μ)) : ∀ (n : Nat) (a0 : α0) (a1 : α1) (a2 : α2) (a3 : α3) (μ : ax_M), P a0 a1 a2 a3 μ (ax_lp4 B n a0 a1 a2 a3 μ)
  | 0, a0, a1, a2, a3, μ => h0 a0 a1 a2 a3 μ
  | n + 1, a0, a1, a2, a3, μ => h (ax_lp4 B n) (rf_lp4 h0 h n) a0 a1 a2 a3 μ
def ax_lp5 {α0 α1 α2 α3 α4 β : Type} (B : (α0 → α1 → α2 → α3 → α4 → ax_M → Option β) → α0 → α1 → α2 → α3 → α4 → ax_M → Option β) : Nat → α0 → α1 → α2 → α3 → α4 → ax_M → Option β
  | 0, _, _, _, _, _, _ => none
  | n + 1, a0, a1, a2, a3, a4, μ => B (ax_lp5 B n) a0 a1 a2 a3 a4 μ
theorem rf_lp5 {α0 α1 α2 α3 α4 β : Type} {B : (α0 → α1 → α2 → α3 → α4 → ax_M → Option β) → α0 → α1 → α2 → α3 → α4 → ax_M → Option β} {P : α0 → α1 → α2 → α3 → α4 → ax_M → Option β → Prop} (h0 : ∀ (a0 : α0) (a1 : α1) (a2 : α2) (a3 : α3) (a4 : α4) (μ : ax_M), P a0 a1 a2 a3 a4 μ none) (h : ∀ (rc : α0 → α1 → α2 → α3 → α4 → ax_M → Option β), (∀ (a0 : α0) (a1 : α1) (a2 : α2) (a3 : α3) (a4 : α4) (μ : ax_M), P a0 a1 a2 a3 a4 μ (rc a0 a1 a2 a3 a4 μ)) → ∀ (a0 : α0) (a1 : α1) (a2 : α2) (a3 : α3) (a4 : α4) (μ : ax_M), P a0 a1 a2 a3 a4 μ (B rc a0 a1 a2 a3 a4 μ)) : ∀ (n : Nat) (a0 : α0) (a1 : α1) (a2 : α2) (a3 : α3) (a4 : α4) (μ : ax_M), P a0 a1 a2 a3 a4 μ (ax_lp5 B n a0 a1 a2 a3 a4 μ)
  | 0, a0, a1, a2, a3, a4, μ => h0 a0 a1 a2 a3 a4 μ
  | n + 1, a0, a1, a2, a3, a4, μ => h (ax_lp5 B n) (rf_lp5 h0 h n) a0 a1 a2 a3 a4 μ
def ax_lp6 {α0 α1 α2 α3 α4 α5 β : Type} (B : (α0 → α1 → α2 → α3 → α4 → α5 → ax_M → Option β) → α0 → α1 → α2 → α3 → α4 → α5 → ax_M → Option β) : Nat → α0 → α1 → α2 → α3 → α4 → α5 → ax_M → Option β
  | 0, _, _, _, _, _, _, _ => none
  | n + 1, a0, a1, a2, a3, a4, a5, μ => B (ax_lp6 B n) a0 a1 a2 a3 a4 a5 μ
theorem rf_lp6 {α0 α1 α2 α3 α4 α5 β : Type} {B : (α0 → α1 → α2 → α3 → α4 → α5 → ax_M → Option β) → α0 → α1 → α2 → α3 → α4 → α5 → ax_M → Option β} {P : α0 → α1 → α2 → α3 → α4 → α5 → ax_M → Option β → Prop} (h0 : ∀ (a0 : α0) (a1 : α1) (a2 : α2) (a3 : α3) (a4 : α4) (a5 : α5) (μ : ax_M), P a0 a1 a2 a3 a4 a5 μ none) (h : ∀ (rc : α0 → α1 → α2 → α3 → α4 → α5 → ax_M → Option β), (∀ (a0 : α0) (a1 : α1) (a2 : α2) (a3 : α3) (a4 : α4) (a5 : α5) (μ : ax_M), P a0 a1 a2 a3 a4 a5 μ (rc a0 a1 a2 a3 a4 a5 μ)) → ∀ (a0 : α0) (a1 : α1) (a2 : α2) (a3 : α3) (a4 : α4) (a5 : α5) (μ : ax_M), P a0 a1 a2 a3 a4 a5 μ (B rc a0 a1 a2 a3 a4 a5 μ)) : ∀ (n : Nat) (a0 : α0) (a1 : α1) (a2 : α2) (a3 : α3) (a4 : α4) (a5 : α5) (μ : ax_M), P a0 a1 a2 a3 a4 a5 μ (ax_lp6 B n a0 a1 a2 a3 a4 a5 μ)
  | 0, a0, a1, a2, a3, a4, a5, μ => h0 a0 a1 a2 a3 a4 a5 μ
  | n + 1, a0, a1, a2, a3, a4, a5, μ => h (ax_lp6 B n) (rf_lp6 h0 h n) a0 a1 a2 a3 a4 a5 μ
def ax_lp7 {α0 α1 α2 α3 α4 α5 α6 β : Type} (B : (α0 → α1 → α2 → α3 → α4 → α5 → α6 → ax_M → Option β) → α0 → α1 → α2 → α3 → α4 → α5 → α6 → ax_M → Option β) : Nat → α0 → α1 → α2 → α3 → α4 → α5 → α6 → ax_M → Option β
  | 0, _, _, _, _, _, _, _, _ => none
  | n + 1, a0, a1, a2, a3, a4, a5, a6, μ => B (ax_lp7 B n) a0 a1 a2 a3 a4 a5 a6 μ
theorem rf_lp7 {α0 α1 α2 α3 α4 α5 α6 β : Type} {B : (α0 → α1 → α2 → α3 → α4 → α5 → α6 → ax_M → Option β) → α0 → α1 → α2 → α3 → α4 → α5 → α6 → ax_M → Option β} {P : α0 → α1 → α2 → α3 → α4 → α5 → α6 → ax_M → Option β → Prop} (h0 : ∀ (a0 : α0) (a1 : α1) (a2 : α2) (a3 : α3) (a4 : α4) (a5 : α5) (a6 : α6) (μ : ax_M), P a0 a1 a2 a3 a4 a5 a6 μ none) (h : ∀ (rc : α0 → α1 → α2 → α3 → α4 → α5 → α6 → ax_M → Option β), (∀ (a0 : α0) (a1 : α1) (a2 : α2) (a3 : α3) (a4 : α4) (a5 : α5) (a6 : α6) (μ : ax_M), P a0 a1 a2 a3 a4 a5 a6 μ (rc a0 a1 a2 a3 a4 a5 a6 μ)) → ∀ (a0 : α0) (a1 : α1) (a2 : α2) (a3 : α3) (a4 : α4) (a5 : α5) (a6 : α6) (μ : ax_M), P a0 a1 a2 a3 a4 a5 a6 μ (B rc a0 a1 a2 a3 a4 a5 a6 μ)) : ∀ (n : Nat) (a0 : α0) (a1 : α1) (a2 : α2) (a3 : α3) (a4 : α4) (a5 : α5) (a6 : α6) (μ : ax_M), P a0 a1 a2 a3 a4 a5 a6 μ (ax_lp7 B n a0 a1 a2 a3 a4 a5 a6 μ)
  | 0, a0, a1, a2, a3, a4, a5, a6, μ => h0 a0 a1 a2 a3 a4 a5 a6 μ
  | n + 1, a0, a1, a2, a3, a4, a5, a6, μ => h (ax_lp7 B n) (rf_lp7 h0 h n) a0 a1 a2 a3 a4 a5 a6 μ
def ax_lp8 {α0 α1 α2 α3 α4 α5 α6 α7 β : Type} (B : (α0 → α1 → α2 → α3 → α4 → α5 → α6 → α7 → ax_M → Option β) → α0 → α1 → α2 → α3 → α4 → α5 → α6 → α7 → ax_M → Option β) : Nat → α0 → α1 → α2 → α3 → α4 → α5 → α6 → α7 → ax_M → Option β
  | 0, _, _, _, _, _, _, _, _, _ => none
  | n + 1, a0, a1, a2, a3, a4, a5, a6, a7, μ => B (ax_lp8 B n) a0 a1 a2 a3 a4 a5 a6 a7 μ
theorem rf_lp8 {α0 α1 α2 α3 α4 α5 α6 α7 β : Type} {B : (α0 → α1 → α2 → α3 → α4 → α5 → α6 → α7 → ax_M → Option β) → α0 → α1 → α2 → α3 → α4 → α5 → α6 → α7 → ax_M → Option β} {P : α0 → α1 → α2 → α3 → α4 → α5 → α6 → α7 → ax_M → Option β → Prop} (h0 : ∀ (a0 : α0) (a1 : α1) (a2 : α2) (a3 : α3) (a4 : α4) (a5 : α5) (a6 : α6) (a7 : α7) (μ : ax_M), P a0 a1 a2 a3 a4 a5 a6 a7 μ none) (h : ∀ (rc : α0 → α1 → α2 → α3 → α4 → α5 → α6 → α7 → ax_M → Option β), (∀ (a0 : α0) (a1 : α1) (a2 : α2) (a3 : α3) (a4 : α4) (a5 : α5) (a6 : α6) (a7 : α7) (μ : ax_M), P a0 a1 a2 a3 a4 a5 a6 a7 μ (rc a0 a1 a2 a3 a4 a5 a6 a7 μ)) → ∀ (a0 : α0) (a1 : α1) (a2 : α2) (a3 : α3) (a4 : α4) (a5 : α5) (a6 : α6) (a7 : α7) (μ : ax_M), P a0 a1 a2 a3 a4 a5 a6 a7 μ (B rc a0 a1 a2 a3 a4 a5 a6 a7 μ)) : ∀ (n : Nat) (a0 : α0) (a1 : α1) (a2 : α2) (a3 : α3) (a4 : α4) (a5 : α5) (a6 : α6) (a7 : α7) (μ : ax_M), P a0 a1 a2 a3 a4 a5 a6 a7 μ (ax_lp8 B n a0 a1 a2 a3 a4 a5 a6 a7 μ)
  | 0, a0, a1, a2, a3, a4, a5, a6, a7, μ => h0 a0 a1 a2 a3 a4 a5 a6 a7 μ
  | n + 1, a0, a1, a2, a3, a4, a5, a6, a7, μ => h (ax_lp8 B n) (rf_lp8 h0 h n) a0 a1 a2 a3 a4 a5 a6 a7 μ
