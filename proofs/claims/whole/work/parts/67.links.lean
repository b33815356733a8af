/-! links between latches; whether a loop is left; the class's side of breaks -/
def lkb (ν : Nv) (a b : Nat) : Nat → Bool
  | 0 => false
  | i + 1 => lkb ν a b i || (decide (Fr ν i = a) && decide (To ν i = b) && !Fb ν a && !Fb ν b)
theorem lkb_iff {ν : Nv} {a b n : Nat} : lkb ν a b n = true ↔ ∃ p, p < n ∧ Fr ν p = a ∧ To ν p = b ∧ Fb ν a = false ∧ Fb ν b = false := by
  induction n with
  | zero => exact ⟨fun h => Bool.noConfusion h, fun ⟨p, hp, _⟩ => absurd hp (by omega)⟩
  | succ n ih =>
    simp only [lkb, Bool.or_eq_true, ih, Bool.and_eq_true, decide_eq_true_iff, Bool.not_eq_true']
    constructor
    · rintro (⟨p, hp, h⟩ | ⟨⟨⟨h1, h2⟩, h3⟩, h4⟩)
      · exact ⟨p, by omega, h⟩
      · exact ⟨n, by omega, h1, h2, h3, h4⟩
    · rintro ⟨p, hp, h1, h2, h3, h4⟩
      by_cases e : p = n
      · subst e; exact Or.inr ⟨⟨⟨h1, h2⟩, h3⟩, h4⟩
      · exact Or.inl ⟨p, by omega, h1, h2, h3, h4⟩
/-- a set of cells each of which leads to another of them -/
def HL (ν : Nv) (n : Nat) : Prop := ∃ Y : Nat → Prop, (∃ y, Y y) ∧ (∀ y, Y y → n.testBit y = true) ∧ ∀ y, Y y → ∃ p, p < nP ν ∧ Fr ν p = y ∧ Y (To ν p)
def dif (n s : Nat) : Nat := bt (fun i => n.testBit i && !s.testBit i) 10
theorem dif_bit {n s i : Nat} (hn : n < 1024) : (dif n s).testBit i = (n.testBit i && !s.testBit i) := by
  unfold dif
  rw [bt_test]
  by_cases h : i < 10
  · simp [h]
  · rw [hi_bit hn (by omega)]; simp [h]
theorem dif_lt (n s : Nat) : dif n s < 1024 := bt_10 _ (by omega)
theorem andnot_dif {n s : Nat} (hn : n < 1024) : (Int32.ofNat n &&& (Int32.ofNat s ^^^ (-1 : Int32))) = Int32.ofNat (dif n s) := by
  refine Int32.toBitVec_inj.mp (BitVec.eq_of_getLsbD_eq (fun i hi => ?_))
  simp only [Int32.toBitVec_and, Int32.toBitVec_xor, BitVec.getLsbD_and, BitVec.getLsbD_xor, ofN_bit, m1_bit i hi, hi, decide_true, Bool.true_and, Bool.xor_true, dif_bit hn]
theorem and_bits (a b : Nat) : (Int32.ofNat a &&& Int32.ofNat b) = Int32.ofNat (a &&& b) := by
  refine Int32.toBitVec_inj.mp (BitVec.eq_of_getLsbD_eq (fun i hi => ?_))
  simp only [Int32.toBitVec_and, BitVec.getLsbD_and, ofN_bit, hi, decide_true, Bool.true_and, Nat.testBit_and]
theorem ofN0 {n : Nat} (hn : n < 1024) : Int32.ofNat n = 0 ↔ n = 0 := by
  rw [q0, nat_toInt (by omega)]
  omega
theorem nat0 {n : Nat} : n = 0 ↔ ∀ i, n.testBit i = false := by
  constructor
  · intro h i; rw [h]; exact Nat.zero_testBit i
  · intro h; exact Nat.eq_of_testBit_eq (fun i => by rw [h i, Nat.zero_testBit])
theorem and_0 {a b : Nat} (ha : a < 1024) : (Int32.ofNat a &&& Int32.ofNat b) = 0 ↔ ∀ i, ¬ (a.testBit i = true ∧ b.testBit i = true) := by
  have h : a &&& b < 1024 := Nat.lt_of_le_of_lt Nat.and_le_left ha
  rw [and_bits, ofN0 h, nat0]
  constructor
  · intro g i hi
    have := g i
    rw [Nat.testBit_and, hi.1, hi.2] at this
    cases this
  · intro g i
    rw [Nat.testBit_and]
    cases e1 : a.testBit i with
    | false => rfl
    | true =>
      cases e2 : b.testBit i with
      | false => rfl
      | true => exact absurd ⟨e1, e2⟩ (g i)
theorem b_shl1 : ∀ c, c < 10 → ((1 : Int32) <<< (Int32.ofNat c &&& 31)) = Int32.ofNat (2 ^ c) := by decide +kernel
theorem b_shlm : ∀ c, c < 11 → ((1 : Int32) <<< (Int32.ofNat c &&& 31)) - 1 = Int32.ofNat (2 ^ c - 1) := by decide +kernel
theorem pc_le (n : Nat) : pc n ≤ 10 := cnt_le _ _
theorem pc_zero {n : Nat} (hn : n < 1024) (h : pc n = 0) : n = 0 := by
  refine nat0.mpr (fun i => ?_)
  by_cases hi : i < 10
  · cases e : n.testBit i with
    | false => rfl
    | true =>
      have := cnt_lt (f := fun _ => false) (g := fun i => n.testBit i) (n := 10) (fun _ _ h => by cases h) i hi rfl e
      unfold pc at h
      omega
  · exact hi_bit hn (by omega)
theorem pc_lt {b F : Nat} (hb : b < 1024) (hF : F < 1024) (h : sub b F) (hne : b ≠ F) : pc b < pc F := by
  by_cases e : pc b < pc F
  · exact e
  · exact absurd (sub_eq hb hF h (by omega)) hne
theorem bc_ok : ∀ n, n < 1024 → ∀ μ : ax_M, fJ6_bitCount_0f7a4 (Int32.ofNat n) μ = some (Int32.ofNat (pc n), μ) := by
  have key : ∀ n, n < 1024 → ax_let ((Int32.ofNat n) - ((ax_us (Int32.ofNat n) (1 : Int32)) &&& (1431655765 : Int32))) (fun v1 => (ax_let ((v1 &&& (858993459 : Int32)) + ((ax_us v1 (2 : Int32)) &&& (858993459 : Int32))) (fun v2 => (ax_let ((v2 + (ax_us v2 (4 : Int32))) &&& (252645135 : Int32)) (fun v3 => (ax_let (v3 + (ax_us v3 (8 : Int32))) (fun v4 => (ax_let (v4 + (ax_us v4 (16 : Int32))) (fun v5 => (v5 &&& (63 : Int32))))))))))) = Int32.ofNat (pc n) := by decide +kernel
  intro n hn μ
  rw [← key n hn]
  rfl
theorem ix10 {x y : Int32} {a b : Nat} (hx : x.toInt = (a : Int)) (hy : y.toInt = (b : Int)) (ha : a < 10) (hb : b < 10) : (x * 10 + y).toInt = ((a * 10 + b : Nat) : Int) := by
  have h1 : (x * 10).toInt = (a : Int) * 10 := by
    rw [t_mul, hx, show Int32.toInt 10 = 10 from rfl]
    omega
  rw [t_add, h1, hy]
  omega
section LNK
variable {μ : ax_M} {ν : Nv}
def LK (m : ax_M) (ν : Nv) : Prop := (∀ a, a < 10 → m.1 42 a = Int32.ofNat (bt (fun b => lkb ν a b (nP ν)) 10)) ∧ ∀ p, p < nP ν → Fb ν (Fr ν p) = false → Fb ν (To ν p) = false → (m.1 43 (Fr ν p * 10 + To ν p)).toInt = (p : Int)
theorem LK_keep {m m2 : ax_M} (h : LK m ν) (h1 : m2.1 42 = m.1 42) (h2 : m2.1 43 = m.1 43) : LK m2 ν := by
  unfold LK at *
  rw [h1, h2]
  exact h
theorem sJ7_fill42 (x : Int32) : Wp (fJ7_fill_53178_4 x μ) (fun _ m => ∀ c, c < 10 → m.1 42 c = x) := by
  unfold fJ7_fill_53178_4
  refine wp_lp1 (fun k (l : Int32) m => ∃ i : Nat, l.toInt = (i : Int) ∧ i ≤ 10 ∧ k = 10 - i ∧ ∀ p, p < i → m.1 42 p = x) ax_FU ?_ 10 (by decide) ⟨0, rfl, by omega, rfl, fun p hp => by omega⟩
  rintro k rc hrc l m ⟨i, hl, hi, hk, hw⟩
  unfold fJ7_fill_53178_4_B5
  refine wp_if (fun c => wp_ret ?_) (fun c => ?_)
  · rw [t_le, hl] at c
    simp only [Int32.reduceToInt] at c
    intro p hp
    exact hw p (by omega)
  · rw [t_le, hl] at c
    simp only [Int32.reduceToInt] at c
    refine wp_wr i hl (by omega) (hrc (10 - (i + 1)) _ _ (by omega) ⟨i + 1, ?_, by omega, rfl, fun p hp => ?_⟩)
    · simp only [t_add, hl, Int32.reduceToInt]; omega
    · by_cases e : p = i
      · rw [e, wi_self]
      · rw [wi_other e]; exact hw p (by omega)
theorem sX0_linkCells (h : CN μ ν) (hv : Vd ν) : Wp (fX0_linkCells μ) (fun _ m => CN m ν ∧ LK m ν) := by
  have hn := vd_nums hv
  have hc := vd_cast hv
  unfold fX0_linkCells
  refine wp_bd (wp_mono (wp_keep (sJ7_fill42 0) (kf_J7_fill_53178_4 0 μ)) ?_)
  rintro _ m0 ⟨hz, hk0⟩
  have hm0 : CN m0 ν := CN_keep h (fun a h1 h2 => (hk0 a (by simp; omega)).1)
  refine wp_lp1 (fun k (l : Int32) m => ∃ i : Nat, l.toInt = (i : Int) ∧ i ≤ nP ν ∧ k = nP ν - i ∧ CN m ν ∧ (∀ a, a < 10 → m.1 42 a = Int32.ofNat (bt (fun b => lkb ν a b i) 10)) ∧ ∀ p, p < i → Fb ν (Fr ν p) = false → Fb ν (To ν p) = false → (m.1 43 (Fr ν p * 10 + To ν p)).toInt = (p : Int)) ax_FU ?_ (nP ν) (by unfold ax_FU; omega) ⟨0, rfl, by omega, rfl, hm0, fun a ha => by rw [hz a ha]; rfl, fun p hp => by omega⟩
  rintro k rc hrc l m ⟨i, hl, hi, hk, hm, h42, h43⟩
  have en : (m.1 2 14).toInt = ν 0 2 := hm.1.2.2.1
  unfold fX0_linkCells_B10 fX0_linkCells_K87
  refine wp_if (fun c1 => wp_ret ?_) (fun c1 => ?_)
  · rw [t_le, en, hl] at c1
    have : i = nP ν := by omega
    subst this
    exact ⟨hm, h42, h43⟩
  · rw [t_le, en, hl] at c1
    have hi2 : i < nP ν := by omega
    obtain ⟨a1, a2, a3, a4, a5, a6⟩ := vd_path hv i hi2
    have e := hm.2.2.2.1 i hi2
    have e11 : (m.1 11 i).toInt = (Fr ν i : Nat) := by rw [e.1, a4]
    have e12 : (m.1 12 i).toInt = (To ν i : Nat) := by rw [e.2.1, a5]
    have inl := inc hl (i := i) (by omega)
    have no : (Fb ν (Fr ν i) = true ∨ Fb ν (To ν i) = true) → Wp (rc (l + 1) m) (fun _ m => CN m ν ∧ LK m ν) := by
      intro hf
      refine hrc (nP ν - (i + 1)) _ _ (by omega) ⟨i + 1, inl, by omega, rfl, hm, fun a ha => ?_, fun p hp f1 f2 => ?_⟩
      · rw [h42 a ha]
        congr 1
        refine bt_congr (fun b hb => ?_)
        simp only [lkb]
        by_cases g : Fr ν i = a ∧ To ν i = b
        · obtain ⟨g1, g2⟩ := g
          subst g1
          subst g2
          rcases hf with hf | hf <;> rw [hf] <;> simp
        · have : (decide (Fr ν i = a) && decide (To ν i = b)) = false := by
            by_cases g1 : Fr ν i = a
            · have g2 : ¬ To ν i = b := fun g2 => g ⟨g1, g2⟩
              simp [g2]
            · simp [g1]
          rw [this]; simp
      · by_cases ep : p = i
        · subst ep
          rcases hf with hf | hf
          · rw [hf] at f1; cases f1
          · rw [hf] at f2; cases f2
        · exact h43 p (by omega) f1 f2
    refine wp_rd i hl a1 (wp_rd i hl a1 (wp_rdf (sX1_isFlop hm hv _ (Fr ν i) e11 a2) (fun r5 e5 => wp_if (fun c2 => wp_rdf (sX1_isFlop hm hv _ (To ν i) e12 a3) (fun r7 e7 => wp_if (fun c3 => ?_) (fun c3 => no (Or.inr (yes_of e7 c3))))) (fun c2 => no (Or.inl (yes_of e5 c2))))))
    have f1 : Fb ν (Fr ν i) = false := by simpa using not_of e5 c2
    have f2 : Fb ν (To ν i) = false := by simpa using not_of e7 c3
    have ix : (m.1 11 i * 10 + m.1 12 i).toInt = ((Fr ν i * 10 + To ν i : Nat) : Int) := ix10 e11 e12 (by omega) (by omega)
    refine wp_rd (Fr ν i) e11 (by omega) (wp_wr (Fr ν i) e11 (by omega) (wp_wr (Fr ν i * 10 + To ν i) ix (by omega) (hrc (nP ν - (i + 1)) _ _ (by omega) ⟨i + 1, inl, by omega, rfl, CN_wi (CN_wi hm (by omega)) (by omega), fun a ha => ?_, fun p hp g1 g2 => ?_⟩)))
    · rw [wi_ne (by omega)]
      by_cases ea : a = Fr ν i
      · subst ea
        rw [wi_self, h42 _ ha, i_nat e12, b_or2 _ (bt_10 _ (by omega)) _ (by omega)]
        congr 1
        refine (bt_or (by omega) (fun b hb => ?_)).symm
        simp only [lkb, f1]
        by_cases eb : To ν i = b
        · subst eb; simp [f2]
        · simp [eb, Ne.symm eb]
      · rw [wi_other ea, h42 a ha]
        congr 1
        refine bt_congr (fun b hb => ?_)
        simp only [lkb]
        simp [Ne.symm ea]
    · by_cases ep : p = i
      · subst ep; rw [wi_self]; exact hl
      · have hp2 : p < nP ν := by omega
        obtain ⟨d1, d2, d3, d4, d5, d6⟩ := vd_path hv p hp2
        have hne : Fr ν p * 10 + To ν p ≠ Fr ν i * 10 + To ν i := by
          intro g
          have g3 : Fr ν p = Fr ν i := by omega
          have g4 : To ν p = To ν i := by omega
          exact ep (hv.2.2.2.2 p i hp2 hi2 (by rw [d4, a4, g3]) (by rw [d5, a5, g4]))
        rw [wi_other hne, wi_ne (by omega)]
        exact h43 p (by omega) g1 g2
theorem sX0_hasLoop (h : CN μ ν) (hv : Vd ν) (hL : LK μ ν) {n : Nat} (hn : n < 1024) (hs : sub n (ltS ν)) : Wp (fX0_hasLoop (Int32.ofNat n) μ) (fun r m => m = μ ∧ ((r.toInt = 1 ∧ HL ν n) ∨ (r.toInt = 0 ∧ ¬ HL ν n))) := by
  have hnn := vd_nums hv
  have hcc := vd_cast hv
  have en : (μ.1 2 13).toInt = ν 0 1 := h.1.2.1
  have z10 : Int32.toInt 10 = 10 := rfl
  unfold fX0_hasLoop
  -- the end
  have fin : ∀ x : Nat, x < 1024 → sub x n → (∀ Y : Nat → Prop, (∀ y, Y y → n.testBit y = true) → (∀ y, Y y → ∃ p, p < nP ν ∧ Fr ν p = y ∧ Y (To ν p)) → ∀ y, Y y → x.testBit y = true) → (x ≠ 0 → ∀ c, x.testBit c = true → ∃ p, p < nP ν ∧ Fr ν p = c ∧ x.testBit (To ν p) = true) → Wp (fX0_hasLoop_K70 (Int32.ofNat x) μ) (fun r m => m = μ ∧ ((r.toInt = 1 ∧ HL ν n) ∨ (r.toInt = 0 ∧ ¬ HL ν n))) := by
    intro x hx hxn hY hcl
    unfold fX0_hasLoop_K70 fX0_hasLoop_K79
    refine wp_if (fun c => wp_ret ⟨rfl, Or.inr ⟨rfl, ?_⟩⟩) (fun c => wp_ret ⟨rfl, Or.inl ⟨rfl, ?_⟩⟩)
    · rw [ofN0 hx] at c
      rintro ⟨Y, ⟨y, hy⟩, h1, h2⟩
      have := hY Y h1 h2 y hy
      rw [c, Nat.zero_testBit] at this
      cases this
    · rw [ofN0 hx] at c
      obtain ⟨i, hi⟩ : ∃ i, x.testBit i = true := by
        by_cases g : ∃ i, x.testBit i = true
        · exact g
        · refine absurd (nat0.mpr (fun i => ?_)) c
          cases e : x.testBit i with
          | false => rfl
          | true => exact absurd ⟨i, e⟩ g
      exact ⟨fun y => x.testBit y = true, ⟨i, hi⟩, fun y hy => hxn y hy, hcl c⟩
  refine wp_lp2 (fun k (l2 l3 : Int32) m => m = μ ∧ ∃ j x : Nat, l3.toInt = (j : Int) ∧ j ≤ 10 ∧ k = 10 - j ∧ l2 = Int32.ofNat x ∧ x < 1024 ∧ sub x n ∧ pc x + j ≤ 10 ∧ ∀ Y : Nat → Prop, (∀ y, Y y → n.testBit y = true) → (∀ y, Y y → ∃ p, p < nP ν ∧ Fr ν p = y ∧ Y (To ν p)) → ∀ y, Y y → x.testBit y = true) ax_FU ?_ 10 (by decide) ⟨rfl, 0, n, rfl, by omega, rfl, rfl, hn, fun _ g => g, by have := pc_le n; omega, fun Y h1 _ y hy => h1 y hy⟩
  rintro k rc hrc l2 l3 m ⟨rfl, j, x, hl3, hj, hk, hl2, hx, hxn, hpc, hY⟩
  unfold fX0_hasLoop_B4
  refine wp_if (fun c1 => ?_) (fun c1 => ?_)
  · rw [t_le, z10, hl3] at c1
    have hx0 : x = 0 := pc_zero hx (by omega)
    rw [hl2]
    exact fin x hx hxn hY (fun g => absurd hx0 g)
  · rw [t_le, z10, hl3] at c1
    rw [hl2]
    refine wp_lp2 (fun k2 (y2 l5 : Int32) m2 => m2 = m ∧ ∃ i y : Nat, l5.toInt = (i : Int) ∧ i ≤ nC ν ∧ k2 = nC ν - i ∧ y2 = Int32.ofNat y ∧ y < 1024 ∧ sub y x ∧ (∀ Y : Nat → Prop, (∀ y, Y y → n.testBit y = true) → (∀ y, Y y → ∃ p, p < nP ν ∧ Fr ν p = y ∧ Y (To ν p)) → ∀ z, Y z → y.testBit z = true) ∧ (y = x → ∀ c, c < i → x.testBit c = true → ∃ p, p < nP ν ∧ Fr ν p = c ∧ x.testBit (To ν p) = true)) ax_FU ?_ (nC ν) (by unfold ax_FU; omega) ⟨rfl, 0, x, rfl, by omega, rfl, rfl, hx, fun _ g => g, hY, fun _ c hc => by omega⟩
    rintro k2 rc2 hrc2 y2 l5 m2 ⟨rfl, i, y, hl5, hi, hk2, hy2, hy, hyx, hYy, hst⟩
    unfold fX0_hasLoop_B16 fX0_hasLoop_K49
    refine wp_if (fun c2 => wp_if (fun c3 => ?_) (fun c3 => ?_)) (fun c2 => ?_)
    · rw [t_le, en, hl5] at c2
      rw [hy2] at c3 ⊢
      have hxy : y = x := by
        have := congrArg Int32.toInt c3
        rw [nat_toInt (by omega), nat_toInt (by omega)] at this
        omega
      subst hxy
      refine fin y hy hxn hY (fun _ c hc => ?_)
      exact hst rfl c (by have := (ls_sub hs c (hxn c hc)).1; omega) hc
    · rw [hy2] at c3 ⊢
      have hne : y ≠ x := fun g => c3 (by rw [g])
      have := pc_lt hy hx hyx hne
      exact hrc (10 - (j + 1)) _ _ _ (by omega) ⟨rfl, j + 1, y, inc hl3 (by omega), by omega, rfl, rfl, hy, fun c hc => hxn c (hyx c hc), by omega, hYy⟩
    · rw [t_le, en, hl5] at c2
      have hi2 : i < nC ν := by omega
      have inl := inc hl5 (i := i) (by omega)
      have e42 := hL.1 i (by omega)
      refine wp_rd i hl5 (by omega) ?_
      rw [e42, hy2]
      refine wp_if (fun c3 => wp_let ?_) (fun c3 => ?_)
      · rw [and_0 (bt_10 _ (by omega))] at c3
        rw [i_nat hl5, b_shl1 i (by omega), andnot_dif hy]
        have e3 : l5 + 1 = Int32.ofNat i + 1 := by rw [← i_nat hl5]
        rw [← e3]
        have sY : ∀ Y : Nat → Prop, (∀ y, Y y → n.testBit y = true) → (∀ y, Y y → ∃ p, p < nP ν ∧ Fr ν p = y ∧ Y (To ν p)) → ∀ z, Y z → (dif y (2 ^ i)).testBit z = true := by
          intro Y h1 h2 z hz
          rw [dif_bit hy, hYy Y h1 h2 z hz, Nat.testBit_two_pow]
          have : z ≠ i := by
            intro ez
            subst ez
            obtain ⟨p, p1, p2, p3⟩ := h2 z hz
            have b1 := hYy Y h1 h2 _ p3
            have l1 := ls_sub hs z (h1 z hz)
            have l2 := ls_sub hs _ (h1 _ p3)
            refine c3 (To ν p) ⟨?_, b1⟩
            rw [bt_test]
            have : lkb ν z (To ν p) (nP ν) = true := lkb_iff.mpr ⟨p, p1, p2, rfl, l1.2, l2.2⟩
            rw [this]
            have : To ν p < 10 := by omega
            simp [this]
          simp [Ne.symm this]
        refine hrc2 (nC ν - (i + 1)) _ _ _ (by omega) ⟨rfl, i + 1, dif y (2 ^ i), inl, by omega, rfl, rfl, dif_lt _ _, fun c hc => ?_, sY, fun g c hc hcx => ?_⟩
        · rw [dif_bit hy, Bool.and_eq_true] at hc
          exact hyx c hc.1
        · have hcy : y.testBit c = true := by
            have : (dif y (2 ^ i)).testBit c = true := by rw [g]; exact hcx
            rw [dif_bit hy, Bool.and_eq_true] at this
            exact this.1
          have hci : c ≠ i := by
            intro ec
            subst ec
            have : (dif y (2 ^ c)).testBit c = true := by rw [g]; exact hcx
            rw [dif_bit hy, Nat.testBit_two_pow] at this
            simp at this
          have hyx2 : y = x := by
            refine Nat.eq_of_testBit_eq (fun z => ?_)
            cases e : y.testBit z with
            | true => exact (hyx z e).symm
            | false =>
              cases e2 : x.testBit z with
              | false => rfl
              | true =>
                have : (dif y (2 ^ i)).testBit z = true := by rw [g]; exact e2
                rw [dif_bit hy, e] at this
                cases this
          exact hst hyx2 c (by omega) hcx
      · rw [and_0 (bt_10 _ (by omega))] at c3
        refine hrc2 (nC ν - (i + 1)) _ _ _ (by omega) ⟨rfl, i + 1, y, inl, by omega, rfl, rfl, hy, hyx, hYy, fun g c hc hcx => ?_⟩
        by_cases ec : c = i
        · subst ec
          obtain ⟨b, hb⟩ : ∃ b, (bt (fun b => lkb ν c b (nP ν)) 10).testBit b = true ∧ y.testBit b = true := by
            by_cases g2 : ∃ b, (bt (fun b => lkb ν c b (nP ν)) 10).testBit b = true ∧ y.testBit b = true
            · exact g2
            · exact absurd (fun i hi => g2 ⟨i, hi⟩) c3
          have h1 := hb.1
          rw [bt_test, Bool.and_eq_true] at h1
          obtain ⟨p, p1, p2, p3, -⟩ := lkb_iff.mp h1.2
          exact ⟨p, p1, p2, by rw [p3, ← g]; exact hb.2⟩
        · exact hst g c (by omega) hcx
theorem sX1_latches (h : CN μ ν) (hv : Vd ν) : fX1_latches μ = some (Int32.ofNat (ltS ν), μ) := by
  have hn := vd_nums hv
  have hc := vd_cast hv
  have e1 : (μ.1 2 13).toInt = (nC ν : Nat) := by rw [h.1.2.1]; exact hc.2.1
  have e2 : μ.1 2 15 = Int32.ofNat (bt (Fb ν) (nC ν)) := i_nat h.2.2.2.2
  unfold fX1_latches
  have hlt : 2 ^ nC ν - 1 < 1024 := by
    have : 2 ^ nC ν ≤ 2 ^ 10 := Nat.pow_le_pow_right (by omega) hn.2.1
    omega
  rw [i_nat e1, b_shlm _ (by omega), e2, andnot_dif hlt]
  congr 3
  refine Nat.eq_of_testBit_eq (fun i => ?_)
  rw [dif_bit hlt, ls_bit, bt_test, Nat.testBit_two_pow_sub_one]
  unfold lat
  by_cases g : i < nC ν <;> simp [g]
noncomputable def br (ν : Nv) : Nat → Nat
  | 0 => ltS ν
  | i + 1 => @ite _ (pc i < pc (br ν i) ∧ sub i (ltS ν) ∧ ¬ HL ν (dif (ltS ν) i)) (Classical.propDecidable _) i (br ν i)
theorem br_yes {i : Nat} (h : pc i < pc (br ν i) ∧ sub i (ltS ν) ∧ ¬ HL ν (dif (ltS ν) i)) : br ν (i + 1) = i := @if_pos _ (Classical.propDecidable _) h _ _ _
theorem br_no {i : Nat} (h : ¬ (pc i < pc (br ν i) ∧ sub i (ltS ν) ∧ ¬ HL ν (dif (ltS ν) i))) : br ν (i + 1) = br ν i := @if_neg _ (Classical.propDecidable _) h _ _ _
theorem ls_lt (hv : Vd ν) : ltS ν < 1024 := bt_10 _ (vd_nums hv).2.1
theorem br_lt (hv : Vd ν) (i : Nat) (hi : i ≤ 1024) : br ν i < 1024 := by
  induction i with
  | zero => exact ls_lt hv
  | succ i ih =>
    by_cases h : pc i < pc (br ν i) ∧ sub i (ltS ν) ∧ ¬ HL ν (dif (ltS ν) i)
    · rw [br_yes h]; omega
    · rw [br_no h]; exact ih (by omega)
theorem dif_sub (hv : Vd ν) (i : Nat) : sub (dif (ltS ν) i) (ltS ν) := fun c hc => by
  rw [dif_bit (ls_lt hv), Bool.and_eq_true] at hc
  exact hc.1
theorem sX8_breaks (h : CN μ ν) (hv : Vd ν) : Wp (fX8_breaks μ) (fun r m => r.toInt = (br ν (ltS ν) : Nat) ∧ CN m ν) := by
  have hls := ls_lt hv
  unfold fX8_breaks fX0_fewestBreaks
  refine wp_bd (wp_bd (wp_mono (sX0_linkCells h hv) ?_))
  rintro _ m2 ⟨hm2, hL⟩
  rw [sX1_latches hm2 hv]
  refine wp_bd (wp_ret ?_)
  have key : Wp (ax_lp2 (fX0_fewestBreaks_B16 (Int32.ofNat (ltS ν))) ax_FU (Int32.ofNat (ltS ν)) 0 m2) (fun r m => r.toInt = (br ν (ltS ν) : Nat) ∧ m = m2) := by
    refine wp_lp2 (fun k (l2 l3 : Int32) m => m = m2 ∧ ∃ i : Nat, l3.toInt = (i : Int) ∧ i ≤ ltS ν ∧ k = ltS ν - i ∧ l2 = Int32.ofNat (br ν i)) ax_FU ?_ (ltS ν) (by unfold ax_FU; omega) ⟨rfl, 0, rfl, by omega, rfl, rfl⟩
    rintro k rc hrc l2 l3 m ⟨rfl, i, hl3, hi, hk, hl2⟩
    have hLt : (Int32.ofNat (ltS ν)).toInt = (ltS ν : Nat) := nat_toInt (by omega)
    have hbi := br_lt hv i (by omega)
    unfold fX0_fewestBreaks_B16 fX0_fewestBreaks_K37 fX0_fewestBreaks_K66
    refine wp_if (fun c1 => wp_ret ⟨?_, rfl⟩) (fun c1 => ?_)
    · rw [t_le, hLt, hl3] at c1
      rw [hl2, show i = ltS ν by omega, nat_toInt (by have := br_lt hv (ltS ν) (by omega); omega)]
    · rw [t_le, hLt, hl3] at c1
      have hi2 : i < 1024 := by omega
      have el3 : l3 = Int32.ofNat i := i_nat hl3
      have inl : (l3 + 1).toInt = ((i + 1 : Nat) : Int) := inc hl3 (by omega)
      rw [el3] at inl
      rw [el3, hl2, bc_ok i hi2]
      refine wp_bd (wp_ret ?_)
      rw [bc_ok _ hbi]
      refine wp_bd (wp_ret ?_)
      have p1 := pc_le i
      have p2 := pc_le (br ν i)
      have go : ∀ x : Int32, x = Int32.ofNat (br ν (i + 1)) → Wp (rc x (Int32.ofNat i + 1) m) (fun r m_1 => r.toInt = (br ν (ltS ν) : Nat) ∧ m_1 = m) := fun x hx => hrc (ltS ν - (i + 1)) _ _ _ (by omega) ⟨rfl, i + 1, inl, by omega, rfl, hx⟩
      refine wp_if (fun c2 => ?_) (fun c2 => ?_)
      · rw [t_le, nat_toInt (by omega), nat_toInt (by omega)] at c2
        rw [if_pos rfl]
        exact go _ (by rw [br_no (fun g => by omega)])
      · rw [t_le, nat_toInt (by omega), nat_toInt (by omega)] at c2
        rw [if_neg (by decide)]
        refine wp_if (fun c3 => ?_) (fun c3 => ?_)
        · rw [and_not0 hi2] at c3
          rw [andnot_dif hls]
          refine wp_bd (wp_mono (sX0_hasLoop hm2 hv hL (dif_lt _ _) (dif_sub hv i)) ?_)
          rintro v9 m10 ⟨rfl, h9⟩
          rcases h9 with ⟨h9, hH⟩ | ⟨h9, hH⟩
          · rw [if_neg (fun g => by have := q0.mp g; omega)]
            exact go _ (by rw [br_no (fun g => g.2.2 hH)])
          · rw [if_pos (q0.mpr h9)]
            exact go _ (by rw [br_yes ⟨by omega, c3, hH⟩])
        · rw [and_not0 hi2] at c3
          exact go _ (by rw [br_no (fun g => c3 g.2.1)])
  refine wp_mono key ?_
  rintro r m ⟨hr, rfl⟩
  exact wp_ret ⟨hr, hm2⟩
end LNK
