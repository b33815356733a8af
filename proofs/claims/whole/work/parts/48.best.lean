/-! bestOpens and bestTwo -/
/-- the openings of the i-th try: of one phase alone (b = none), or of two -/
def oi (ν : Nv) (a : Nat) (b : Option Nat) (i : Nat) : Nat → Int := fun x => match b with
  | none => if x = a then (i : Int) else ν 1 x
  | some c => if x = c then ((i % 64 : Nat) : Int) else if x = a then ((i / 64 : Nat) : Int) else ν 1 x
def oN (b : Option Nat) : Nat := match b with
  | none => 64
  | some _ => 4096
theorem oi_bd {ν : Nv} (hv : Vd ν) (a : Nat) (b : Option Nat) (i : Nat) (hi : i < oN b) : ∀ x, x < nH ν → 0 ≤ oi ν a b i x ∧ oi ν a b i x ≤ 63 := by
  intro x hx
  have := hv.2.1 x hx
  unfold oi
  cases b with
  | none =>
    have hi : i < 64 := hi
    simp only
    split <;> omega
  | some c =>
    have hi : i < 4096 := hi
    simp only
    split
    · omega
    · split <;> omega
section BST
variable {μ : ax_M} {ν : Nv}
/-- the class's search for the best opening -/
theorem sX4_bestOpening (h : CN μ ν) (hv : Vd ν) (p1 p2 : Int32) (a : Nat) (b : Option Nat) (ha : p1.toInt = (a : Nat)) (ha2 : a < nH ν) (hb : match b with | none => p2.toInt = -1 | some c => p2.toInt = (c : Nat) ∧ c < nH ν ∧ c ≠ a) : Wp (fX4_bestOpening p1 p2 μ) (fun r m => BestA (fun i => op ν (oi ν a b i)) (oN b) r.toInt ∧ CN m ν) := by
  have hn := vd_nums hv
  unfold fX4_bestOpening
  refine wp_bd (wp_mono (sX4_full h hv) ?_)
  rintro r1 m2 ⟨hF, hm2, k2⟩
  have noBelow : ∀ i, i < oN b → ∀ T : Int, 1 ≤ T → (T ≤ 9999 ∧ r1.toInt = -1 ∨ T < r1.toInt) → gd (op ν (oi ν a b i)) T = false := by
    intro i hi T h1 h2
    cases eg : gd (op ν (oi ν a b i)) T with
    | false => rfl
    | true =>
      have hz := gd_zero hv (oi_bd hv a b i hi) (by omega) eg
      rcases hF with ⟨f1, f2⟩ | ⟨f1, f2, f3, f4⟩
      · rcases h2 with ⟨h2, -⟩ | h2
        · rw [f2 T h1 h2] at hz; cases hz
        · omega
      · rcases h2 with ⟨-, h2⟩ | h2
        · omega
        · rw [f4 T h1 h2] at hz; cases hz
  refine wp_if (fun c => wp_ret ⟨Or.inl ⟨rfl, fun i hi T h1 h2 => noBelow i hi T h1 (Or.inl ⟨h2, t_eq.mp c⟩)⟩, hm2⟩) (fun c => ?_)
  have hr1 : 1 ≤ r1.toInt ∧ r1.toInt ≤ 9999 := by
    rcases hF with ⟨f1, -⟩ | ⟨f1, f2, -⟩
    · exact absurd (t_eq.mpr f1) c
    · exact ⟨f1, f2⟩
  refine wp_cp 0 0 4 rfl rfl rfl (by omega) (by omega) (fun m3 k3 c3 _ => ?_)
  refine wp_bd (wp_mono sX6_forgetCut ?_)
  rintro _ m5 ⟨z8, z9, z10, k5⟩
  have kall : ∀ x, 2 ≤ x → x < 15 → m5.1 x = m2.1 x := fun x h1 h2 => by rw [k5 x (by omega), k3 x (by omega)]
  have k48 : ∀ i, i < 4 → m5.1 48 i = m2.1 4 i := fun i hi => by rw [k5 48 (by omega), c3 i, if_pos (by omega), show 0 + (i - 0) = i by omega]
  have hck5 : CK m5 ν := CK_zero z8 z9 z10
  -- the end: openings laid back
  have fin : ∀ (m : ax_M) (s : Int32), BestA (fun i => op ν (oi ν a b i)) (oN b) s.toInt → (∀ x, 2 ≤ x → x < 15 → x ≠ 4 → m.1 x = m2.1 x) → (∀ i, i < 4 → m.1 48 i = m2.1 4 i) → Wp (fX4_bestOpening_K144 s m) (fun r m => BestA (fun i => op ν (oi ν a b i)) (oN b) r.toInt ∧ CN m ν) := by
    intro m s hs kx k48m
    unfold fX4_bestOpening_K144
    refine wp_cp 0 0 4 rfl rfl rfl (by omega) (by omega) (fun m6 k6 c6 _ => wp_ret ⟨hs, ?_⟩)
    have := CN_op hm2 (m := m6) (f := ν 1) (fun x h1 h2 h3 => by rw [k6 x h3, kx x h1 h2 h3]) (fun i hi => by
      rw [c6 i, if_pos (by omega), show 0 + (i - 0) = i by omega, k48m i (by omega)]
      exact (hm2.2.1 i hi).2.1)
    rw [op_same] at this
    exact this
  have main : ∀ s0 : Int32, (match b with | none => s0.toInt = 1 | some _ => s0.toInt = 64) → Wp (fX4_bestOpening_K48 p1 p2 r1 s0 m5) (fun r m => BestA (fun i => op ν (oi ν a b i)) (oN b) r.toInt ∧ CN m ν) := by
    intro s0 hs0
    have hsN : (64 * s0).toInt = (oN b : Nat) ∧ (s0.toInt = 1 ∨ s0.toInt = 64) := by
      cases b with
      | none =>
        have hs0 : s0.toInt = 1 := hs0
        refine ⟨?_, Or.inl hs0⟩
        rw [t_mul, hs0]; decide
      | some c =>
        have hs0 : s0.toInt = 64 := hs0
        refine ⟨?_, Or.inr hs0⟩
        rw [t_mul, hs0]; show _ = ((4096 : Nat) : Int); decide
    have hN4 : oN b ≤ 4096 := by
      cases b with
      | none => exact (by decide : 64 ≤ 4096)
      | some c => exact Nat.le_refl 4096
    unfold fX4_bestOpening_K48
    refine wp_lp3 (fun k (l5 l6 l7 : Int32) m => ∃ i : Nat, l7.toInt = (i : Int) ∧ i ≤ oN b ∧ k = oN b - i ∧ l6.toInt ≤ 9999 ∧ r1.toInt - 1 ≤ l6.toInt ∧ CK m ν ∧ (∀ x, 2 ≤ x → x < 15 → x ≠ 4 → m.1 x = m2.1 x) ∧ (∀ j, j < 4 → m.1 48 j = m2.1 4 j) ∧ (∀ j, j < 4 → j ≠ a → (b = some j → False) → m.1 4 j = m2.1 4 j) ∧
      ((l5.toInt = -2 ∧ l6.toInt = 9999 ∧ ∀ j, j < i → ∀ T : Int, 1 ≤ T → T ≤ 9999 → gd (op ν (oi ν a b j)) T = false) ∨ ∃ e : Nat, e < i ∧ l5.toInt = (e : Int) ∧ 1 ≤ l6.toInt + 1 ∧ l6.toInt + 1 ≤ 9999 ∧ gd (op ν (oi ν a b e)) (l6.toInt + 1) = true ∧ (∀ j, j < e → ∀ T : Int, 1 ≤ T → T ≤ l6.toInt + 1 → gd (op ν (oi ν a b j)) T = false) ∧ ∀ j, e ≤ j → j < i → ∀ T : Int, 1 ≤ T → T < l6.toInt + 1 → gd (op ν (oi ν a b j)) T = false)) ax_FU ?_ (oN b) (by unfold ax_FU; omega)
      ⟨0, rfl, by omega, rfl, by decide, by have : Int32.toInt 9999 = 9999 := rfl; omega, hck5, fun x h1 h2 _ => kall x h1 h2, k48, fun j hj _ _ => by rw [kall 4 (by omega) (by omega)], Or.inl ⟨rfl, rfl, fun j hj => by omega⟩⟩
    rintro k rc hrc l5 l6 l7 m ⟨i, hl7, hi, hk, hl6, hl6b, hck, kx, k48m, k4, hst⟩
    -- what stands, told for all tries
    have done : (i = oN b ∨ l6.toInt < r1.toInt) → BestA (fun i => op ν (oi ν a b i)) (oN b) l5.toInt := by
      intro hd
      rcases hst with ⟨s1, s2, s3⟩ | ⟨e, s1, s2, s3, s4, s5, s6, s7⟩
      · refine Or.inl ⟨s1, fun j hj T h1 h2 => ?_⟩
        rcases hd with hd | hd
        · exact s3 j (by omega) T h1 h2
        · omega
      · refine Or.inr ⟨e, l6.toInt + 1, by omega, s2, s3, s4, s5, s6, fun j h1 h2 T h3 h4 => ?_⟩
        rcases hd with hd | hd
        · exact s7 j h1 (by omega) T h3 h4
        · exact noBelow j h2 T h3 (Or.inr (by omega))
    unfold fX4_bestOpening_B62
    refine wp_if (fun c1 => fin m _ (done (Or.inl ?_)) kx k48m) (fun c1 => wp_if (fun c2 => fin m _ (done (Or.inr (t_lt.mp c2))) kx k48m) (fun c2 => ?_))
    · rw [t_le, hsN.1, hl7] at c1
      omega
    · rw [t_le, hsN.1, hl7] at c1
      rw [t_lt] at c2
      have hi2 : i < oN b := by omega
      have hlt : oN b - (i + 1) < k := by clear hst done; omega
      have hl8 : (l7 + 1).toInt = ((i + 1 : Nat) : Int) := by clear hst done; simp only [t_add, hl7, Int32.reduceToInt]; omega
      obtain ⟨d1, d2, d3, d4⟩ := dv_ok (x := l7) (y := s0) (by clear hst done; omega) (by clear hst done; omega)
      rw [hl7] at d2 d4
      rw [d1]
      refine wp_some (wp_wr a ha (by omega) ?_)
      -- the rest, once the openings are laid
      have rest : ∀ m8 : ax_M, (∀ x, x ≠ 4 → m8.1 x = m.1 x) → (∀ j, j < nH ν → (m8.1 4 j).toInt = oi ν a b i j) → (∀ j, j < 4 → j ≠ a → (b = some j → False) → m8.1 4 j = m2.1 4 j) → Wp (fX4_bestOpening_K111 p1 p2 r1 s0 l5 l6 l7 rc m8) (fun r m => BestA (fun i => op ν (oi ν a b i)) (oN b) r.toInt ∧ CN m ν) := by
        intro m8 k8 o8 k48x
        have hm8 : CN m8 (op ν (oi ν a b i)) := CN_op hm2 (fun x h1 h2 h3 => by rw [k8 x h3, kx x h1 h2 h3]) o8
        have hv8 := vd_op hv (oi_bd hv a b i hi2)
        have hck8 : CK m8 (op ν (oi ν a b i)) := CK_keep (ν := ν) hck (k8 49 (by omega)) (k8 56 (by omega))
        unfold fX4_bestOpening_K111 fX4_bestOpening_K138
        refine wp_bd (wp_mono (wp_keep (sX4_isGoodAt hm8 hv8 hck8 l6 (by omega) (by omega)) (kf_X4_isGoodAt l6 m8)) ?_)
        rintro r9 m10 ⟨⟨hm10, hck10, hr9⟩, k10⟩
        have hck10 : CK m10 ν := hck10
        have K10 : ∀ x, x < 49 → m10.1 x = m8.1 x := fun x hx => (k10 x (by simp; omega)).1
        rcases hr9 with ⟨hr9, hg, ht10⟩ | ⟨hr9, hg⟩
        · rw [if_neg (by rw [t_eq, hr9]; decide)]
          refine wp_bd (wp_mono (sX6_firstGood hm10 hv8 ht10 r1 l6 hr1.1 (by omega) hl6) ?_)
          rintro r11 m12 ⟨hm12, -, hck12, hr11, k12⟩
          have K12 : ∀ x, x < 49 → m12.1 x = m8.1 x := fun x hx => by rw [(k12 x (by simp; omega)).1, K10 x hx]
          rcases hr11 with ⟨q1, q2⟩ | ⟨q1, q2, q3, q4⟩
          · have := q2 l6.toInt (by omega) (Int.le_refl _)
            rw [hg] at this; cases this
          · have hsub : (r11 - 1).toInt = r11.toInt - 1 := by rw [t_sub]; simp only [Int32.reduceToInt]; omega
            have q5 : ∀ T : Int, 1 ≤ T → T < r11.toInt → gd (op ν (oi ν a b i)) T = false := fun T h1 h2 => by
              by_cases h3 : T < r1.toInt
              · exact noBelow i hi2 T h1 (Or.inr h3)
              · exact q4 T (by omega) h2
            refine wp_let (hrc _ _ _ _ _ hlt ⟨i + 1, hl8, hi2, rfl, by omega, by omega, hck12 hck10, fun x h1 h2 h3 => by rw [K12 x (by omega), k8 x h3, kx x h1 h2 h3], fun j hj => by rw [K12 48 (by omega), k8 48 (by omega), k48m j hj], fun j h1 h2 h3 => by rw [K12 4 (by omega)]; exact k48x j h1 h2 h3, Or.inr ⟨i, by omega, hl7, by omega, by omega, by rw [hsub, show r11.toInt - 1 + 1 = r11.toInt by omega]; exact q3, fun j hj T h1 h2 => ?_, fun j h1 h2 T h3 h4 => ?_⟩⟩)
            · rw [hsub] at h2
              rcases hst with ⟨s1, s2, s3⟩ | ⟨e, s1, s2, s3, s4, s5, s6, s7⟩
              · exact s3 j hj T h1 (by omega)
              · by_cases h5 : j < e
                · exact s6 j h5 T h1 (by omega)
                · exact s7 j (by omega) hj T h1 (by omega)
            · rw [hsub] at h4
              have : j = i := by omega
              rw [this]
              exact q5 T h3 (by omega)
        · rw [if_pos (t_eq.mpr hr9)]
          refine hrc _ _ _ _ _ hlt ⟨i + 1, hl8, hi2, rfl, hl6, hl6b, hck10, fun x h1 h2 h3 => by rw [K10 x (by omega), k8 x h3, kx x h1 h2 h3], fun j hj => by rw [K10 48 (by omega), k8 48 (by omega), k48m j hj], fun j h1 h2 h3 => by rw [K10 4 (by omega)]; exact k48x j h1 h2 h3, ?_⟩
          have low : ∀ T : Int, 1 ≤ T → T ≤ l6.toInt → gd (op ν (oi ν a b i)) T = false := fun T h1 h2 => by
            cases eg : gd (op ν (oi ν a b i)) T with
            | false => rfl
            | true => rw [gd_up hv8 h2 eg] at hg; cases hg
          rcases hst with ⟨s1, s2, s3⟩ | ⟨e, s1, s2, s3, s4, s5, s6, s7⟩
          · refine Or.inl ⟨s1, s2, fun j hj T h1 h2 => ?_⟩
            by_cases h5 : j = i
            · rw [h5]; exact low T h1 (by omega)
            · exact s3 j (by omega) T h1 h2
          · refine Or.inr ⟨e, by omega, s2, s3, s4, s5, s6, fun j h1 h2 T h3 h4 => ?_⟩
            by_cases h5 : j = i
            · rw [h5]; exact low T h3 (by omega)
            · exact s7 j h1 (by omega) T h3 h4
      have e4 : ∀ j, j < nH ν → (m2.1 4 j).toInt = ν 1 j := fun j hj => (hm2.2.1 j hj).2.1
      cases b with
      | none =>
        have hs1 : s0.toInt = 1 := hs0
        rw [hs1, Int.ediv_one] at d2
        rw [if_pos (t_eq.mpr (show p2.toInt = Int32.toInt (-1) from hb))]
        refine rest _ (fun x hx => wi_ne hx) (fun j hj => ?_) (fun j h1 h2 h3 => by rw [wi_other h2]; exact k4 j h1 h2 h3)
        show _ = if j = a then (i : Int) else ν 1 j
        by_cases ej : j = a
        · rw [if_pos ej, ej, wi_self, d2]
        · rw [if_neg ej, wi_other ej, k4 j (by omega) ej (fun h9 => by cases h9), e4 j hj]
      | some c =>
        have hs1 : s0.toInt = 64 := hs0
        obtain ⟨hc1, hc2, hc3⟩ : p2.toInt = (c : Nat) ∧ c < nH ν ∧ c ≠ a := hb
        rw [hs1] at d2 d4
        rw [if_neg (by rw [t_eq, hc1]; simp only [Int32.reduceToInt]; omega), d3]
        refine wp_some (wp_wr c hc1 (by omega) ?_)
        refine rest _ (fun x hx => by rw [wi_ne hx, wi_ne hx]) (fun j hj => ?_) (fun j h1 h2 h3 => ?_)
        · show _ = if j = c then ((i % 64 : Nat) : Int) else if j = a then ((i / 64 : Nat) : Int) else ν 1 j
          by_cases ej : j = c
          · rw [if_pos ej, ej, wi_self, d4]; omega
          · rw [if_neg ej, wi_other ej]
            by_cases ej2 : j = a
            · rw [if_pos ej2, ej2, wi_self, d2]; omega
            · rw [if_neg ej2, wi_other ej2, k4 j (by omega) ej2 (fun h9 => ej (Option.some.inj h9).symm), e4 j hj]
        · have : j ≠ c := fun h9 => h3 (by rw [h9])
          rw [wi_other this, wi_other h2]
          exact k4 j h1 h2 h3
  cases b with
  | none =>
    rw [if_pos (t_eq.mpr (show p2.toInt = Int32.toInt (-1) from hb))]
    exact main 1 rfl
  | some c =>
    obtain ⟨hc1, hc2, hc3⟩ : p2.toInt = (c : Nat) ∧ c < nH ν ∧ c ≠ a := hb
    rw [if_neg (by rw [t_eq, hc1]; simp only [Int32.reduceToInt]; omega)]
    exact main 64 rfl
end BST
