/-! the reference takes a text: fresh, take, begin -/
theorem lp_idx {α : Type} {Q : α → ax_M → Prop} {μ : ax_M} {B : (Int32 → ax_M → Option (α × ax_M)) → Int32 → ax_M → Option (α × ax_M)} (N : Nat) (J : Nat → ax_M → Prop) (hN : N ≤ 10000) (h0 : J 0 μ)
    (hstep : ∀ (rc : Int32 → ax_M → Option (α × ax_M)) (l : Int32) (i : Nat) (m : ax_M), l.toInt = (i : Int) → i < N → J i m → (∀ (l2 : Int32) (m2 : ax_M), l2.toInt = ((i + 1 : Nat) : Int) → J (i + 1) m2 → Wp (rc l2 m2) Q) → Wp (B rc l m) Q)
    (hend : ∀ (rc : Int32 → ax_M → Option (α × ax_M)) (l : Int32) (m : ax_M), l.toInt = (N : Int) → J N m → Wp (B rc l m) Q) : Wp (ax_lp1 B ax_FU 0 μ) Q := by
  refine wp_lp1 (fun k (l : Int32) m => ∃ i : Nat, l.toInt = (i : Int) ∧ i ≤ N ∧ k = N - i ∧ J i m) ax_FU ?_ N (by unfold ax_FU; omega) ⟨0, rfl, by omega, rfl, h0⟩
  rintro k rc hrc l m ⟨i, hl, hi, hk, hJ⟩
  by_cases e : i = N
  · rw [e] at hl hJ
    exact hend rc l m hl hJ
  · exact hstep rc l i m hl (by omega) hJ (fun l2 m2 h1 h2 => hrc (N - (i + 1)) l2 m2 (by omega) ⟨i + 1, h1, by omega, rfl, h2⟩)
theorem le_i {N l : Int32} {i k : Nat} (hN : N.toInt = (k : Int)) (hl : l.toInt = (i : Int)) : N ≤ l ↔ k ≤ i := by
  rw [t_le, hN, hl]
  omega
theorem ad_i {c l : Int32} {i k : Nat} (hc : c.toInt = (k : Int)) (hl : l.toInt = (i : Int)) (hk : k ≤ 1000) (hi : i ≤ 1000) : (c + l).toInt = ((k + i : Nat) : Int) := by
  rw [t_add, hc, hl]
  omega
section TAKE
variable {m : ax_M} {D : Nv}
theorem r_fresh29 : Wp (ax_lp1 (fX9_freshText_B29) ax_FU 0 m) (fun _ m2 => (∀ a, a ≠ 60 → m2.1 a = m.1 a) ∧ ∀ j, j < 7 → m2.1 60 j = 0) := by
  refine lp_idx 7 (fun i μ => (∀ a, a ≠ 60 → μ.1 a = m.1 a) ∧ ∀ j, j < i → μ.1 60 j = 0) (by omega) ⟨fun _ _ => rfl, fun j hj => by omega⟩ (fun rc l i μ hl hi hJ hgo => ?_) (fun rc l μ hl hJ => ?_)
  · unfold fX9_freshText_B29
    rw [if_neg (fun g => by have := (le_i (k := 7) rfl hl).1 g; omega)]
    refine wp_wz i hl hi (hgo _ _ (inc hl (by omega)) ⟨fun a ha => by rw [wi_ne ha, hJ.1 a ha], fun j hj => ?_⟩)
    by_cases e : j = i
    · rw [e, wi_self]; rfl
    · rw [wi_other e]; exact hJ.2 j (by omega)
  · unfold fX9_freshText_B29
    rw [if_pos ((le_i (k := 7) rfl hl).2 (by omega))]
    exact wp_ret hJ
theorem r_fresh : Wp (fX9_freshText m) (fun _ m2 => (∀ a, a ≠ 59 → a ≠ 60 → m2.1 a = m.1 a) ∧ (∀ j, j < 6 → m2.1 59 j = m.1 59 j) ∧ RD m2 D0) := by
  unfold fX9_freshText
  refine lp_idx 6 (fun i μ => (∀ a, a ≠ 59 → μ.1 a = m.1 a) ∧ (∀ j, j < 6 → μ.1 59 j = m.1 59 j) ∧ ∀ j, 6 ≤ j → j < 6 + i → μ.1 59 j = 0) (by omega) ⟨fun _ _ => rfl, fun _ _ => rfl, fun j h1 h2 => by omega⟩ (fun rc l i μ hl hi hJ hgo => ?_) (fun rc l μ hl hJ => ?_)
  · unfold fX9_freshText_B2
    rw [if_neg (fun g => by have := (le_i (k := 6) rfl hl).1 g; omega)]
    refine wp_rdsin i hl hi (hgo _ _ (inc hl (by omega)) ⟨fun a ha => by rw [wi_ne ha, hJ.1 a ha], fun j hj => by rw [wi_other (by omega)]; exact hJ.2.1 j hj, fun j h1 h2 => ?_⟩)
    by_cases e : j = 6 + i
    · rw [e, wi_self]
    · rw [wi_other e]; exact hJ.2.2 j h1 (by omega)
  · unfold fX9_freshText_B2
    rw [if_pos ((le_i (k := 6) rfl hl).2 (by omega))]
    refine wp_rdsin 0 rfl (by omega) (wp_mono r_fresh29 ?_)
    rintro _ m2 ⟨k1, k2⟩
    have k59 : ∀ j, 7 ≤ j → j ≤ 11 → m2.1 59 j = 0 := fun j h1 h2 => by rw [k1 59 (by decide), wi_other (by omega)]; exact hJ.2.2 j (by omega) (by omega)
    refine ⟨fun a h1 h2 => by rw [k1 a h2, wi_ne h1, hJ.1 a h1], fun j hj => by rw [k1 59 (by decide), wi_other (by omega)]; exact hJ.2.1 j hj, ⟨?_, ?_, ?_, ?_, ?_, ?_⟩, fun i hi => absurd hi (Nat.not_lt_zero i), fun i hi => absurd hi (Nat.not_lt_zero i), fun i hi => absurd hi (Nat.not_lt_zero i), ?_, ?_, ?_⟩
    · rw [k59 7 (by omega) (by omega)]; rfl
    · rw [k59 8 (by omega) (by omega)]; rfl
    · rw [k59 9 (by omega) (by omega)]; rfl
    · rw [k1 59 (by decide)]
      show ((ax_wi _ 59 6 _).1 59 6).toInt = _
      rw [wi_self]; rfl
    · rw [k59 11 (by omega) (by omega)]; rfl
    · rw [k59 10 (by omega) (by omega)]; rfl
    · rw [k2 0 (by omega)]; rfl
    · rw [k2 5 (by omega)]; rfl
    · rw [k2 6 (by omega)]; rfl
theorem r_take186 {Q : Unit → ax_M → Prop} (hQ : ∀ m2 : ax_M, ((∀ a j, 70 ≤ a → a ≤ 73 → j < 24 → m2.1 a j = m.1 a (24 + j)) ∧ (∀ a, ¬ (70 ≤ a ∧ a ≤ 73) → m2.1 a = m.1 a)) → Q () m2) : Wp (ax_lp1 (fX9_takeText_B186) ax_FU 0 m) Q := by
  refine lp_idx 24 (fun i μ => (∀ a j, 70 ≤ a → a ≤ 73 → j < i → μ.1 a j = m.1 a (24 + j)) ∧ (∀ a j, 70 ≤ a → a ≤ 73 → i ≤ j → μ.1 a j = m.1 a j) ∧ (∀ a, ¬ (70 ≤ a ∧ a ≤ 73) → μ.1 a = m.1 a)) (by omega) ⟨fun a j _ _ hj => by omega, fun _ _ _ _ _ => rfl, fun _ _ => rfl⟩ (fun rc l i μ hl hi hJ hgo => ?_) (fun rc l μ hl hJ => ?_)
  · unfold fX9_takeText_B186
    rw [if_neg (fun g => by have := (le_i (k := 24) rfl hl).1 g; omega)]
    have ei := ad_i (c := 24) (k := 24) rfl hl (by omega) (by omega)
    refine wp_rd (24 + i) ei (by omega) (wp_wr i hl (by omega) (wp_rd (24 + i) ei (by omega) (wp_wr i hl (by omega) (wp_rd (24 + i) ei (by omega) (wp_wr i hl (by omega) (wp_rd (24 + i) ei (by omega) (wp_wr i hl (by omega) (hgo _ _ (inc hl (by omega)) ⟨fun a j h1 h2 h3 => ?_, fun a j h1 h2 h3 => ?_, fun a ha => ?_⟩))))))))
    · by_cases ej : j = i
      · rw [ej]
        have ha : a = 70 ∨ a = 71 ∨ a = 72 ∨ a = 73 := by omega
        rcases ha with rfl | rfl | rfl | rfl
        · rw [wi_ne (by decide), wi_ne (by decide), wi_ne (by decide), wi_self]; exact hJ.2.1 70 (24 + i) (by omega) (by omega) (by omega)
        · rw [wi_ne (by decide), wi_ne (by decide), wi_self, wi_ne (by decide)]; exact hJ.2.1 71 (24 + i) (by omega) (by omega) (by omega)
        · rw [wi_ne (by decide), wi_self, wi_ne (by decide), wi_ne (by decide)]; exact hJ.2.1 72 (24 + i) (by omega) (by omega) (by omega)
        · rw [wi_self, wi_ne (by decide), wi_ne (by decide), wi_ne (by decide)]; exact hJ.2.1 73 (24 + i) (by omega) (by omega) (by omega)
      · rw [wi_other ej, wi_other ej, wi_other ej, wi_other ej]; exact hJ.1 a j h1 h2 (by omega)
    · rw [wi_other (by omega), wi_other (by omega), wi_other (by omega), wi_other (by omega)]; exact hJ.2.1 a j h1 h2 (by omega)
    · rw [wi_ne (by omega), wi_ne (by omega), wi_ne (by omega), wi_ne (by omega)]; exact hJ.2.2 a ha
  · unfold fX9_takeText_B186
    rw [if_pos ((le_i (k := 24) rfl hl).2 (by omega))]
    exact wp_ret (hQ μ ⟨hJ.1, hJ.2.2⟩)
theorem r_take82 {Q : Unit → ax_M → Prop} (hQ : ∀ m2 : ax_M, ((∀ a j, 64 ≤ a → a ≤ 68 → j < 10 → m2.1 a j = m.1 a (10 + j)) ∧ (∀ a, ¬ (64 ≤ a ∧ a ≤ 69) → m2.1 a = m.1 a) ∧ ∀ j, j < 10 → m2.1 69 j = vp_nar .boolean (m.1 69 (10 + j))) → Wp (ax_lp1 (fX9_takeText_B186) ax_FU 0 m2) Q) : Wp (ax_lp1 (fX9_takeText_B82) ax_FU 0 m) Q := by
  refine lp_idx 10 (fun i μ => (∀ a j, 64 ≤ a → a ≤ 68 → j < i → μ.1 a j = m.1 a (10 + j)) ∧ (∀ a j, 64 ≤ a → a ≤ 69 → i ≤ j → μ.1 a j = m.1 a j) ∧ (∀ a, ¬ (64 ≤ a ∧ a ≤ 69) → μ.1 a = m.1 a) ∧ ∀ j, j < i → μ.1 69 j = vp_nar .boolean (m.1 69 (10 + j))) (by omega) ⟨fun a j _ _ hj => by omega, fun _ _ _ _ _ => rfl, fun _ _ => rfl, fun j hj => by omega⟩ (fun rc l i μ hl hi hJ hgo => ?_) (fun rc l μ hl hJ => ?_)
  · unfold fX9_takeText_B82
    rw [if_neg (fun g => by have := (le_i (k := 10) rfl hl).1 g; omega)]
    have ei := ad_i (c := 10) (k := 10) rfl hl (by omega) (by omega)
    refine wp_rd (10 + i) ei (by omega) (wp_wr i hl (by omega) (wp_rd (10 + i) ei (by omega) (wp_wr i hl (by omega) (wp_rd (10 + i) ei (by omega) (wp_wr i hl (by omega) (wp_rd (10 + i) ei (by omega) (wp_wr i hl (by omega) (wp_rd (10 + i) ei (by omega) (wp_wr i hl (by omega) (wp_rd (10 + i) ei (by omega) (wp_wz i hl (by omega) (hgo _ _ (inc hl (by omega)) ⟨fun a j h1 h2 h3 => ?_, fun a j h1 h2 h3 => ?_, fun a ha => ?_, fun j h3 => ?_⟩))))))))))))
    · by_cases ej : j = i
      · rw [ej]
        have ha : a = 64 ∨ a = 65 ∨ a = 66 ∨ a = 67 ∨ a = 68 := by omega
        rcases ha with rfl | rfl | rfl | rfl | rfl
        · rw [wi_ne (by decide), wi_ne (by decide), wi_ne (by decide), wi_ne (by decide), wi_ne (by decide), wi_self]; exact hJ.2.1 64 (10 + i) (by omega) (by omega) (by omega)
        · rw [wi_ne (by decide), wi_ne (by decide), wi_ne (by decide), wi_ne (by decide), wi_self, wi_ne (by decide)]; exact hJ.2.1 65 (10 + i) (by omega) (by omega) (by omega)
        · rw [wi_ne (by decide), wi_ne (by decide), wi_ne (by decide), wi_self, wi_ne (by decide), wi_ne (by decide)]; exact hJ.2.1 66 (10 + i) (by omega) (by omega) (by omega)
        · rw [wi_ne (by decide), wi_ne (by decide), wi_self, wi_ne (by decide), wi_ne (by decide), wi_ne (by decide)]; exact hJ.2.1 67 (10 + i) (by omega) (by omega) (by omega)
        · rw [wi_ne (by decide), wi_self, wi_ne (by decide), wi_ne (by decide), wi_ne (by decide), wi_ne (by decide)]; exact hJ.2.1 68 (10 + i) (by omega) (by omega) (by omega)
      · rw [wi_other ej, wi_other ej, wi_other ej, wi_other ej, wi_other ej, wi_other ej]; exact hJ.1 a j h1 h2 (by omega)
    · rw [wi_other (by omega), wi_other (by omega), wi_other (by omega), wi_other (by omega), wi_other (by omega), wi_other (by omega)]; exact hJ.2.1 a j h1 h2 (by omega)
    · rw [wi_ne (by omega), wi_ne (by omega), wi_ne (by omega), wi_ne (by omega), wi_ne (by omega), wi_ne (by omega)]; exact hJ.2.2.1 a ha
    · by_cases ej : j = i
      · rw [ej, wi_self, wi_ne (by decide), wi_ne (by decide), wi_ne (by decide), wi_ne (by decide), wi_ne (by decide), hJ.2.1 69 (10 + i) (by omega) (by omega) (by omega)]
      · rw [wi_other ej, wi_other ej, wi_other ej, wi_other ej, wi_other ej, wi_other ej]; exact hJ.2.2.2 j (by omega)
  · unfold fX9_takeText_B82
    rw [if_pos ((le_i (k := 10) rfl hl).2 (by omega))]
    exact hQ μ ⟨hJ.1, hJ.2.2.1, hJ.2.2.2⟩
theorem r_take27 {Q : Unit → ax_M → Prop} (hQ : ∀ m2 : ax_M, ((∀ a j, 61 ≤ a → a ≤ 63 → j < 4 → m2.1 a j = m.1 a (4 + j)) ∧ (∀ a, ¬ (61 ≤ a ∧ a ≤ 63) → m2.1 a = m.1 a)) → Wp (ax_lp1 (fX9_takeText_B82) ax_FU 0 m2) Q) : Wp (ax_lp1 (fX9_takeText_B27) ax_FU 0 m) Q := by
  refine lp_idx 4 (fun i μ => (∀ a j, 61 ≤ a → a ≤ 63 → j < i → μ.1 a j = m.1 a (4 + j)) ∧ (∀ a j, 61 ≤ a → a ≤ 63 → i ≤ j → μ.1 a j = m.1 a j) ∧ (∀ a, ¬ (61 ≤ a ∧ a ≤ 63) → μ.1 a = m.1 a)) (by omega) ⟨fun a j _ _ hj => by omega, fun _ _ _ _ _ => rfl, fun _ _ => rfl⟩ (fun rc l i μ hl hi hJ hgo => ?_) (fun rc l μ hl hJ => ?_)
  · unfold fX9_takeText_B27
    rw [if_neg (fun g => by have := (le_i (k := 4) rfl hl).1 g; omega)]
    have ei := ad_i (c := 4) (k := 4) rfl hl (by omega) (by omega)
    refine wp_rd (4 + i) ei (by omega) (wp_wr i hl (by omega) (wp_rd (4 + i) ei (by omega) (wp_wr i hl (by omega) (wp_rd (4 + i) ei (by omega) (wp_wr i hl (by omega) (hgo _ _ (inc hl (by omega)) ⟨fun a j h1 h2 h3 => ?_, fun a j h1 h2 h3 => ?_, fun a ha => ?_⟩))))))
    · by_cases ej : j = i
      · rw [ej]
        have ha : a = 61 ∨ a = 62 ∨ a = 63 := by omega
        rcases ha with rfl | rfl | rfl
        · rw [wi_ne (by decide), wi_ne (by decide), wi_self]; exact hJ.2.1 61 (4 + i) (by omega) (by omega) (by omega)
        · rw [wi_ne (by decide), wi_self, wi_ne (by decide)]; exact hJ.2.1 62 (4 + i) (by omega) (by omega) (by omega)
        · rw [wi_self, wi_ne (by decide), wi_ne (by decide)]; exact hJ.2.1 63 (4 + i) (by omega) (by omega) (by omega)
      · rw [wi_other ej, wi_other ej, wi_other ej]; exact hJ.1 a j h1 h2 (by omega)
    · rw [wi_other (by omega), wi_other (by omega), wi_other (by omega)]; exact hJ.2.1 a j h1 h2 (by omega)
    · rw [wi_ne (by omega), wi_ne (by omega), wi_ne (by omega)]; exact hJ.2.2 a ha
  · unfold fX9_takeText_B27
    rw [if_pos ((le_i (k := 4) rfl hl).2 (by omega))]
    exact hQ μ ⟨hJ.1, hJ.2.2⟩
/-- the lower half holds the draft -/
def TT (m2 m : ax_M) : Prop := (∀ j, j < 6 → m2.1 59 j = m.1 59 (6 + j)) ∧ (∀ a j, 61 ≤ a → a ≤ 63 → j < 4 → m2.1 a j = m.1 a (4 + j)) ∧ (∀ a j, 64 ≤ a → a ≤ 68 → j < 10 → m2.1 a j = m.1 a (10 + j)) ∧ (∀ j, j < 10 → m2.1 69 j = vp_nar .boolean (m.1 69 (10 + j))) ∧ ∀ a j, 70 ≤ a → a ≤ 73 → j < 24 → m2.1 a j = m.1 a (24 + j)
theorem r_take : Wp (fX9_takeText m) (fun _ m2 => TT m2 m) := by
  unfold fX9_takeText
  refine lp_idx 6 (fun i μ => (∀ j, j < i → μ.1 59 j = m.1 59 (6 + j)) ∧ (∀ j, i ≤ j → μ.1 59 j = m.1 59 j) ∧ ∀ a, a ≠ 59 → μ.1 a = m.1 a) (by omega) ⟨fun j hj => by omega, fun _ _ => rfl, fun _ _ => rfl⟩ (fun rc l i μ hl hi hJ hgo => ?_) (fun rc l μ hl hJ => ?_)
  · unfold fX9_takeText_B2
    rw [if_neg (fun g => by have := (le_i (k := 6) rfl hl).1 g; omega)]
    refine wp_rding i hl hi (wp_wr i hl (by omega) (hgo _ _ (inc hl (by omega)) ⟨fun j hj => ?_, fun j hj => ?_, fun a ha => ?_⟩))
    · by_cases ej : j = i
      · rw [ej, wi_self]; exact hJ.2.1 (6 + i) (by omega)
      · rw [wi_other ej]; exact hJ.1 j (by omega)
    · rw [wi_other (by omega)]; exact hJ.2.1 j (by omega)
    · rw [wi_ne ha]; exact hJ.2.2 a ha
  · unfold fX9_takeText_B2
    rw [if_pos ((le_i (k := 6) rfl hl).2 (by omega))]
    refine r_take27 (fun m1 w1 => r_take82 (fun m2 w2 => r_take186 (fun m3 w3 => ⟨fun j hj => ?_, fun a j h1 h2 h3 => ?_, fun a j h1 h2 h3 => ?_, fun j h3 => ?_, fun a j h1 h2 h3 => ?_⟩)))
    · rw [w3.2 59 (by omega), w2.2.1 59 (by omega), w1.2 59 (by omega)]; exact hJ.1 j hj
    · rw [w3.2 a (by omega), w2.2.1 a (by omega), w1.1 a j h1 h2 h3, hJ.2.2 a (by omega)]
    · rw [w3.2 a (by omega), w2.1 a j h1 h2 h3, w1.2 a (by omega), hJ.2.2 a (by omega)]
    · rw [w3.2 69 (by omega), w2.2.2 j h3, w1.2 69 (by omega), hJ.2.2 69 (by omega)]
    · rw [w3.1 a j h1 h2 h3, w2.2.1 a (by omega), w1.2 a (by omega), hJ.2.2 a (by omega)]
theorem b131 {Q : Unit → ax_M → Prop} (N : Nat) (hN : N ≤ 24) (h3 : (m.1 59 3).toInt = (N : Int)) (hQ : ∀ m2 : ax_M, ((∀ a, a ≠ 74 → m2.1 a = m.1 a) ∧ (∀ j, j < 19 ∨ 67 ≤ j → m2.1 74 j = m.1 74 j) ∧ ∀ i, i < N → m2.1 74 (19 + i) = m.1 72 i ∧ m2.1 74 (43 + i) = m.1 73 i) → Q () m2) : Wp (ax_lp1 (fX9_begins_B131) ax_FU 0 m) Q := by
  refine lp_idx N (fun i μ => (∀ a, a ≠ 74 → μ.1 a = m.1 a) ∧ (∀ j, j < 19 ∨ 67 ≤ j → μ.1 74 j = m.1 74 j) ∧ ∀ k, k < i → μ.1 74 (19 + k) = m.1 72 k ∧ μ.1 74 (43 + k) = m.1 73 k) (by omega) ⟨fun _ _ => rfl, fun _ _ => rfl, fun k hk => by omega⟩ (fun rc l i μ hl hi hJ hgo => ?_) (fun rc l μ hl hJ => ?_)
  · unfold fX9_begins_B131 fX9_paths
    refine wp_bd (wp_rd 3 rfl (by omega) (wp_ret ?_))
    have e3 : (μ.1 59 3).toInt = (N : Int) := by rw [hJ.1 59 (by decide)]; exact h3
    rw [if_neg (fun g => by have := (le_i e3 hl).1 g; omega)]
    refine wp_rd i hl (by omega) (wp_wr (19 + i) (ad_i (k := 19) rfl hl (by omega) (by omega)) (by omega) (wp_rd i hl (by omega) (wp_wr (43 + i) (ad_i (k := 43) rfl hl (by omega) (by omega)) (by omega) (hgo _ _ (inc hl (by omega)) ⟨fun a ha => by rw [wi_ne ha, wi_ne ha, hJ.1 a ha], fun j hj => by rw [wi_other (by omega), wi_other (by omega)]; exact hJ.2.1 j hj, fun k hk => ?_⟩))))
    by_cases e : k = i
    · rw [e]
      refine ⟨?_, ?_⟩
      · rw [wi_other (by omega), wi_self, hJ.1 72 (by decide)]
      · rw [wi_self, wi_ne (by decide), hJ.1 73 (by decide)]
    · rw [wi_other (by omega), wi_other (by omega), wi_other (by omega), wi_other (by omega)]
      exact hJ.2.2 k (by omega)
  · unfold fX9_begins_B131 fX9_paths
    refine wp_bd (wp_rd 3 rfl (by omega) (wp_ret ?_))
    have e3 : (μ.1 59 3).toInt = (N : Int) := by rw [hJ.1 59 (by decide)]; exact h3
    rw [if_pos ((le_i e3 hl).2 (by omega))]
    exact wp_ret (hQ μ hJ)
theorem b92 {Q : Unit → ax_M → Prop} (N : Nat) (hN : N ≤ 10) (h3 : (m.1 59 2).toInt = (N : Int)) (hQ : ∀ m2 : ax_M, ((∀ a, a ≠ 74 → m2.1 a = m.1 a) ∧ (∀ j, j < 9 ∨ 19 ≤ j → m2.1 74 j = m.1 74 j) ∧ ∀ i, i < N → m2.1 74 (9 + i) = if m.1 69 i = 0 then 0 else 1) → Wp (ax_lp1 (fX9_begins_B131) ax_FU 0 m2) Q) : Wp (ax_lp1 (fX9_begins_B92) ax_FU 0 m) Q := by
  refine lp_idx N (fun i μ => (∀ a, a ≠ 74 → μ.1 a = m.1 a) ∧ (∀ j, j < 9 ∨ 19 ≤ j → μ.1 74 j = m.1 74 j) ∧ ∀ k, k < i → μ.1 74 (9 + k) = if m.1 69 k = 0 then 0 else 1) (by omega) ⟨fun _ _ => rfl, fun _ _ => rfl, fun k hk => by omega⟩ (fun rc l i μ hl hi hJ hgo => ?_) (fun rc l μ hl hJ => ?_)
  · unfold fX9_begins_B92 fX9_cells fX9_begins_K122
    refine wp_bd (wp_rd 2 rfl (by omega) (wp_ret ?_))
    have e3 : (μ.1 59 2).toInt = (N : Int) := by rw [hJ.1 59 (by decide)]; exact h3
    rw [if_neg (fun g => by have := (le_i e3 hl).1 g; omega)]
    have go : ∀ v : Int32, v = (if m.1 69 i = 0 then 0 else 1) → Wp (Option.bind (ax_wr μ 74 68 ((9 : Int32) + l) v) (fun m17 => rc (l + 1) m17)) Q := by
      intro v hv
      refine wp_wr (9 + i) (ad_i (k := 9) rfl hl (by omega) (by omega)) (by omega) (hgo _ _ (inc hl (by omega)) ⟨fun a ha => by rw [wi_ne ha, hJ.1 a ha], fun j hj => by rw [wi_other (by omega)]; exact hJ.2.1 j hj, fun k hk => ?_⟩)
      by_cases e : k = i
      · rw [e, wi_self]; exact hv
      · rw [wi_other (by omega)]; exact hJ.2.2 k (by omega)
    refine wp_rd i hl (by omega) (wp_if (fun c => go 0 ?_) (fun c => go 1 ?_))
    · rw [hJ.1 69 (by decide)] at c
      rw [if_pos c]
    · rw [hJ.1 69 (by decide)] at c
      rw [if_neg c]
  · unfold fX9_begins_B92 fX9_cells
    refine wp_bd (wp_rd 2 rfl (by omega) (wp_ret ?_))
    have e3 : (μ.1 59 2).toInt = (N : Int) := by rw [hJ.1 59 (by decide)]; exact h3
    rw [if_pos ((le_i e3 hl).2 (by omega))]
    exact hQ μ hJ
theorem b48 {Q : Unit → ax_M → Prop} (N : Nat) (hN : N ≤ 4) (h3 : (m.1 59 1).toInt = (N : Int)) (hQ : ∀ m2 : ax_M, ((∀ a, a ≠ 74 → m2.1 a = m.1 a) ∧ (∀ j, j < 1 ∨ 9 ≤ j → m2.1 74 j = m.1 74 j) ∧ ∀ i, i < N → m2.1 74 (1 + i) = m.1 62 i ∧ m2.1 74 (5 + i) = m.1 63 i) → Wp (ax_lp1 (fX9_begins_B92) ax_FU 0 m2) Q) : Wp (ax_lp1 (fX9_begins_B48) ax_FU 0 m) Q := by
  refine lp_idx N (fun i μ => (∀ a, a ≠ 74 → μ.1 a = m.1 a) ∧ (∀ j, j < 1 ∨ 9 ≤ j → μ.1 74 j = m.1 74 j) ∧ ∀ k, k < i → μ.1 74 (1 + k) = m.1 62 k ∧ μ.1 74 (5 + k) = m.1 63 k) (by omega) ⟨fun _ _ => rfl, fun _ _ => rfl, fun k hk => by omega⟩ (fun rc l i μ hl hi hJ hgo => ?_) (fun rc l μ hl hJ => ?_)
  · unfold fX9_begins_B48 fX9_phases
    refine wp_bd (wp_rd 1 rfl (by omega) (wp_ret ?_))
    have e3 : (μ.1 59 1).toInt = (N : Int) := by rw [hJ.1 59 (by decide)]; exact h3
    rw [if_neg (fun g => by have := (le_i e3 hl).1 g; omega)]
    refine wp_rd i hl (by omega) (wp_wr (1 + i) (ad_i (k := 1) rfl hl (by omega) (by omega)) (by omega) (wp_rd i hl (by omega) (wp_wr (5 + i) (ad_i (k := 5) rfl hl (by omega) (by omega)) (by omega) (hgo _ _ (inc hl (by omega)) ⟨fun a ha => by rw [wi_ne ha, wi_ne ha, hJ.1 a ha], fun j hj => by rw [wi_other (by omega), wi_other (by omega)]; exact hJ.2.1 j hj, fun k hk => ?_⟩))))
    by_cases e : k = i
    · rw [e]
      refine ⟨?_, ?_⟩
      · rw [wi_other (by omega), wi_self, hJ.1 62 (by decide)]
      · rw [wi_self, wi_ne (by decide), hJ.1 63 (by decide)]
    · rw [wi_other (by omega), wi_other (by omega), wi_other (by omega), wi_other (by omega)]
      exact hJ.2.2 k (by omega)
  · unfold fX9_begins_B48 fX9_phases
    refine wp_bd (wp_rd 1 rfl (by omega) (wp_ret ?_))
    have e3 : (μ.1 59 1).toInt = (N : Int) := by rw [hJ.1 59 (by decide)]; exact h3
    rw [if_pos ((le_i e3 hl).2 (by omega))]
    exact hQ μ hJ
/-- a draft taken -/
theorem r_begins {m2 : ax_M} (hd : RD m D) (hv : Vd D) (ht : TT m2 m) : Wp (fX9_begins m2) (fun _ m3 => RN m3 D) := by
  have hc := vd_cast hv
  have k0 := hv.1
  obtain ⟨t1, t2, t3, t4, t5⟩ := ht
  obtain ⟨⟨c1, c2, c3, c4, c5, c6⟩, d1, d2, d3, _⟩ := hd
  have x1 : (m2.1 59 1).toInt = (nH D : Int) := by rw [t1 1 (by omega)]; exact c1.trans hc.1
  have x2 : (m2.1 59 2).toInt = (nC D : Int) := by rw [t1 2 (by omega)]; exact c2.trans hc.2.1
  have x3 : (m2.1 59 3).toInt = (nP D : Int) := by rw [t1 3 (by omega)]; exact c3.trans hc.2.2
  unfold fX9_begins
  refine lp_idx 68 (fun i μ => ∀ a, a ≠ 74 → μ.1 a = m2.1 a) (by omega) (fun _ _ => rfl) (fun rc l i μ hl hi hJ hgo => ?_) (fun rc l μ hl hJ => ?_)
  · unfold fX9_begins_B2
    rw [if_neg (fun g => by have := (le_i (k := 68) rfl hl).1 g; omega)]
    exact wp_wr i hl hi (hgo _ _ (inc hl (by omega)) (fun a ha => by rw [wi_ne ha, hJ a ha]))
  · unfold fX9_begins_B2
    rw [if_pos ((le_i (k := 68) rfl hl).2 (by omega))]
    refine wp_rd 0 rfl (by omega) (wp_wr 0 rfl (by omega) (wp_rd 5 rfl (by omega) (wp_wr 67 rfl (by omega) (b48 (nH D) (by omega) (by rw [wi_ne (by decide), wi_ne (by decide), hJ 59 (by decide)]; exact x1) (fun y1 w1 => b92 (nC D) (by omega) (by rw [w1.1 59 (by decide), wi_ne (by decide), wi_ne (by decide), hJ 59 (by decide)]; exact x2) (fun y2 w2 => b131 (nP D) (by omega) (by rw [w2.1 59 (by decide), w1.1 59 (by decide), wi_ne (by decide), wi_ne (by decide), hJ 59 (by decide)]; exact x3) (fun y3 w3 => ?_)))))))
    have kk : ∀ a, a ≠ 74 → y3.1 a = m2.1 a := fun a ha => by rw [w3.1 a ha, w2.1 a ha, w1.1 a ha, wi_ne ha, wi_ne ha, hJ a ha]
    have k2 : ∀ a, a ≠ 74 → y2.1 a = m2.1 a := fun a ha => by rw [w2.1 a ha, w1.1 a ha, wi_ne ha, wi_ne ha, hJ a ha]
    have k1 : ∀ a, a ≠ 74 → y1.1 a = m2.1 a := fun a ha => by rw [w1.1 a ha, wi_ne ha, wi_ne ha, hJ a ha]
    refine ⟨⟨?_, ?_, ?_, ?_, ?_, ?_⟩, fun i hi => ⟨?_, ?_, ?_⟩, fun c hcc => ⟨?_, ?_, ?_, ?_, ?_, ?_⟩, fun p hp => ⟨?_, ?_, ?_, ?_⟩⟩
    · rw [kk 59 (by decide), t1 1 (by omega)]; exact c1
    · rw [kk 59 (by decide), t1 2 (by omega)]; exact c2
    · rw [kk 59 (by decide), t1 3 (by omega)]; exact c3
    · rw [w3.2.1 0 (by omega), w2.2.1 0 (by omega), w1.2.1 0 (by omega), wi_other (by decide), wi_self, hJ 59 (by decide), t1 0 (by omega)]; exact c4
    · rw [w3.2.1 67 (by omega), w2.2.1 67 (by omega), w1.2.1 67 (by omega), wi_self, wi_ne (by decide), hJ 59 (by decide), t1 5 (by omega)]; exact c5
    · rw [kk 59 (by decide), t1 4 (by omega)]; exact c6
    · rw [kk 61 (by decide), t2 61 i (by omega) (by omega) (by omega)]; exact (d1 i hi).1
    · rw [w3.2.1 (1 + i) (by omega), w2.2.1 (1 + i) (by omega), (w1.2.2 i hi).1, wi_ne (by decide), wi_ne (by decide), hJ 62 (by decide), t2 62 i (by omega) (by omega) (by omega)]; exact (d1 i hi).2.1
    · rw [w3.2.1 (5 + i) (by omega), w2.2.1 (5 + i) (by omega), (w1.2.2 i hi).2, wi_ne (by decide), wi_ne (by decide), hJ 63 (by decide), t2 63 i (by omega) (by omega) (by omega)]; exact (d1 i hi).2.2
    · rw [kk 64 (by decide), t3 64 c (by omega) (by omega) (by omega)]; exact (d2 c hcc).1
    · rw [kk 65 (by decide), t3 65 c (by omega) (by omega) (by omega)]; exact (d2 c hcc).2.1
    · rw [kk 66 (by decide), t3 66 c (by omega) (by omega) (by omega)]; exact (d2 c hcc).2.2.1
    · rw [kk 67 (by decide), t3 67 c (by omega) (by omega) (by omega)]; exact (d2 c hcc).2.2.2.1
    · rw [kk 68 (by decide), t3 68 c (by omega) (by omega) (by omega)]; exact (d2 c hcc).2.2.2.2.1
    · have hf := (hv.2.2.1 c hcc).2.2.2.2.2.2.2.2
      have hg := (d2 c hcc).2.2.2.2.2
      have e69 : y1.1 69 c = m.1 69 (10 + c) := by rw [k1 69 (by decide), t4 c (by omega), nar_bool (by rw [hg]; exact hf)]
      rw [w3.2.1 (9 + c) (by omega), w2.2.2 c hcc, e69]
      rcases hf with hf | hf
      · rw [if_pos (q0.mpr (hg.trans hf)), hf]; rfl
      · rw [if_neg (fun g => by have := q0.mp g; omega), hf]; rfl
    · rw [kk 70 (by decide), t5 70 p (by omega) (by omega) (by omega)]; exact (d3 p hp).1
    · rw [kk 71 (by decide), t5 71 p (by omega) (by omega) (by omega)]; exact (d3 p hp).2.1
    · rw [(w3.2.2 p hp).1, k2 72 (by decide), t5 72 p (by omega) (by omega) (by omega)]; exact (d3 p hp).2.2.1
    · rw [(w3.2.2 p hp).2, k2 73 (by decide), t5 73 p (by omega) (by omega) (by omega)]; exact (d3 p hp).2.2.2
end TAKE
