/-! the reference's loops -/
def RB (m : ax_M) (ν : Nv) (P : Nat → (Nat → Nat) → Prop) : Prop := BS ν P (m.1 57 41).toInt (fun i => (m.1 82 i).toInt) (m.2 57 42).toInt (m.2 57 43).toInt
section LRF
variable {μ : ax_M} {ν : Nv}
theorem sX9_isFirst {k n : Nat} (hk10 : k ≤ 10) (p1 : Int32) (hp : p1.toInt = (k : Int)) (hn : (μ.1 57 41).toInt = (n : Int)) : Wp (fX9_isFirst p1 μ) (fun r m => m = μ ∧ ((r.toInt = 1 ∧ (k < n ∨ (k = n ∧ ∃ i, i < k ∧ (∀ j, j < i → μ.1 80 j = μ.1 82 j) ∧ (μ.1 80 i).toInt < (μ.1 82 i).toInt))) ∨ (r.toInt = 0 ∧ (n < k ∨ (k = n ∧ ((∀ i, i < k → μ.1 80 i = μ.1 82 i) ∨ ∃ i, i < k ∧ (∀ j, j < i → μ.1 80 j = μ.1 82 j) ∧ (μ.1 82 i).toInt < (μ.1 80 i).toInt)))))) := by
  unfold fX9_isFirst fX9_isFirst_K21
  refine wp_if (fun c => ?_) (fun c => wp_if (fun c2 => wp_ret ⟨rfl, Or.inr ⟨rfl, Or.inl ?_⟩⟩) (fun c2 => wp_ret ⟨rfl, Or.inl ⟨rfl, Or.inl ?_⟩⟩))
  · rw [t_eq, hp, hn] at c
    have ekn : k = n := by omega
    refine lp_find k (fun i => μ.1 80 i ≠ μ.1 82 i) (by omega) (fun rc l i hl hi hno hgo => ?_) (fun rc l hl hno => ?_)
    · have hno : ∀ j, j < i → μ.1 80 j = μ.1 82 j := fun j hj => Classical.not_not.mp (hno j hj)
      unfold fX9_isFirst_B24 fX9_isFirst_K64
      rw [if_neg (by rw [t_le, hp, hl]; omega)]
      refine wp_rd i hl (by omega) (wp_rd i hl (by omega) (wp_if (fun c1 => hgo (fun g => g c1) _ (inc hl (by omega))) (fun c1 => wp_rd i hl (by omega) (wp_rd i hl (by omega) (wp_if (fun c2 => wp_ret ⟨rfl, Or.inr ⟨rfl, Or.inr ⟨ekn, Or.inr ⟨i, hi, hno, ?_⟩⟩⟩⟩) (fun c2 => wp_ret ⟨rfl, Or.inl ⟨rfl, Or.inr ⟨ekn, i, hi, hno, ?_⟩⟩⟩))))))
      · rw [t_le] at c2
        rw [t_eq] at c1
        omega
      · rw [t_le] at c2
        omega
    · unfold fX9_isFirst_B24
      rw [if_pos (by rw [t_le, hp, hl]; omega)]
      exact wp_ret ⟨rfl, Or.inr ⟨rfl, Or.inr ⟨ekn, Or.inl (fun i hi => Classical.not_not.mp (hno i hi))⟩⟩⟩
  · rw [t_eq, hp, hn] at c
    rw [t_le, hp, hn] at c2
    omega
  · rw [t_le, hp, hn] at c2
    omega
theorem sX9_tellsLoop (h : RN μ ν) (hv : Vd ν) {P : Nat → (Nat → Nat) → Prop} (hB : RB μ ν P) {k : Nat} {r w : Nat → Nat} (l0 : Lop ν k r w) (h80 : ∀ i, i < k → (μ.1 80 i).toInt = (r i : Nat)) (h81 : ∀ i, i < k → (μ.1 81 i).toInt = (w i : Nat)) (p1 : Int32) (hp : p1.toInt = (k : Int)) : Wp (fX9_tellsLoop p1 μ) (fun _ m => RB m ν (Pp P k r) ∧ (∀ a, a ≠ 57 → a ≠ 82 → m.1 a = μ.1 a) ∧ ∀ j, j ≠ 41 → m.1 57 j = μ.1 57 j) := by
  have hn := vd_nums hv
  have b0 := lop_bd hv l0
  have k10 := (lop_nC hv l0).2
  have b1 := bs_bd hv hB
  have m1 : DD ν k w * (μ.2 57 43).toInt ≤ 766080 * 640 := Int.mul_le_mul b0.2.1 b1.2.2.2.2.2 (by omega) (by decide)
  have m2 : (μ.2 57 42).toInt * SS ν k w ≤ 766080 * 640 := Int.mul_le_mul b1.2.2.2.1 b0.2.2.2 (by omega) (by decide)
  have m3 : 0 ≤ DD ν k w * (μ.2 57 43).toInt := Int.mul_nonneg b0.1 (by omega)
  have m4 : 0 ≤ (μ.2 57 42).toInt * SS ν k w := Int.mul_nonneg b1.2.2.1 (by omega)
  have z0 : Int64.toInt 0 = 0 := rfl
  -- it is taken
  have take : ∀ l2 l4 : Int64, l2.toInt = DD ν k w → l4.toInt = SS ν k w → ((μ.1 57 41).toInt = 0 ∨ (∀ m r2 q, Lop ν m r2 q → (μ.1 57 41).toInt = (m : Int) → (∀ i, i < m → (μ.1 82 i).toInt = (r2 i : Nat)) → (μ.2 57 42).toInt = DD ν m q → (μ.2 57 43).toInt = SS ν m q → ge ν k r w m r2 q)) → Wp (fX9_tellsLoop_K130 p1 l2 l4 μ) (fun _ m => RB m ν (Pp P k r) ∧ (∀ a, a ≠ 57 → a ≠ 82 → m.1 a = μ.1 a) ∧ ∀ j, j ≠ 41 → m.1 57 j = μ.1 57 j) := by
    intro l2 l4 hd hs hc
    unfold fX9_tellsLoop_K130
    refine wp_let (wp_let (wp_let ?_))
    have e1 : ∀ a, a ≠ 57 → (ax_wi (ax_wl (ax_wl μ 57 42 l2) 57 43 l4) 57 41 p1).1 a = μ.1 a := fun a ha => by rw [wi_ne ha]; rfl
    have e41 : (ax_wi (ax_wl (ax_wl μ 57 42 l2) 57 43 l4) 57 41 p1).1 57 41 = p1 := wi_self
    have ej : ∀ j, j ≠ 41 → (ax_wi (ax_wl (ax_wl μ 57 42 l2) 57 43 l4) 57 41 p1).1 57 j = μ.1 57 j := fun j hj => by rw [wi_other hj]; rfl
    have e42 : (ax_wi (ax_wl (ax_wl μ 57 42 l2) 57 43 l4) 57 41 p1).2 57 42 = l2 := by
      show (ax_wl (ax_wl μ 57 42 l2) 57 43 l4).2 57 42 = l2
      rw [wl_other (by omega), wl_self]
    have e43 : (ax_wi (ax_wl (ax_wl μ 57 42 l2) 57 43 l4) 57 41 p1).2 57 43 = l4 := by
      show (ax_wl (ax_wl μ 57 42 l2) 57 43 l4).2 57 43 = l4
      exact wl_self
    generalize ax_wi (ax_wl (ax_wl μ 57 42 l2) 57 43 l4) 57 41 p1 = m3 at e1 e41 ej e42 e43 ⊢
    refine wp_lp1 (fun j (l : Int32) m => ∃ i : Nat, l.toInt = (i : Int) ∧ i ≤ k ∧ j = k - i ∧ m.2 = m3.2 ∧ (∀ a, a ≠ 82 → m.1 a = m3.1 a) ∧ ∀ x, x < i → (m.1 82 x).toInt = (r x : Nat)) ax_FU ?_ k (by unfold ax_FU; omega) ⟨0, rfl, by omega, rfl, rfl, fun _ _ => rfl, fun x hx => by omega⟩
    rintro j rc hrc l m ⟨i, hl, hi, hj, em, kx, hw⟩
    unfold fX9_tellsLoop_B149
    refine wp_if (fun c => wp_ret ⟨?_, fun a h1 h2 => by rw [kx a h2, e1 a h1], fun j hj => by rw [kx 57 (by omega), ej j hj]⟩) (fun c => ?_)
    · rw [t_le, hp, hl] at c
      have := bs_take hv hB l0 (fun i => (m.1 82 i).toInt) (fun x hx => hw x (by omega)) hc
      unfold RB
      rw [kx 57 (by omega), e41, hp, em, e42, e43, hd, hs]
      exact this
    · rw [t_le, hp, hl] at c
      have hi2 : i < k := by omega
      refine wp_rd i hl (by omega) (wp_wr i hl (by omega) (hrc (k - (i + 1)) _ _ (by omega) ⟨i + 1, inc hl (by omega), by omega, rfl, em, fun a ha => by rw [wi_ne ha]; exact kx a ha, fun x hx => ?_⟩))
      by_cases ex : x = i
      · rw [ex, wi_self, kx 80 (by omega), e1 80 (by omega)]; exact h80 i hi2
      · rw [wi_other ex]; exact hw x (by omega)
  unfold fX9_tellsLoop
  refine wp_lp3 (fun j (l2 l4 : Int64) (l6 : Int32) m => m = μ ∧ ∃ i : Nat, l6.toInt = (i : Int) ∧ i ≤ k ∧ j = k - i ∧ l2.toInt = DD ν i w ∧ l4.toInt = SS ν i w) ax_FU ?_ k (by unfold ax_FU; omega) ⟨rfl, 0, rfl, by omega, rfl, rfl, rfl⟩
  rintro j rc hrc l2 l4 l6 m ⟨rfl, i, hl, hi, hj, hl2, hl4⟩
  unfold fX9_tellsLoop_B8
  refine wp_if (fun c => ?_) (fun c => ?_)
  · rw [t_le, hp, hl] at c
    have eik : i = k := by omega
    subst eik
    have ev : ((l2 * (m.2 57 43)) - ((m.2 57 42) * l4)).toInt = DD ν i w * (m.2 57 43).toInt - (m.2 57 42).toInt * SS ν i w := by
      rw [t_sub64, t_mul64, t_mul64, hl2, hl4]
      omega
    unfold fX9_tellsLoop_K105 fX9_tellsLoop_K129
    refine wp_if (fun c2 => ?_) (fun c2 => ?_)
    · rw [if_neg (by decide), if_neg (by decide)]
      exact take l2 l4 hl2 hl4 (Or.inl (q0.mp c2))
    · have hl0 : ¬ (m.1 57 41).toInt = 0 := mt q0.mpr c2
      have hnn : (m.1 57 41).toInt = (((m.1 57 41).toInt.toNat : Nat) : Int) := by omega
      refine wp_if (fun c3 => ?_) (fun c3 => wp_if (fun c4 => ?_) (fun c4 => take l2 l4 hl2 hl4 (Or.inr ?_)))
      · rw [cmp_lt, ev, z0] at c3
        refine wp_ret ⟨?_, fun _ _ _ => rfl, fun _ _ => rfl⟩
        refine bs_leave hv hB l0 hl0 (fun m2 r2 q l hP e1 e2 e3 e4 => ?_)
        rw [e3, e4] at c3
        exact Or.inl (by omega)
      · rw [cmp_eq, ev, z0] at c4
        refine wp_bd (wp_mono (sX9_isFirst (k := i) (n := (m.1 57 41).toInt.toNat) (by omega) p1 hp hnn) ?_)
        rintro v7 m8 ⟨rfl, h7⟩
        have row : ∀ {M : Nat} {r2 : Nat → Nat}, M = i → (∀ x, x < M → (m8.1 82 x).toInt = (r2 x : Nat)) → ∀ x, x < i → (m8.1 80 x = m8.1 82 x ↔ r x = r2 x) := by
          intro M r2 eM hr2 x hx
          rw [t_eq, h80 x hx, hr2 x (by omega)]
          omega
        rcases h7 with ⟨h7, h8⟩ | ⟨h7, h8⟩
        · rw [if_neg (fun g => by have := q0.mp g; omega)]
          refine take l2 l4 hl2 hl4 (Or.inr (fun M r2 q l e1 e2 e3 e4 => ?_))
          rw [e3, e4] at c4
          refine Or.inr ⟨by omega, ?_⟩
          rcases h8 with h8 | ⟨h8, x, x1, x2, x3⟩
          · exact Or.inl (by omega)
          · have eM : M = i := by omega
            refine Or.inr ⟨eM.symm, Or.inr ⟨x, x1, fun y hy => (row eM e2 y (by omega)).mp (x2 y hy), ?_⟩⟩
            rw [h80 x x1, e2 x (by omega)] at x3
            omega
        · rw [if_pos (q0.mpr h7)]
          refine wp_ret ⟨?_, fun _ _ _ => rfl, fun _ _ => rfl⟩
          refine bs_leave hv hB l0 hl0 (fun M r2 q l hP e1 e2 e3 e4 => ?_)
          rw [e3, e4] at c4
          refine Or.inr ⟨by omega, ?_⟩
          rcases h8 with h8 | ⟨h8, h9⟩
          · exact Or.inl (by omega)
          · have eM : M = i := by omega
            refine Or.inr ⟨eM, ?_⟩
            rw [eM]
            rcases h9 with h9 | ⟨x, x1, x2, x3⟩
            · exact Or.inl (fun x hx => ((row eM e2 x hx).mp (h9 x hx)).symm)
            · refine Or.inr ⟨x, x1, fun y hy => ((row eM e2 y (by omega)).mp (x2 y hy)).symm, ?_⟩
              rw [h80 x x1, e2 x (by omega)] at x3
              omega
      · rw [cmp_lt, ev, z0] at c3
        rw [cmp_eq, ev, z0] at c4
        intro M r2 q l e1 e2 e3 e4
        rw [e3, e4] at c3 c4
        exact Or.inl (by omega)
  · rw [t_le, hp, hl] at c
    have hi2 : i < k := by omega
    have wi := (l0.2.1 i hi2).1
    obtain ⟨a1, a2, a3, a4, a5, a6⟩ := vd_path hv _ wi
    have e := h.2.2.2 _ wi
    have f1 := h.2.2.1 _ a2
    have e81 := h81 i hi2
    have e70 : (m.1 70 (w i)).toInt = (Fr ν (w i) : Nat) := by rw [e.1, a4]
    have c1 := hv.2.2.1 _ a2
    have p1' := hv.2.2.2.1 _ wi
    have h0 := hv.1
    have es : (m.1 74 67).toInt = ν 0 4 := h.1.2.2.2.2.1
    have db := dl_bd hv _ wi
    have sb := sh_bd hv _ wi
    have dd := dd_bd hv (m := i) (q := w) (fun x hx => (l0.2.1 x (by omega)).1) (by omega)
    have hs1 : ((m.1 68 (Fr ν (w i)) + m.1 74 (19 + w i)) + m.1 74 67).toInt = ν 6 (Fr ν (w i)) + ν 9 (w i) + ν 0 4 := by
      simp only [t_add, f1.2.2.2.2.1, e.2.2.1, es]
      omega
    refine wp_rd i hl (by omega) (wp_rd (w i) e81 (by omega) (wp_rd (Fr ν (w i)) e70 (by omega) (wp_rd (19 + w i) (by simp only [t_add, e81, Int32.reduceToInt]; omega) (by omega) (wp_rd 67 rfl (by omega) (wp_let (wp_rdf (sX9_shiftOf h hv _ (w i) e81 wi) (fun r19 e19 => wp_let (hrc (k - (i + 1)) _ _ _ _ (by omega) ⟨rfl, i + 1, inc hl (by omega), by omega, rfl, ?_, ?_⟩))))))))
    · have hD : DD ν (i + 1) w = DD ν i w + Dl ν (w i) := rfl
      rw [hD, t_add64, hl2, t_mul64, t_64, hs1, show Int64.toInt 64 = 64 from rfl]
      unfold Dl at db ⊢
      generalize ν 6 (Fr ν (w i)) + ν 9 (w i) + ν 0 4 = y at db ⊢
      omega
    · have hSd : SS ν (i + 1) w = SS ν i w + Sh ν (w i) := rfl
      rw [hSd, t_add64, hl4, t_64, e19]
      omega
theorem dec1 {l : Int32} {k : Nat} (h : l.toInt = (k : Int)) (h1 : 1 ≤ k) (h2 : k ≤ 1000) : (l + -1).toInt = ((k - 1 : Nat) : Int) := by
  rw [t_add, h, tm1]
  omega
theorem SK_lt {s m : Nat} {r : Nat → Nat} {t : Nat → Int} (h : SK ν s r t m) : m ≤ nC ν := by
  by_cases e : m ≤ nC ν
  · exact e
  · exfalso
    obtain ⟨i, j, hij, hj, he⟩ := pigeon (nC ν) r (fun i hi => (h.2.1 i (by omega)).1)
    have := h.2.2.1 i j (by omega) (by omega) he
    omega
theorem sX9_loopsFrom (h : RN μ ν) (hv : Vd ν) (p1 : Int32) (s : Nat) (hp : p1.toInt = (s : Int)) (hs : s < nC ν) (hf : Fb ν s = false) (hB : RB μ ν (fun _ ρ => ρ 0 < s)) : Wp (fX9_loopsFrom p1 μ) (fun _ m => RN m ν ∧ RB m ν (fun _ ρ => ρ 0 < s + 1)) := by
  have hn := vd_nums hv
  have hcc := vd_cast hv
  have z0 : Int32.toInt 0 = 0 := rfl
  unfold fX9_loopsFrom
  refine wp_let (wp_wr 0 rfl (by omega) (wp_wr 0 rfl (by omega) ?_))
  have hm3 : RN (ax_wi (ax_wi μ 80 0 p1) 81 0 (-1)) ν := RN_keep h (fun a h1 h2 => by rw [wi_ne (by omega), wi_ne (by omega)])
  have hB3 : RB (ax_wi (ax_wi μ 80 0 p1) 81 0 (-1)) ν (fun _ ρ => ρ 0 < s) := by
    unfold RB
    rw [wi_ne (show 57 ≠ 81 by omega), wi_ne (show 57 ≠ 80 by omega), wi_ne (show 82 ≠ 81 by omega), wi_ne (show 82 ≠ 80 by omega)]
    exact hB
  have e80 : ((ax_wi (ax_wi μ 80 0 p1) 81 0 (-1)).1 80 0).toInt = (s : Int) := by rw [wi_ne (by omega), wi_self]; exact hp
  have e81 : ((ax_wi (ax_wi μ 80 0 p1) 81 0 (-1)).1 81 0).toInt = -1 := by rw [wi_self]; rfl
  generalize ax_wi (ax_wi μ 80 0 p1) 81 0 (-1) = m3 at hm3 hB3 e80 e81 ⊢
  have hSK0 : SK ν s (fun _ => s) (fun _ => -1) 1 := ⟨rfl, fun i _ => ⟨hs, hf, Nat.le_refl _⟩, fun i j hi hj _ => by omega, fun i hi => by omega, fun i _ => ⟨Int.le_refl _, (by omega : (-1 : Int) < (nP ν : Int))⟩⟩
  have hP0 : RB m3 ν (Pd ν s (fun _ => s) (fun _ => -1) 1 (-1)) := bs_iff hB3 (fun M ρ q l => by
    rw [pd_q hv (by omega) l]
    unfold P3
    constructor
    · rintro (g | ⟨i, g1, -⟩ | ⟨g1, g2, g3⟩)
      · exact g
      · omega
      · omega
    · exact fun g => Or.inl g)
  refine wp_lp2 (fun n (l2 l3 : Int32) m => RN m ν ∧ ((l3.toInt = 0 ∧ n = 0 ∧ RB m ν (fun _ ρ => ρ 0 < s + 1)) ∨ ∃ (k S : Nat) (r : Nat → Nat) (t : Nat → Int), l3.toInt = (k : Int) ∧ 1 ≤ k ∧ SK ν s r t k ∧ n = ms ν r t k ∧ l2 = Int32.ofNat S ∧ S < 1024 ∧ (∀ x, x < 10 → (S.testBit x = true ↔ ∃ i, i < k ∧ r i = x)) ∧ (∀ i, i < k → (m.1 80 i).toInt = (r i : Nat)) ∧ (∀ i, i < k → (m.1 81 i).toInt = t i) ∧ RB m ν (Pd ν s r t k (t (k - 1))))) ax_FU ?_ (ms ν (fun _ => s) (fun _ => -1) 1) (Nat.lt_trans (ms_first hv (by omega) rfl) (by decide)) ⟨hm3, Or.inr ⟨1, 2 ^ s, fun _ => s, fun _ => -1, rfl, by omega, hSK0, rfl, by rw [i_nat hp, b_shl1 s (by omega)], by have : 2 ^ s ≤ 2 ^ 9 := Nat.pow_le_pow_right (by omega) (by omega); omega, fun x hx => by rw [Nat.testBit_two_pow, decide_eq_true_iff]; exact ⟨fun g => ⟨0, by omega, g⟩, fun ⟨_, _, g⟩ => g⟩, fun i hi => by rw [show i = 0 by omega]; exact e80, fun i hi => by rw [show i = 0 by omega]; exact e81, hP0⟩⟩
  rintro n rc hrc l2 l3 m ⟨hm, hst⟩
  unfold fX9_loopsFrom_B20
  rcases hst with ⟨h3, -, hBend⟩ | ⟨k, S, r, t, h3, hk, hSK, hnn, hl2, hS, hSb, m80, m81, hRB⟩
  · rw [if_pos (by rw [t_le, h3, z0]; omega)]
    exact wp_ret ⟨hm, hBend⟩
  · have hk10 := SK_lt hSK
    obtain ⟨s1, s2, s3, s4, s5⟩ := id hSK
    have hms : ∀ j, j < ms ν r t k → j < n := fun j hj => by rw [hnn]; exact hj
    clear hnn
    rw [if_neg (by rw [t_le, h3, z0]; omega)]
    have i1 : (l3 - 1).toInt = ((k - 1 : Nat) : Int) := by
      rw [t_sub, h3, show Int32.toInt 1 = 1 from rfl]; omega
    have top := s5 (k - 1) (by omega)
    have v4 := m80 (k - 1) (by omega)
    have v5 := m81 (k - 1) (by omega)
    have rtop := s2 (k - 1) (by omega)
    have v6 : (m.1 81 (k - 1) + 1).toInt = t (k - 1) + 1 := by
      rw [t_add, v5, show Int32.toInt 1 = 1 from rfl]; omega
    refine wp_rd (k - 1) i1 (by omega) (wp_rd (k - 1) i1 (by omega) (wp_let ?_))
    -- on with it, from a found path or the end
    have next : ∀ (p : Nat) (l5 : Int32), l5.toInt = (p : Int) → t (k - 1) < (p : Int) → (∀ x : Nat, t (k - 1) < (x : Int) → x < p → ¬ okp ν s r k x) → (p = nP ν ∨ okp ν s r k p) → Wp (fX9_loopsFrom_K124 p1 l2 l3 (m.1 80 (k - 1)) l5 rc m) (fun _ m => RN m ν ∧ RB m ν (fun _ ρ => ρ 0 < s + 1)) := by
      intro p l5 hl5 htp hno hpp
      unfold fX9_loopsFrom_K124 fX9_loopsFrom_K212
      refine wp_wr (k - 1) i1 (by omega) ?_
      have hm9 : RN (ax_wi m 81 (k - 1) l5) ν := RN_keep hm (fun a _ _ => wi_ne (by omega))
      have n80 : ∀ i, i < k → ((ax_wi m 81 (k - 1) l5).1 80 i).toInt = (r i : Nat) := fun i hi => by rw [wi_ne (by omega)]; exact m80 i hi
      have n81 : ∀ i, i < k → ((ax_wi m 81 (k - 1) l5).1 81 i).toInt = tu t (k - 1) (p : Int) i := fun i hi => by
        by_cases e : i = k - 1
        · rw [e, wi_self, tu_at]; exact hl5
        · rw [wi_other e, tu_ne e]; exact m81 i hi
      have hRB9 : RB (ax_wi m 81 (k - 1) l5) ν (Pd ν s r t k (t (k - 1))) := by
        unfold RB
        rw [wi_ne (show 57 ≠ 81 by omega), wi_ne (show 82 ≠ 81 by omega)]
        exact hRB
      generalize ax_wi m 81 (k - 1) l5 = m9 at hm9 n80 n81 hRB9 ⊢
      refine wp_rdf (sX9_paths hm9) (fun r10 e10 => wp_if (fun c1 => ?_) (fun c1 => wp_let ?_))
      · rw [t_lt, hl5, e10] at c1
        have hok : okp ν s r k p := by
          rcases hpp with g | g
          · omega
          · exact g
        obtain ⟨o1, o2, o3, o4, o5⟩ := id hok
        obtain ⟨a1, a2, a3, a4, a5, a6⟩ := vd_path hv p o1
        have e := hm9.2.2.2 p o1
        have e71 : (m9.1 71 p).toInt = (To ν p : Nat) := by rw [e.2.1, a5]
        refine wp_rd p hl5 (by omega) (wp_if (fun c2 => ?_) (fun c2 => ?_))
        · rw [t_eq, e71, hp] at c2
          have eto : To ν p = s := by omega
          have l0 : Lop ν k r (fun i => (tu t (k - 1) (p : Int) i).toNat) := by
            refine ⟨hk, fun i hi => ?_, s3⟩
            have si := s2 i hi
            by_cases ei : i = k - 1
            · have n0 : nx k i = 0 := by unfold nx; rw [if_pos (by omega)]
              have ev : (tu t (k - 1) (p : Int) i).toNat = p := by rw [ei, tu_at]; rfl
              simp only [n0, ev, s1]
              exact ⟨o1, by rw [o2, ei], eto, si.2.1, si.2.2⟩
            · have n1 : nx k i = i + 1 := by unfold nx; rw [if_neg (by omega)]
              obtain ⟨q, q1, q2, q3, q4⟩ := s4 i (by omega)
              have ev : (tu t (k - 1) (p : Int) i).toNat = q := by rw [tu_ne ei, q1]; rfl
              simp only [n1, ev, s1]
              exact ⟨q2, q3, q4, si.2.1, si.2.2⟩
          refine wp_bd (wp_mono (sX9_tellsLoop hm9 hv hRB9 l0 n80 (fun i hi => ?_) l3 h3) ?_)
          · rw [n81 i hi]
            have := l0.2.1 i hi
            by_cases ei : i = k - 1
            · rw [ei, tu_at]; rfl
            · obtain ⟨q, q1, q2, q3, q4⟩ := s4 i (by omega)
              rw [tu_ne ei, q1]; rfl
          · rintro _ m19 ⟨w1, w2, w3⟩
            refine hrc _ _ _ _ (hms _ (ms_tell hk o1 htp o2)) ⟨RN_keep hm9 (fun a h1 h2 => w2 a (by omega) (by omega)), Or.inr ⟨k, S, r, tu t (k - 1) (p : Int), h3, hk, ⟨s1, s2, s3, fun i hi => ?_, fun i hi => ?_⟩, rfl, hl2, hS, hSb, fun i hi => by rw [w2 80 (by omega) (by omega)]; exact n80 i hi, fun i hi => by rw [w2 81 (by omega) (by omega)]; exact n81 i hi, bs_iff w1 (fun M ρ q l => ?_)⟩⟩
            · rw [tu_ne (by omega)]; exact s4 i hi
            · by_cases ei : i = k - 1
              · rw [ei, tu_at]; omega
              · rw [tu_ne ei]; exact s5 i hi
            · rw [pd_q hv hk l, tu_at]
              unfold Pp
              rw [pd_q hv hk l]
              have e1 : P3 s r (tu t (k - 1) (p : Int)) k (p : Int) M ρ q ↔ P3 s r t k (p : Int) M ρ q := by
                unfold P3
                constructor
                · rintro (g | ⟨i, g1, g2, g3, g4⟩ | g)
                  · exact Or.inl g
                  · rw [tu_ne (by omega)] at g4
                    exact Or.inr (Or.inl ⟨i, g1, g2, g3, g4⟩)
                  · exact Or.inr (Or.inr g)
                · rintro (g | ⟨i, g1, g2, g3, g4⟩ | g)
                  · exact Or.inl g
                  · exact Or.inr (Or.inl ⟨i, g1, g2, g3, by rw [tu_ne (by omega)]; exact g4⟩)
                  · exact Or.inr (Or.inr g)
              rw [e1]
              exact p3_close hv l hk s1 hok eto htp hno
        · rw [t_eq, e71, hp] at c2
          have hnew : ¬ ∃ i, i < k ∧ r i = To ν p := by
            rcases o5 with g | g
            · omega
            · exact g
          have hto10 : To ν p < 10 := by omega
          have hk2 : k < 10 := by
            by_cases g : k < 10
            · exact g
            · exfalso
              obtain ⟨i, j, hij, hj, he⟩ := pigeon 10 (snoc r k (To ν p)) (fun i hi => by
                by_cases ei : i = k
                · rw [ei, snoc_at]; exact hto10
                · rw [snoc_ne ei]; have := (s2 i (by omega)).1; omega)
              by_cases ej : j = k
              · rw [ej, snoc_at, snoc_ne (by omega)] at he
                exact hnew ⟨i, by omega, he⟩
              · rw [snoc_ne ej, snoc_ne (by omega)] at he
                have := s3 i j (by omega) (by omega) he
                omega
          refine wp_rd p hl5 (by omega) (wp_wr k h3 (by omega) (wp_wr k h3 (by omega) ?_))
          have hm15 : RN (ax_wi (ax_wi m9 80 k (m9.1 71 p)) 81 k (-1)) ν := RN_keep hm9 (fun a h1 h2 => by rw [wi_ne (by omega), wi_ne (by omega)])
          have e71b : ((ax_wi (ax_wi m9 80 k (m9.1 71 p)) 81 k (-1)).1 71 p).toInt = (To ν p : Nat) := by rw [wi_ne (by omega), wi_ne (by omega)]; exact e71
          have o80 : ∀ i, i < k + 1 → ((ax_wi (ax_wi m9 80 k (m9.1 71 p)) 81 k (-1)).1 80 i).toInt = (snoc r k (To ν p) i : Nat) := fun i hi => by
            rw [wi_ne (by omega)]
            by_cases ei : i = k
            · rw [ei, wi_self, snoc_at]; exact e71
            · rw [wi_other ei, snoc_ne ei]; exact n80 i (by omega)
          have o81 : ∀ i, i < k + 1 → ((ax_wi (ax_wi m9 80 k (m9.1 71 p)) 81 k (-1)).1 81 i).toInt = tu (tu t (k - 1) (p : Int)) k (-1) i := fun i hi => by
            by_cases ei : i = k
            · rw [ei, wi_self, tu_at]; rfl
            · rw [wi_other ei, tu_ne ei, wi_ne (by omega)]; exact n81 i (by omega)
          have hRB15 : RB (ax_wi (ax_wi m9 80 k (m9.1 71 p)) 81 k (-1)) ν (Pd ν s r t k (t (k - 1))) := by
            unfold RB
            rw [wi_ne (show 57 ≠ 81 by omega), wi_ne (show 57 ≠ 80 by omega), wi_ne (show 82 ≠ 81 by omega), wi_ne (show 82 ≠ 80 by omega)]
            exact hRB9
          generalize ax_wi (ax_wi m9 80 k (m9.1 71 p)) 81 k (-1) = m15 at hm15 e71b o80 o81 hRB15 ⊢
          refine wp_rd p hl5 (by omega) (wp_let ?_)
          rw [hl2, i_nat e71b, b_or2 S hS _ hto10]
          have hS2 : S ||| 2 ^ To ν p < 1024 := Nat.or_lt_two_pow (n := 10) hS (Nat.pow_lt_pow_right (by omega) hto10)
          refine hrc _ _ _ _ (hms _ (ms_push hk o1 htp o2 hto10 hnew)) ⟨hm15, Or.inr ⟨k + 1, S ||| 2 ^ To ν p, snoc r k (To ν p), tu (tu t (k - 1) (p : Int)) k (-1), inc h3 (by omega), by omega, ⟨?_, fun i hi => ?_, fun i j hi hj he => ?_, fun i hi => ?_, fun i hi => ?_⟩, rfl, rfl, hS2, fun x hx => ?_, o80, o81, bs_iff hRB15 (fun M ρ q l => ?_)⟩⟩
          · rw [snoc_ne (by omega)]; exact s1
          · by_cases ei : i = k
            · rw [ei, snoc_at]; exact ⟨a3, o3, o4⟩
            · rw [snoc_ne ei]; exact s2 i (by omega)
          · by_cases ei : i = k
            · by_cases ej : j = k
              · omega
              · rw [ei, snoc_at, snoc_ne ej] at he
                exact absurd ⟨j, by omega, he.symm⟩ hnew
            · by_cases ej : j = k
              · rw [ej, snoc_at, snoc_ne ei] at he
                exact absurd ⟨i, by omega, he⟩ hnew
              · rw [snoc_ne ei, snoc_ne ej] at he
                exact s3 i j (by omega) (by omega) he
          · by_cases ei : i = k - 1
            · refine ⟨p, by rw [tu_ne (by omega), ei, tu_at], o1, by rw [snoc_ne (by omega), ei]; exact o2, ?_⟩
              rw [ei, show k - 1 + 1 = k by omega, snoc_at]
            · obtain ⟨q, q1, q2, q3, q4⟩ := s4 i (by omega)
              exact ⟨q, by rw [tu_ne (by omega), tu_ne ei]; exact q1, q2, by rw [snoc_ne (by omega)]; exact q3, by rw [snoc_ne (by omega)]; exact q4⟩
          · by_cases ei : i = k
            · rw [ei, tu_at]; omega
            · rw [tu_ne ei]
              by_cases ej : i = k - 1
              · rw [ej, tu_at]; omega
              · rw [tu_ne ej]; exact s5 i (by omega)
          · rw [Nat.testBit_or, Bool.or_eq_true, hSb x hx, Nat.testBit_two_pow, decide_eq_true_iff]
            constructor
            · rintro (⟨i, g1, g2⟩ | g)
              · exact ⟨i, by omega, by rw [snoc_ne (by omega)]; exact g2⟩
              · exact ⟨k, by omega, by rw [snoc_at]; exact g⟩
            · rintro ⟨i, g1, g2⟩
              by_cases ei : i = k
              · rw [ei, snoc_at] at g2; exact Or.inr g2
              · rw [snoc_ne ei] at g2; exact Or.inl ⟨i, by omega, g2⟩
          · rw [pd_q hv (by omega) l, pd_q hv hk l, Nat.add_sub_cancel, tu_at]
            exact p3_push l hk s1 htp hno
      · rw [t_lt, hl5, e10] at c1
        have hall : ∀ x : Nat, t (k - 1) < (x : Int) → ¬ okp ν s r k x := fun x hx hok => hno x hx (by have := hok.1; omega) hok
        have e4 : Int32.ofNat (r (k - 1)) = m.1 80 (k - 1) := (i_nat v4).symm
        rw [hl2, ← e4, b_shl1 (r (k - 1)) (by omega), andnot_dif hS]
        by_cases ek : k = 1
        · subst ek
          refine hrc 0 _ _ _ (hms 0 (Nat.add_pos_right _ (Nat.succ_pos _))) ⟨hm9, Or.inl ⟨dec1 h3 (by omega) (by omega), rfl, bs_iff hRB9 (fun M ρ q l => ?_)⟩⟩
          rw [pd_q hv (by omega) l]
          exact (p3_pop0 l s1 hall).symm
        · obtain ⟨k2, rfl⟩ : ∃ k2, k = k2 + 1 := ⟨k - 1, by omega⟩
          have hk2 : 1 ≤ k2 := by omega
          refine hrc (ms ν r t k2) _ _ _ (hms _ (Nat.lt_add_of_pos_right (Nat.succ_pos _))) ⟨hm9, Or.inr ⟨k2, dif S (2 ^ r k2), r, t, dec1 h3 (by omega) (by omega), hk2, ⟨s1, fun i hi => s2 i (by omega), fun i j hi hj => s3 i j (by omega) (by omega), fun i hi => s4 i (by omega), fun i hi => s5 i (by omega)⟩, rfl, rfl, dif_lt _ _, fun x hx => ?_, fun i hi => n80 i (by omega), fun i hi => ?_, bs_iff hRB9 (fun M ρ q l => ?_)⟩⟩
          · rw [dif_bit hS, Bool.and_eq_true, hSb x hx, Nat.testBit_two_pow]
            constructor
            · rintro ⟨⟨i, g1, g2⟩, g3⟩
              refine ⟨i, ?_, g2⟩
              by_cases ei : i = k2
              · rw [ei] at g2; simp [g2] at g3
              · omega
            · rintro ⟨i, g1, g2⟩
              refine ⟨⟨i, by omega, g2⟩, ?_⟩
              have : r k2 ≠ x := fun g => by
                have := s3 i k2 (by omega) (by omega) (g2.trans g.symm)
                omega
              simp [this]
          · have := n81 i (by omega)
            rw [tu_ne (by omega)] at this
            exact this
          · rw [pd_q hv hk2 l, pd_q hv (by omega) l]
            exact (p3_pop hv l hk2 hSK hall).symm
    -- the next path
    refine wp_lp1 (fun j (l5 : Int32) m2 => m2 = m ∧ ∃ p : Nat, l5.toInt = (p : Int) ∧ t (k - 1) < (p : Int) ∧ p ≤ nP ν ∧ j = nP ν - p ∧ ∀ x : Nat, t (k - 1) < (x : Int) → x < p → ¬ okp ν s r k x) ax_FU ?_ (nP ν - (t (k - 1) + 1).toNat) (by unfold ax_FU; omega) ⟨rfl, (t (k - 1) + 1).toNat, by rw [v6]; omega, by omega, ?_, rfl, fun x h1 h2 => by omega⟩
    · rintro j rc2 hrc2 l5 m2 ⟨rfl, p, hl5, htp, hpn, hj, hno⟩
      unfold fX9_loopsFrom_B46 fX9_loopsFrom_K118
      refine wp_rdf (sX9_paths hm) (fun r7 e7 => wp_if (fun c1 => ?_) (fun c1 => ?_))
      · rw [t_le, e7, hl5] at c1
        exact next p l5 hl5 htp hno (Or.inl (by omega))
      · rw [t_le, e7, hl5] at c1
        have hp2 : p < nP ν := by omega
        obtain ⟨a1, a2, a3, a4, a5, a6⟩ := vd_path hv p hp2
        have e := hm.2.2.2 p hp2
        have e70 : (m2.1 70 p).toInt = (Fr ν p : Nat) := by rw [e.1, a4]
        have e71 : (m2.1 71 p).toInt = (To ν p : Nat) := by rw [e.2.1, a5]
        have skip : ¬ okp ν s r k p → Wp (rc2 (l5 + 1) m2) (fun _ m => RN m ν ∧ RB m ν (fun _ ρ => ρ 0 < s + 1)) := fun g => hrc2 (nP ν - (p + 1)) _ _ (by omega) ⟨rfl, p + 1, inc hl5 (by omega), by omega, by omega, rfl, fun x h1 h2 => by
          by_cases ex : x = p
          · rw [ex]; exact g
          · exact hno x h1 (by omega)⟩
        refine wp_rd p hl5 (by omega) (wp_if (fun c2 => wp_rd p hl5 (by omega) (wp_rdf (sX9_isFlop hm hv _ (To ν p) e71 a3) (fun r25 e25 => wp_if (fun c3 => wp_rd p hl5 (by omega) (wp_if (fun c4 => skip ?_) (fun c4 => wp_rd p hl5 (by omega) (wp_if (fun c5 => next p l5 hl5 htp hno (Or.inr ?_)) (fun c5 => wp_rd p hl5 (by omega) (wp_if (fun c6 => skip ?_) (fun c6 => next p l5 hl5 htp hno (Or.inr ?_)))))))) (fun c3 => skip ?_)))) (fun c2 => skip ?_))
        · rw [t_lt, e71, hp] at c4
          exact fun g => by have := g.2.2.2.1; omega
        · rw [t_eq, e70, v4] at c2
          rw [t_lt, e71, hp] at c4
          rw [t_eq, e71, hp] at c5
          have f := not_of e25 c3
          exact ⟨hp2, by omega, by simpa using f, by omega, Or.inl (by omega)⟩
        · rw [t_eq, e71, hp] at c5
          rw [hl2, i_nat e71, b_one S hS _ (by omega), hSb _ (by omega)] at c6
          exact fun g => by
            rcases g.2.2.2.2 with g5 | g5
            · omega
            · exact g5 c6
        · rw [t_eq, e70, v4] at c2
          rw [t_lt, e71, hp] at c4
          rw [hl2, i_nat e71, b_one S hS _ (by omega), hSb _ (by omega)] at c6
          have f := not_of e25 c3
          exact ⟨hp2, by omega, by simpa using f, by omega, Or.inr c6⟩
        · have f := yes_of e25 c3
          exact fun g => by have := g.2.2.1; rw [f] at this; cases this
        · rw [t_eq, e70, v4] at c2
          exact fun g => by have := g.2.1; omega
    · omega
end LRF
