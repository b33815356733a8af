/-! the class's best move -/
def Cls (ν : Nv) (c : Nat) (T r : Int) : Prop := r = 0 ∨ (0 < r ∧ ∀ n, Gn ν c T n → r ≤ n) ∨ (r < 0 ∧ ∀ n, Gn ν c T n → n ≤ r)
def MvA (ν : Nv) (c : Nat) (r : Int) : Prop := (r = -2000 ∧ ∀ T : Int, 1 ≤ T → T ≤ 9999 → ∀ n, ¬ Gn ν c T n) ∨ ∃ z : Int, 1 ≤ z ∧ z ≤ 9999 ∧ Gn ν c z r ∧ Cls ν c z r ∧ ∀ T : Int, 1 ≤ T → T < z → ∀ n, ¬ Gn ν c T n
section BMV
variable {μ : ax_M} {ν : Nv}
theorem gn_up (hv : Vd ν) {c : Nat} {T T2 n : Int} (h : T ≤ T2) (hg : Gn ν c T n) : Gn ν c T2 n := ⟨hg.1, hg.2.1, hg.2.2.1, gd_up (vd_mv hv hg.2.2.1) h hg.2.2.2⟩
theorem cls_unique {c : Nat} {T r s : Int} (h1 : Gn ν c T r) (h2 : Gn ν c T s) (c1 : Cls ν c T r) (c2 : Cls ν c T s) : r = s := by
  rcases c1 with a | ⟨a, b⟩ | ⟨a, b⟩ <;> rcases c2 with d | ⟨d, e⟩ | ⟨d, e⟩
  · omega
  · have := e r h1; omega
  · have := e r h1; omega
  · have := b s h2; omega
  · have := b s h2; have := e r h1; omega
  · have := b s h2; omega
  · have := b s h2; omega
  · have := b s h2; omega
  · have := b s h2; have := e r h1; omega
theorem mvA_unique {c : Nat} {r s : Int} (h : MvA ν c r) (h2 : MvA ν c s) : r = s := by
  rcases h with ⟨a1, a2⟩ | ⟨z, a1, a2, a3, a4, a5⟩ <;> rcases h2 with ⟨b1, b2⟩ | ⟨y, b1, b2, b3, b4, b5⟩
  · omega
  · exact absurd b3 (a2 y b1 b2 s)
  · exact absurd a3 (b2 z a1 a2 r)
  · have e : z = y := by
      by_cases h1 : z < y
      · exact absurd a3 (b5 z a1 h1 r)
      · by_cases h2 : y < z
        · exact absurd b3 (a5 y b1 h2 s)
        · omega
    subst e
    exact cls_unique a3 b3 a4 b4
theorem sX4_bestMoving (h : CN μ ν) (hv : Vd ν) (p1 : Int32) (c : Nat) (hp1 : p1.toInt = (c : Nat)) : Wp (fX4_bestMoving p1 μ) (fun r m => MvA ν c r.toInt ∧ CN m ν) := by
  unfold fX4_bestMoving fX4_bestMoving_K25
  refine wp_bd (wp_mono (sX4_moveNearZero h hv p1 9999 c hp1 (by decide) (by decide)) ?_)
  rintro r1 m2 ⟨hr1, hm2⟩
  have hr1 : NearA ν c 9999 r1.toInt := hr1
  have run : ∀ s0 : Int32, (r1.toInt = -2000 ∧ s0.toInt = 0 ∧ ∀ n, ¬ Gn ν c 9999 n) ∨ (s0.toInt = 9998 ∧ Gn ν c 9999 r1.toInt ∧ Cls ν c 9999 r1.toInt) → Wp (ax_lp4 (fX4_bestMoving_B30 p1) ax_FU r1 1 s0 0 m2) (fun r m => MvA ν c r.toInt ∧ CN m ν) := by
    intro s0 hs0
    refine wp_lp4 (fun k (l2 l3 l4 l5 : Int32) m => ∃ i : Nat, l5.toInt = (i : Int) ∧ i ≤ 32 ∧ k = 32 - i ∧ CN m ν ∧ 1 ≤ l3.toInt ∧ 0 ≤ l4.toInt ∧ l3.toInt ≤ l4.toInt + 1 ∧ l4.toInt ≤ 9998 ∧ (l4.toInt - l3.toInt + 1).toNat < 2 ^ (14 - i) ∧ (∀ T : Int, 1 ≤ T → T < l3.toInt → ∀ n, ¬ Gn ν c T n) ∧ ((l2.toInt = -2000 ∧ l4.toInt = 0 ∧ ∀ n, ¬ Gn ν c 9999 n) ∨ (Gn ν c (l4.toInt + 1) l2.toInt ∧ Cls ν c (l4.toInt + 1) l2.toInt))) ax_FU ?_ 32 (by unfold ax_FU; omega) ⟨0, rfl, by omega, rfl, hm2, by decide, ?_, ?_, ?_, ?_, fun T h1 h2 => by have : Int32.toInt 1 = 1 := rfl; omega, ?_⟩
    · rintro k rc hrc l2 l3 l4 l5 m ⟨i, hl5, hi, hk, hm, b1, b2, b3, b4, b5, hno, hst⟩
      unfold fX4_bestMoving_B30 fX4_bestMoving_K91 fX4_bestMoving_K85
      have done : l4.toInt < l3.toInt → MvA ν c l2.toInt := by
        intro hd
        rcases hst with ⟨s1, s2, s3⟩ | ⟨s1, s2⟩
        · exact Or.inl ⟨s1, fun T h1 h2 n hn => s3 n (gn_up hv h2 hn)⟩
        · exact Or.inr ⟨l4.toInt + 1, by omega, by omega, s1, s2, fun T h1 h2 => hno T h1 (by omega)⟩
      refine wp_if (fun c1 => wp_ret ⟨done ?_, hm⟩) (fun c1 => wp_if (fun c2 => wp_ret ⟨done (t_lt.mp c2), hm⟩) (fun c2 => ?_))
      · rw [t_le, hl5] at c1
        simp only [Int32.reduceToInt] at c1
        have hi2 : i = 32 := by omega
        subst hi2
        rw [show 14 - 32 = 0 from rfl, Nat.pow_zero] at b5
        omega
      · rw [t_le, hl5] at c1
        rw [t_lt] at c2
        simp only [Int32.reduceToInt] at c1
        have hs : (l3 + l4).toInt = l3.toInt + l4.toInt := by rw [t_add]; omega
        have hd := dv2 (x := l3 + l4) (by omega)
        rw [hs] at hd
        rw [hd.1]
        have hl6 : (l5 + 1).toInt = ((i + 1 : Nat) : Int) := by simp only [t_add, hl5, Int32.reduceToInt]; omega
        have hlt : 32 - (i + 1) < k := by omega
        have hi14 : i < 14 := by
          by_cases e : i < 14
          · exact e
          · rw [show 14 - i = 0 by omega, Nat.pow_zero] at b5
            omega
        have half : ∀ s : Int, 2 * s ≤ l4.toInt - l3.toInt + 1 → s.toNat < 2 ^ (14 - (i + 1)) := by
          intro s hs2
          rw [show 14 - i = 14 - (i + 1) + 1 by omega, Nat.pow_succ] at b5
          omega
        refine wp_some (wp_bd (wp_mono (sX4_moveNearZero hm hv p1 ((l3 + l4) / 2) c hp1 (by omega) (by omega)) ?_))
        rintro r4 m5 ⟨hr4, hm5⟩
        rw [hd.2] at hr4
        have hs1 : ((l3 + l4) / 2 + 1).toInt = (l3.toInt + l4.toInt) / 2 + 1 := by rw [t_add, hd.2]; simp only [Int32.reduceToInt]; omega
        have hs2 : ((l3 + l4) / 2 - 1).toInt = (l3.toInt + l4.toInt) / 2 - 1 := by rw [t_sub, hd.2]; simp only [Int32.reduceToInt]; omega
        refine wp_if (fun c3 => wp_let ?_) (fun c3 => wp_let ?_)
        · rw [t_eq] at c3
          have c3 : r4.toInt = -2000 := c3
          have hn : ∀ n, ¬ Gn ν c ((l3.toInt + l4.toInt) / 2) n := by
            rcases hr4 with ⟨-, a⟩ | ⟨a, -⟩
            · exact a
            · have := a.1; omega
          refine hrc _ _ _ _ _ _ hlt ⟨i + 1, hl6, by omega, rfl, hm5, by omega, b2, by omega, b4, half _ (by omega), fun T h1 h2 n hn2 => hn n (gn_up hv (by omega) hn2), hst⟩
        · rw [t_eq] at c3
          have c3 : ¬ r4.toInt = -2000 := c3
          refine hrc _ _ _ _ _ _ hlt ⟨i + 1, hl6, by omega, rfl, hm5, b1, by omega, by omega, by omega, half _ (by omega), hno, Or.inr ?_⟩
          rw [hs2, show (l3.toInt + l4.toInt) / 2 - 1 + 1 = (l3.toInt + l4.toInt) / 2 by omega]
          rcases hr4 with ⟨a, -⟩ | ⟨a, b⟩
          · exact absurd a c3
          · exact ⟨a, b⟩
    · rcases hs0 with ⟨-, a, -⟩ | ⟨a, -⟩ <;> omega
    · have : Int32.toInt 1 = 1 := rfl
      rcases hs0 with ⟨-, a, -⟩ | ⟨a, -⟩ <;> omega
    · rcases hs0 with ⟨-, a, -⟩ | ⟨a, -⟩ <;> omega
    · have : Int32.toInt 1 = 1 := rfl
      rw [show 2 ^ (14 - 0) = 16384 from rfl]
      rcases hs0 with ⟨-, a, -⟩ | ⟨a, -⟩ <;> omega
    · rcases hs0 with ⟨a, b, d⟩ | ⟨a, b, d⟩
      · exact Or.inl ⟨a, b, d⟩
      · rw [a]; exact Or.inr ⟨b, d⟩
  refine wp_if (fun c1 => run 0 (Or.inl ⟨t_eq.mp c1, rfl, ?_⟩)) (fun c1 => run 9998 (Or.inr ⟨rfl, ?_⟩))
  · rcases hr1 with ⟨-, a⟩ | ⟨a, -⟩
    · exact a
    · have c1 : r1.toInt = -2000 := t_eq.mp c1
      have := a.1
      omega
  · rcases hr1 with ⟨a, -⟩ | ⟨a, b⟩
    · exact absurd (t_eq.mpr a) c1
    · exact ⟨a, b⟩
end BMV
