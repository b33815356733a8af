/-! the class's search for the move nearest to 0 -/
def Gn (ν : Nv) (c : Nat) (T n : Int) : Prop := -999 ≤ n ∧ n ≤ 999 ∧ Cmv ν c n ∧ gd (mv ν c n) T = true
def NearA (ν : Nv) (c : Nat) (T r : Int) : Prop := (r = -2000 ∧ ∀ n, ¬ Gn ν c T n) ∨ (Gn ν c T r ∧ (r = 0 ∨ (0 < r ∧ ∀ n, Gn ν c T n → r ≤ n) ∨ (r < 0 ∧ ∀ n, Gn ν c T n → n ≤ r)))
section MNZ
variable {μ : ax_M} {ν : Nv}
theorem sX4_moveNearZero (h : CN μ ν) (hv : Vd ν) (p1 t : Int32) (c : Nat) (hp1 : p1.toInt = (c : Nat)) (h0t : 0 ≤ t.toInt) (h1t : t.toInt ≤ 9999) : Wp (fX4_moveNearZero p1 t μ) (fun r m => NearA ν c t.toInt r.toInt ∧ CN m ν) := by
  unfold fX4_moveNearZero
  refine wp_bd (wp_mono (sX1_leastMove h hv p1 c hp1) ?_)
  rintro lo m2 ⟨rfl, lo1, lo2, hlo⟩
  refine wp_bd (wp_mono (sX1_greatestMove h hv p1 c hp1) ?_)
  rintro hi m4 ⟨rfl, hi1, hi2, hhi⟩
  have hin : ∀ n, (lo.toInt ≤ n ∧ n ≤ hi.toInt) ↔ (-999 ≤ n ∧ n ≤ 999 ∧ Cmv ν c n) := by
    intro n
    rw [hlo n, hhi n, cmv_iff hv]
    constructor
    · rintro ⟨⟨a, b⟩, d, e⟩
      exact ⟨a, d, fun p hp => ⟨b p hp, e p hp⟩⟩
    · rintro ⟨a, d, b⟩
      exact ⟨⟨a, fun p hp => (b p hp).1⟩, d, fun p hp => (b p hp).2⟩
  refine wp_lp3 (fun k (l3 l4 l5 : Int32) m => ∃ i : Nat, l5.toInt = (i : Int) ∧ i ≤ 1999 ∧ k = 1999 - i ∧ CN m ν ∧ lo.toInt ≤ l3.toInt ∧ l4.toInt ≤ hi.toInt ∧ l3.toInt ≤ 100000000 ∧ -100000000 ≤ l4.toInt ∧ l4.toInt - l3.toInt ≤ 1998 - i ∧ ∀ n, Gn ν c t.toInt n → l3.toInt ≤ n ∧ n ≤ l4.toInt) ax_FU ?_ 1999 (by unfold ax_FU; omega) ⟨0, rfl, by omega, rfl, h, by omega, by omega, by omega, by omega, by omega, fun n hn => (hin n).mpr ⟨hn.1, hn.2.1, hn.2.2.1⟩⟩
  rintro k rc hrc l3 l4 l5 m ⟨i, hl5, hi5, hk, hm, b1, b2, b3, b4, b5, hG⟩
  unfold fX4_moveNearZero_B22 fX4_moveNearZero_K159 fX4_moveNearZero_K153
  refine wp_if (fun c1 => wp_ret ⟨Or.inl ⟨rfl, fun n hn => ?_⟩, hm⟩) (fun c1 => wp_if (fun c2 => wp_ret ⟨Or.inl ⟨rfl, fun n hn => ?_⟩, hm⟩) (fun c2 => wp_let ?_))
  · rw [t_lt, hl5] at c1
    simp only [Int32.reduceToInt] at c1
    have := hG n hn
    omega
  · rw [t_lt] at c2
    have := hG n hn
    omega
  · rw [t_lt, hl5] at c1
    rw [t_lt] at c2
    simp only [Int32.reduceToInt] at c1
    have hmn := mn_toInt (ax_mx 0 l3) l4
    have hmx := mx_toInt 0 l3
    rw [hmx, show Int32.toInt 0 = 0 from rfl] at hmn
    generalize ax_mn (ax_mx 0 l3) l4 = v at hmn
    have hv1 : l3.toInt ≤ v.toInt ∧ v.toInt ≤ l4.toInt ∧ (v.toInt = 0 ∨ (0 < v.toInt ∧ v.toInt = l3.toInt) ∨ (v.toInt < 0 ∧ v.toInt = l4.toInt)) := by
      clear hmx
      split at hmn <;> first | omega | (split at hmn <;> omega)
    have hcm := (hin v.toInt).mp ⟨by omega, by omega⟩
    have hvm : Vd (mv ν c v.toInt) := vd_mv hv hcm.2.2
    have hneg : (-v).toInt = -v.toInt := by rw [t_neg]; omega
    refine wp_bd (wp_mono (sX1_moveWork hm hv (fun p hp => by have := hv.2.2.2.1 p hp; omega) p1 v c hp1 (by omega) (by omega)) ?_)
    rintro _ m7 hm7
    refine wp_bd (wp_mono (sX6_load hm7 hvm) ?_)
    rintro _ m9 ⟨hm9, ht9⟩
    refine wp_bd (wp_mono (sX6_holdsK hm9 hvm ht9 t h0t h1t) ?_)
    rintro r10 m11 ⟨hm11, -, -, hr10, -⟩
    refine wp_bd (wp_mono (wp_keep (sX1_moveWork hm11 hvm (fun p hp => by have := hvm.2.2.2.1 p hp; omega) p1 (-v) c hp1 (by omega) (by omega)) (kf_X1_moveWork p1 (-v) m11)) ?_)
    rintro _ m13 ⟨hm13, hk13⟩
    rw [hneg, mv_back] at hm13
    rcases hr10 with ⟨hr, hg⟩ | ⟨hr, hg, hck⟩
    · rw [if_neg (by rw [t_eq, hr]; decide)]
      refine wp_ret ⟨Or.inr ⟨⟨hcm.1, hcm.2.1, hcm.2.2, hg⟩, ?_⟩, hm13⟩
      rcases hv1.2.2 with q | ⟨q1, q2⟩ | ⟨q1, q2⟩
      · exact Or.inl q
      · exact Or.inr (Or.inl ⟨q1, fun n hn => by have := hG n hn; omega⟩)
      · exact Or.inr (Or.inr ⟨q1, fun n hn => by have := hG n hn; omega⟩)
    · rw [if_pos (t_eq.mpr hr)]
      obtain ⟨n, q, g1, g2, g3, g4, g5⟩ := hck
      have k49 : m13.1 49 = m11.1 49 := (hk13 49 (by decide)).1
      have k56 : m13.1 56 = m11.1 56 := (hk13 56 (by decide)).1
      rw [← k49] at g1 g4 g5
      rw [← k56] at g3
      have hw := cut_w hvm g4
      have hN := hw.2.2 g2
      have hrow : ∀ i, i < n → q i < nP ν := g4.1.1
      have hs := sh_sum hv (q := q) (n := n) hrow g2
      have g5 : t.toInt * ((m13.1 49 10).toInt + sm (fun i => Sh ν (q i)) n) < (m13.1 49 9).toInt := g5
      have p1' : 0 ≤ t.toInt * ((m13.1 49 10).toInt + sm (fun i => Sh ν (q i)) n) := Int.mul_nonneg h0t (by omega)
      have valid : ∀ x, Gn ν c t.toInt x → (m13.1 49 9).toInt + 64 * (x - v.toInt) * sl ν c n q ≤ t.toInt * ((m13.1 49 10).toInt + sm (fun i => Sh ν (q i)) n) := fun x hx => cut_ok (vd_mv hv hx.2.2.1) (cut_mv c v.toInt x g4) hx.2.2.2
      have hby : Rd (fX6_beyond t m13) m13 ((m13.1 49 9).toInt - t.toInt * ((m13.1 49 10).toInt + sm (fun i => Sh ν (q i)) n)) := by
        unfold fX6_beyond
        refine rd_wp (wp_rdf (sX6_cutSpan hm13 hv g1 g2 g3 hrow ⟨hw.1, hw.2.1⟩) (fun r e => wp_ret ⟨?_, rfl⟩))
        simp only [t_sub, t_mul, e]
        omega
      refine wp_rdf (sX6_cutSlope hm13 hv g1 g2 g3 hrow p1 c hp1) (fun v14 e14 => wp_rdf hby (fun v16 e16 => wp_rdf (sX8_roundedUp v16 64 (by rw [e16]; omega)) (fun v18 e18 => wp_let ?_)))
      rw [show (if Int32.toInt 64 < 1 then (1 : Int) else Int32.toInt 64) = 64 from rfl] at e18
      have hmx2 := mx_toInt 1 v18
      rw [show Int32.toInt 1 = 1 from rfl] at hmx2
      have c18 : v18.toInt ≤ 1000000 := by rw [e18, cdiv_le (by omega)]; omega
      generalize ax_mx 1 v18 = w at hmx2
      have hwb : 1 ≤ w.toInt ∧ w.toInt ≤ 1000000 := by rw [hmx2]; split <;> omega
      have hstep : ∀ d : Int, 1 ≤ d → v16.toInt ≤ 64 * d → w.toInt ≤ d := by
        intro d d1 d2
        have : v18.toInt ≤ d := by rw [e18, cdiv_le (by omega)]; omega
        rw [hmx2]
        split <;> omega
      have hl6 : (l5 + 1).toInt = ((i + 1 : Nat) : Int) := by simp only [t_add, hl5, Int32.reduceToInt]; omega
      have hlt : 1999 - (i + 1) < k := by omega
      refine wp_if (fun c3 => wp_ret ⟨Or.inl ⟨rfl, fun x hx => ?_⟩, hm13⟩) (fun c3 => wp_if (fun c4 => wp_let ?_) (fun c4 => wp_let ?_))
      · rw [t_eq, e14] at c3
        have c3 : sl ν c n q = 0 := c3
        have := valid x hx
        rw [c3, Int.mul_zero] at this
        omega
      · rw [t_eq, e14] at c3
        rw [t_le, e14] at c4
        simp only [Int32.reduceToInt] at c3 c4
        have hs1 : sl ν c n q = -1 := by
          rcases sl_bd (ν := ν) c n q with a | a | a
          · exact absurd a c3
          · omega
          · exact a
        have hadd : (v + w).toInt = v.toInt + w.toInt := by rw [t_add]; omega
        refine hrc _ _ _ _ _ hlt ⟨i + 1, hl6, by omega, rfl, hm13, by omega, b2, by omega, b4, by omega, fun x hx => ?_⟩
        have a := valid x hx
        rw [hs1] at a
        have := hstep (x - v.toInt) (by omega) (by omega)
        have := hG x hx
        omega
      · rw [t_eq, e14] at c3
        rw [t_le, e14] at c4
        simp only [Int32.reduceToInt] at c3 c4
        have hs1 : sl ν c n q = 1 := by
          rcases sl_bd (ν := ν) c n q with a | a | a
          · exact absurd a c3
          · exact a
          · omega
        have hsub : (v - w).toInt = v.toInt - w.toInt := by rw [t_sub]; omega
        refine hrc _ _ _ _ _ hlt ⟨i + 1, hl6, by omega, rfl, hm13, b1, by omega, b3, by omega, by omega, fun x hx => ?_⟩
        have a := valid x hx
        rw [hs1] at a
        have := hstep (v.toInt - x) (by omega) (by omega)
        have := hG x hx
        omega
end MNZ
