/-! slower, gain -/
section SLW
variable {μ : ax_M} {ν : Nv} {T : Int}
theorem vd_nums (hv : Vd ν) : nH ν ≤ 4 ∧ nC ν ≤ 10 ∧ nP ν ≤ 24 := by
  have h0 := hv.1
  unfold nH nC nP
  omega
theorem CN_most (h : CN μ ν) (k : Nat) (v : Int32) : CN (ax_wi μ 13 k v) (up ν 9 k v.toInt) := by
  obtain ⟨a, hb, hc, hd, he⟩ := h
  refine ⟨?_, fun i hi => ?_, fun c hc2 => ?_, fun p hp => ?_, ?_⟩
  · rw [wi_ne (by omega)]; exact a
  · rw [wi_ne (by omega), wi_ne (by omega), wi_ne (by omega)]; exact hb i hi
  · rw [wi_ne (by omega), wi_ne (by omega), wi_ne (by omega), wi_ne (by omega), wi_ne (by omega)]; exact hc c hc2
  · rw [wi_ne (show 11 ≠ 13 by omega), wi_ne (show 12 ≠ 13 by omega), wi_ne (show 14 ≠ 13 by omega)]
    have := hd p hp
    refine ⟨this.1, this.2.1, ?_, this.2.2.2⟩
    by_cases e : p = k
    · rw [e, wi_self, up_at]
    · rw [wi_other e, up_ni e]; exact this.2.2.1
  · rw [wi_ne (by omega)]; exact he
theorem RN_most (h : RN μ ν) (hv : Vd ν) (k : Nat) (hk : k < nP ν) (v : Int32) : RN (ax_wi μ 74 (19 + k) v) (up ν 9 k v.toInt) := by
  have hn := vd_nums hv
  obtain ⟨⟨a1, a2, a3, a4, a5, a6⟩, hb, hc, hd⟩ := h
  refine ⟨⟨?_, ?_, ?_, ?_, ?_, ?_⟩, fun i hi => ?_, fun c hc2 => ?_, fun p hp => ?_⟩
  · rw [wi_ne (by omega)]; exact a1
  · rw [wi_ne (by omega)]; exact a2
  · rw [wi_ne (by omega)]; exact a3
  · rw [wi_other (by omega)]; exact a4
  · rw [wi_other (by omega)]; exact a5
  · rw [wi_ne (by omega)]; exact a6
  · have hi : i < nH ν := hi
    rw [wi_ne (by omega), wi_other (by omega), wi_other (by omega)]; exact hb i hi
  · have hc2 : c < nC ν := hc2
    rw [wi_ne (by omega), wi_ne (by omega), wi_ne (by omega), wi_ne (by omega), wi_ne (by omega), wi_other (by omega)]; exact hc c hc2
  · have hp : p < nP ν := hp
    have := hd p hp
    rw [wi_ne (by omega), wi_ne (by omega), wi_other (show 43 + p ≠ 19 + k by omega)]
    refine ⟨this.1, this.2.1, ?_, this.2.2.2⟩
    by_cases e : p = k
    · rw [e, wi_self, up_at]
    · rw [wi_other (by omega), up_ni e]; exact this.2.2.1
theorem vd_most (hv : Vd ν) (k : Nat) (z : Int) (h1 : ν 10 k ≤ z) (h2 : z ≤ 999) : Vd (up ν 9 k z) := by
  obtain ⟨ha, hb, hc, hd, he⟩ := hv
  refine ⟨ha, hb, hc, fun p hp => ?_, he⟩
  have := hd p hp
  refine ⟨this.1, this.2.1, this.2.2.1, this.2.2.2.1, this.2.2.2.2.1, ?_, ?_⟩
  · show ν 10 p ≤ up ν 9 k z 9 p
    by_cases e : p = k
    · rw [e, up_at]; exact h1
    · rw [up_ni e]; exact this.2.2.2.2.2.1
  · by_cases e : p = k
    · rw [e, up_at]; exact h2
    · rw [up_ni e]; exact this.2.2.2.2.2.2
theorem dl_most (k p : Nat) (z : Int) : Dl (up ν 9 k z) p = Dl ν p + if p = k then 64 * (z - ν 9 k) else 0 := by
  show 64 * (ν 6 (Fr ν p) + up ν 9 k z 9 p + ν 0 4) = _
  unfold Dl
  by_cases e : p = k
  · rw [if_pos e, e, up_at]; omega
  · rw [if_neg e, up_ni e]; omega
theorem sm_none {q : Nat → Nat} {n k : Nat} {d : Int} (h : ∀ i, i < n → q i ≠ k) : sm (fun i => if q i = k then d else 0) n = 0 := by
  induction n with
  | zero => rfl
  | succ n ih => simp only [sm]; rw [ih (fun i hi => h i (by omega)), if_neg (h n (by omega))]; rfl
theorem sm_one {q : Nat → Nat} {n k : Nat} {d : Int} (hd : ∀ i j, i < n → j < n → q i = q j → i = j) (i0 : Nat) (hi : i0 < n) (he : q i0 = k) : sm (fun i => if q i = k then d else 0) n = d := by
  induction n with
  | zero => omega
  | succ n ih =>
    simp only [sm]
    by_cases e : i0 = n
    · subst e
      rw [sm_none (fun i hi2 h => by have := hd i i0 (by omega) (by omega) (h.trans he.symm); omega), if_pos he]
      omega
    · rw [ih (fun i j a b => hd i j (by omega) (by omega)) (by omega), if_neg (fun h => by have := hd n i0 (by omega) (by omega) (h.trans he.symm); omega)]
      omega
/-- the same cut, where one path's most is another -/
theorem cut_most {n : Nat} {q : Nat → Nat} {N w : Int} (k : Nat) (z : Int) (h : Cut ν n q N w) : Cut (up ν 9 k z) n q (N + sm (fun i => if q i = k then 64 * (z - ν 9 k) else 0) n) w := by
  obtain ⟨hr, hd, hk⟩ := h
  have e : sm (fun i => Dl (up ν 9 k z) (q i)) n = sm (fun i => Dl ν (q i)) n + sm (fun i => if q i = k then 64 * (z - ν 9 k) else 0) n := by
    rw [← sm_add]
    exact sm_congr (fun i _ => dl_most k (q i) z)
  refine ⟨hr, hd, ?_⟩
  rcases hk with ⟨g, hg, hg0, hg1, hN, hw⟩ | ⟨hn, hc, hf, hN, hw⟩ | ⟨hn, hN, hw⟩
  · exact Or.inl ⟨g, hg, hg0, hg1, by rw [e, hN]; show _ = _ + 64 * ν 4 g; omega, hw⟩
  · exact Or.inr (Or.inl ⟨hn, hc, hf, by rw [e, hN], hw⟩)
  · subst hn
    exact Or.inr (Or.inr ⟨rfl, by rw [hN]; rfl, hw⟩)
theorem sX6_cutHas {n : Nat} {q : Nat → Nat} (hn : (μ.1 49 8).toInt = (n : Int)) (hn2 : n ≤ 11) (hq : ∀ i, i < n → (μ.1 56 i).toInt = (q i : Nat)) (p : Int32) (k : Nat) (hp : p.toInt = (k : Nat)) : Wp (fX6_cutHas p μ) (fun r m => m = μ ∧ ((r.toInt = 1 ∧ ∃ i, i < n ∧ q i = k) ∨ (r.toInt = 0 ∧ ∀ i, i < n → q i ≠ k))) := by
  unfold fX6_cutHas
  refine wp_lp1 (fun j (l : Int32) m => m = μ ∧ ∃ i : Nat, l.toInt = (i : Int) ∧ i ≤ n ∧ j = n - i ∧ ∀ x, x < i → q x ≠ k) ax_FU ?_ n (by unfold ax_FU; omega) ⟨rfl, 0, rfl, by omega, rfl, fun x hx => by omega⟩
  rintro j rc hrc l m ⟨rfl, i, hl, hi, hj, hno⟩
  unfold fX6_cutHas_B2
  refine wp_if (fun c => wp_ret ⟨rfl, Or.inr ⟨rfl, fun x hx => ?_⟩⟩) (fun c => ?_)
  · rw [t_le, hn, hl] at c
    exact hno x (by omega)
  · rw [t_le, hn, hl] at c
    have hi2 : i < n := by omega
    refine wp_rd i hl (by omega) (wp_if (fun c2 => wp_ret ⟨rfl, Or.inl ⟨rfl, i, hi2, ?_⟩⟩) (fun c2 => hrc (n - (i + 1)) _ _ (by omega) ⟨rfl, i + 1, by simp only [t_add, hl, Int32.reduceToInt]; omega, by omega, rfl, fun x hx => ?_⟩))
    · rw [t_eq, hq i hi2, hp] at c2; omega
    · by_cases e : x = i
      · rw [t_eq, hq i hi2, hp] at c2
        rw [e]; omega
      · exact hno x (by omega)
theorem sX6_beyond (h : CN μ ν) (hv : Vd ν) {n : Nat} {q : Nat → Nat} (hn : (μ.1 49 8).toInt = (n : Int)) (hn2 : n ≤ 11) (hq : ∀ i, i < n → (μ.1 56 i).toInt = (q i : Nat)) (hc : Cut ν n q (μ.1 49 9).toInt (μ.1 49 10).toInt) (t : Int32) (h0t : 0 ≤ t.toInt) (h1t : t.toInt ≤ 9999) : Rd (fX6_beyond t μ) μ ((μ.1 49 9).toInt - t.toInt * ((μ.1 49 10).toInt + sm (fun i => Sh ν (q i)) n)) ∧ (μ.1 49 9).toInt - t.toInt * ((μ.1 49 10).toInt + sm (fun i => Sh ν (q i)) n) ≤ 1000000 ∧ -8000000 ≤ (μ.1 49 9).toInt - t.toInt * ((μ.1 49 10).toInt + sm (fun i => Sh ν (q i)) n) := by
  have hw := cut_w hv hc
  have hs := sh_sum hv (q := q) (n := n) hc.1.1 hn2
  have hN := hw.2.2 hn2
  have m1 : 0 ≤ t.toInt * ((μ.1 49 10).toInt + sm (fun i => Sh ν (q i)) n) := Int.mul_nonneg h0t (by omega)
  have m2 : t.toInt * ((μ.1 49 10).toInt + sm (fun i => Sh ν (q i)) n) ≤ t.toInt * 767 := Int.mul_le_mul_of_nonneg_left (by omega) h0t
  unfold fX6_beyond
  refine ⟨rd_wp (wp_rdf (sX6_cutSpan h hv hn hn2 hq hc.1.1 ⟨hw.1, hw.2.1⟩) (fun r e => wp_ret ⟨?_, rfl⟩)), by omega, by omega⟩
  simp only [t_sub, t_mul, e]
  omega
/-- how slow a path may be -/
def SlowA (ν : Nv) (k : Nat) (r : Int) : Prop := (r = -2 ∧ ∀ z, ν 10 k ≤ z → z ≤ 999 → gd (up ν 9 k z) (ν 0 3) = false) ∨ (ν 10 k ≤ r ∧ r ≤ 999 ∧ gd (up ν 9 k r) (ν 0 3) = true ∧ ∀ z, r < z → z ≤ 999 → gd (up ν 9 k z) (ν 0 3) = false)
theorem slowA_unique {k : Nat} {r s : Int} (h0 : 0 ≤ ν 10 k) (h : SlowA ν k r) (h2 : SlowA ν k s) : r = s := by
  rcases h with ⟨a1, a2⟩ | ⟨a1, a2, a3, a4⟩ <;> rcases h2 with ⟨b1, b2⟩ | ⟨b1, b2, b3, b4⟩
  · omega
  · have := a2 s b1 b2; rw [b3] at this; cases this
  · have := b2 r a1 a2; rw [a3] at this; cases this
  · by_cases h1 : r < s
    · have := a4 s h1 b2; rw [b3] at this; cases this
    · by_cases h2 : s < r
      · have := b4 r h2 a2; rw [a3] at this; cases this
      · omega
theorem sX4_slowestDelay (h : CN μ ν) (hv : Vd ν) (p : Int32) (k : Nat) (hp : p.toInt = (k : Nat)) (hk : k < nP ν) : Wp (fX4_slowestDelay p μ) (fun r m => SlowA ν k r.toInt ∧ CN m ν) := by
  obtain ⟨a1, a2, a3, a4, a5, a6⟩ := vd_path hv k hk
  have h0 := hv.1
  have hk4 := hv.2.2.2.1 k hk
  have e := h.2.2.2.1 k hk
  unfold fX4_slowestDelay
  refine wp_rd k hp a1 ?_
  have fin : ∀ (m : ax_M) (y : Int) (s : Int32), CN m (up ν 9 k y) → SlowA ν k s.toInt → Wp (fX4_slowestDelay_K132 p (μ.1 13 k) s m) (fun r m => SlowA ν k r.toInt ∧ CN m ν) := by
    intro m y s hm hs
    unfold fX4_slowestDelay_K132
    refine wp_wr k hp a1 (wp_ret ⟨hs, ?_⟩)
    have := CN_most hm k (μ.1 13 k)
    rw [up_up, e.2.2.1, up_self] at this
    exact this
  refine wp_lp2 (fun j (l4 l5 : Int32) m => ∃ i : Nat, l5.toInt = (i : Int) ∧ i ≤ 1000 ∧ j = 1000 - i ∧ l4.toInt ≤ 999 - i ∧ -100000000 ≤ l4.toInt ∧ (∃ y, CN m (up ν 9 k y)) ∧ ∀ z, l4.toInt < z → z ≤ 999 → ν 10 k ≤ z → gd (up ν 9 k z) (ν 0 3) = false) ax_FU ?_ 1000 (by unfold ax_FU; omega) ⟨0, rfl, by omega, rfl, by decide, by decide, ⟨ν 9 k, by rw [up_self]; exact h⟩, fun z h1 h2 => by have : Int32.toInt 999 = 999 := rfl; omega⟩
  rintro j rc hrc l4 l5 m ⟨i, hl5, hi, hj, hl4, hl4b, ⟨y, hm⟩, hno⟩
  unfold fX4_slowestDelay_B21
  refine wp_if (fun c => fin m y _ hm (Or.inl ⟨rfl, fun z h1 h2 => ?_⟩)) (fun c => ?_)
  · rw [t_lt, hl5] at c
    simp only [Int32.reduceToInt] at c
    exact hno z (by omega) h2 h1
  · rw [t_lt, hl5] at c
    simp only [Int32.reduceToInt] at c
    have e14 : (m.1 14 k).toInt = ν 10 k := (hm.2.2.2.1 k hk).2.2.2
    refine wp_rd k hp a1 (wp_if (fun c2 => fin m y _ hm (Or.inl ⟨rfl, fun z h1 h2 => ?_⟩)) (fun c2 => ?_))
    · rw [t_lt, e14] at c2
      exact hno z (by omega) h2 h1
    · rw [t_lt, e14] at c2
      refine wp_wr k hp a1 ?_
      have hm4 := CN_most hm k l4
      rw [up_up] at hm4
      have hv4 : Vd (up ν 9 k l4.toInt) := vd_most hv k _ (by omega) (by omega)
      refine wp_bd (wp_mono (sX6_load hm4 hv4) ?_)
      rintro _ m6 ⟨hm6, ht6⟩
      have eT : (m6.1 2 16).toInt = ν 0 3 := hm6.1.2.2.2.1
      refine wp_bd (wp_mono (sX6_holdsK hm6 hv4 ht6 (m6.1 2 16) (by omega) (by omega)) ?_)
      rintro r m8 ⟨hm8, ht8, -, hr, -⟩
      rw [eT] at hr
      rcases hr with ⟨hr, hg⟩ | ⟨hr, hg, hck⟩
      · rw [if_neg (by rw [t_eq, hr]; decide)]
        exact fin m8 _ _ hm8 (Or.inr ⟨by omega, by omega, hg, fun z h1 h2 => hno z h1 h2 (by omega)⟩)
      · rw [if_pos (t_eq.mpr hr)]
        obtain ⟨n, q, g1, g2, g3, g4, g5⟩ := hck
        refine wp_bd (wp_mono (sX6_cutHas g1 g2 g3 p k hp) ?_)
        rintro r9 m10 ⟨rfl, hr9⟩
        have eT10 : (m10.1 2 16).toInt = ν 0 3 := hm8.1.2.2.2.1
        have valid : ∀ z, ν 10 k ≤ z → z ≤ 999 → gd (up ν 9 k z) (ν 0 3) = true → (m10.1 49 9).toInt + sm (fun i => if q i = k then 64 * (z - l4.toInt) else 0) n ≤ ν 0 3 * ((m10.1 49 10).toInt + sm (fun i => Sh ν (q i)) n) := by
          intro z z1 z2 hz
          have hc := cut_most k z g4
          rw [up_up, up_at] at hc
          exact cut_ok (vd_most hv k z z1 z2) hc hz
        have g5 : ν 0 3 * ((m10.1 49 10).toInt + sm (fun i => Sh ν (q i)) n) < (m10.1 49 9).toInt := g5
        rcases hr9 with ⟨hr9, i0, hi0, hq0⟩ | ⟨hr9, hnone⟩
        · rw [if_neg (by rw [t_eq, hr9]; decide)]
          obtain ⟨hby, hb1, hb2⟩ := sX6_beyond hm8 hv4 g1 g2 g3 g4 (m10.1 2 16) (by omega) (by omega)
          rw [eT10] at hby hb1 hb2
          refine wp_rdf hby (fun v11 e11 => wp_rdf (sX8_roundedUp v11 64 (by rw [e11]; omega)) (fun v13 e13 => wp_let ?_))
          have e11 : v11.toInt = (m10.1 49 9).toInt - ν 0 3 * ((m10.1 49 10).toInt + sm (fun i => Sh ν (q i)) n) := e11
          have hb1 : (m10.1 49 9).toInt - ν 0 3 * ((m10.1 49 10).toInt + sm (fun i => Sh ν (q i)) n) ≤ 1000000 := hb1
          rw [show (if Int32.toInt 64 < 1 then (1 : Int) else Int32.toInt 64) = 64 from rfl] at e13
          have hmx := mx_toInt 1 v13
          rw [show Int32.toInt 1 = 1 from rfl] at hmx
          have c13 : v13.toInt ≤ 1000000 := by rw [e13, cdiv_le (by omega)]; omega
          have hge : 1 ≤ (ax_mx 1 v13).toInt ∧ (ax_mx 1 v13).toInt ≤ 1000000 := by rw [hmx]; split <;> omega
          have hsub : (l4 - ax_mx 1 v13).toInt = l4.toInt - (ax_mx 1 v13).toInt := by rw [t_sub]; omega
          refine hrc (1000 - (i + 1)) _ _ _ (by omega) ⟨i + 1, by simp only [t_add, hl5, Int32.reduceToInt]; omega, by omega, rfl, by omega, by omega, ⟨_, hm8⟩, fun z z1 z2 z3 => ?_⟩
          by_cases e1 : l4.toInt < z
          · exact hno z e1 z2 z3
          · cases eg : gd (up ν 9 k z) (ν 0 3) with
            | false => rfl
            | true =>
              exfalso
              have hv3 := valid z z3 z2 eg
              rw [sm_one g4.2.1 i0 hi0 hq0] at hv3
              have : v13.toInt ≤ l4.toInt - z := by rw [e13, cdiv_le (by omega)]; omega
              rw [hsub, hmx] at z1
              split at z1
              · omega
              · have : z = l4.toInt := by omega
                rw [this] at eg
                rw [hg] at eg; cases eg
        · rw [if_pos (t_eq.mpr hr9)]
          refine fin m10 _ _ hm8 (Or.inl ⟨rfl, fun z z1 z2 => ?_⟩)
          cases eg : gd (up ν 9 k z) (ν 0 3) with
          | false => rfl
          | true =>
            exfalso
            have hv3 := valid z z1 z2 eg
            rw [sm_none hnone] at hv3
            omega
end SLW
