/-! leastPeriod, slower and gain, both sides -/
def AnsLp (ν : Nv) (r : Int) : Prop := ∃ z, Lst ν 9999 z ∧ r = if z = -1 then -2 else z
def AnsSl (ν : Nv) (p r : Int) : Prop := (¬ (0 ≤ p ∧ p < ν 0 2) ∧ r = -1) ∨ ∃ k : Nat, k < nP ν ∧ p = (k : Nat) ∧ SlowA ν k r
def AnsGn (ν : Nv) (p r : Int) : Prop := (¬ (0 ≤ p ∧ p < ν 0 2) ∧ r = -1) ∨ ∃ k : Nat, k < nP ν ∧ p = (k : Nat) ∧ ((Lst ν 9999 (-1) ∧ r = -2) ∨ ∃ z z2, Lst ν 9999 z ∧ z ≠ -1 ∧ Lst (up ν 9 k (ν 10 k)) 9999 z2 ∧ r = z - z2)
section GN
variable {μ : ax_M} {ν : Nv}
theorem in_nat {p : Int} {n : Int} {N : Nat} (h : 0 ≤ p ∧ p < n) (hn : N = n.toNat) : ∃ k : Nat, k < N ∧ p = (k : Nat) := ⟨p.toNat, by omega, by omega⟩
theorem ansLp_unique {r s : Int} (h : AnsLp ν r) (h2 : AnsLp ν s) : r = s := by
  obtain ⟨z, a, b⟩ := h
  obtain ⟨y, c, d⟩ := h2
  rw [b, d, lst_unique a c]
theorem sX8_leastPeriod (h : CN μ ν) (hv : Vd ν) : Wp (fX8_leastPeriod μ) (fun r m => AnsLp ν r.toInt ∧ CN m ν) := by
  unfold fX8_leastPeriod fX8_leastPeriod_K19
  refine wp_bd (wp_mono (sX4_shortestPeriod h hv) ?_)
  rintro r m ⟨hr, hm, -⟩
  refine wp_if (fun c => wp_ret ⟨⟨-1, ?_, rfl⟩, hm⟩) (fun c => wp_ret ⟨⟨r.toInt, hr, ?_⟩, hm⟩)
  · rw [t_eq] at c
    rw [c] at hr
    exact hr
  · rw [t_eq] at c
    rw [if_neg (show ¬ r.toInt = -1 from c)]
theorem sX9_leastPeriod (h : RN μ ν) (hv : Vd ν) : Wp (fX9_leastPeriod μ) (fun r m => AnsLp ν r.toInt ∧ RN m ν) := by
  unfold fX9_leastPeriod
  refine wp_let (wp_bd (wp_mono (sX9_leastNow (RN_wi57 h) hv) ?_))
  rintro r m ⟨hr, hm⟩
  exact wp_ret ⟨hr, hm⟩
theorem ansSl_unique (hv : Vd ν) {p r s : Int} (h : AnsSl ν p r) (h2 : AnsSl ν p s) : r = s := by
  have hn : ν 0 2 = (nP ν : Nat) := by have := hv.1; unfold nP; omega
  rcases h with ⟨a, b⟩ | ⟨k, hk, e, b⟩ <;> rcases h2 with ⟨c, d⟩ | ⟨j, hj, e2, d⟩
  · omega
  · exact absurd ⟨by omega, by omega⟩ a
  · exact absurd ⟨by omega, by omega⟩ c
  · have : k = j := by omega
    subst this
    exact slowA_unique (hv.2.2.2.1 k hk).2.2.2.2.1 b d
theorem sX8_slower (h : CN μ ν) (hv : Vd ν) (p : Int32) : Wp (fX8_slower p μ) (fun r m => AnsSl ν p.toInt r.toInt ∧ CN m ν) := by
  unfold fX8_slower fX8_slower_K23
  refine wp_rdf (sX1_hasPath h p) (fun r e => wp_if (fun c => wp_ret ⟨Or.inl ⟨fun h2 => ?_, rfl⟩, h⟩) (fun c => ?_))
  · rw [t_eq, e, if_pos h2] at c; exact absurd c (by decide)
  · by_cases h2 : 0 ≤ p.toInt ∧ p.toInt < ν 0 2
    · obtain ⟨k, hk, ek⟩ := in_nat (N := nP ν) h2 rfl
      refine wp_bd (wp_mono (sX4_slowestDelay h hv p k ek hk) ?_)
      rintro r3 m3 ⟨a, b⟩
      exact wp_ret ⟨Or.inr ⟨k, hk, ek, a⟩, b⟩
    · rw [t_eq, e, if_neg h2] at c; exact absurd rfl c
theorem sX9_slower (h : RN μ ν) (hv : Vd ν) (p : Int32) : Wp (fX9_slower p μ) (fun r m => AnsSl ν p.toInt r.toInt ∧ RN m ν) := by
  have h0 := hv.1
  unfold fX9_slower
  refine wp_let ?_
  have h1 := RN_wi57 (j := 0) (v := 0) h
  generalize ax_wi μ 57 0 0 = m1 at h1
  refine wp_rdf (sX9_isPath h1 p) (fun r e => wp_if (fun c => wp_ret ⟨Or.inl ⟨fun h2 => ?_, rfl⟩, h1⟩) (fun c => ?_))
  · rw [t_eq, e, if_pos h2] at c; exact absurd c (by decide)
  · by_cases h2 : 0 ≤ p.toInt ∧ p.toInt < ν 0 2
    · obtain ⟨k, hk, ek⟩ := in_nat (N := nP ν) h2 rfl
      have hk24 := (vd_path hv k hk).1
      have hk4 := hv.2.2.2.1 k hk
      have e19 : ((19 : Int32) + p).toInt = ((19 + k : Nat) : Int) := by rw [t_add, ek]; simp only [Int32.reduceToInt]; omega
      have e43 : ((43 : Int32) + p).toInt = ((43 + k : Nat) : Int) := by rw [t_add, ek]; simp only [Int32.reduceToInt]; omega
      have em := (h1.2.2.2 k hk).2.2.1
      refine wp_rd (19 + k) e19 (by omega) ?_
      have fin : ∀ (m : ax_M) (y : Int) (s l4 : Int32), ν 10 k ≤ y → y ≤ 999 → RN m (up ν 9 k y) → ((l4.toInt = 0 ∧ SlowA ν k (-2)) ∨ (l4.toInt ≠ 0 ∧ SlowA ν k s.toInt)) → Wp (fX9_slower_K82 p (m1.1 74 (19 + k)) s l4 m) (fun r m => AnsSl ν p.toInt r.toInt ∧ RN m ν) := by
        intro m y s l4 y1 y2 hm hs
        unfold fX9_slower_K82 fX9_slower_K103
        refine wp_wr (19 + k) e19 (by omega) ?_
        have hm2 := RN_most hm (vd_most hv k y y1 y2) k hk (m1.1 74 (19 + k))
        rw [up_up, em, up_self] at hm2
        refine wp_if (fun c2 => wp_ret ⟨?_, hm2⟩) (fun c2 => wp_ret ⟨?_, hm2⟩)
        · rcases hs with ⟨-, a⟩ | ⟨a, -⟩
          · exact Or.inr ⟨k, hk, ek, a⟩
          · exact absurd (t_eq.mp c2) a
        · rcases hs with ⟨a, -⟩ | ⟨-, a⟩
          · exact absurd (t_eq.mpr a) c2
          · exact Or.inr ⟨k, hk, ek, a⟩
      refine wp_lp2 (fun j (l3 l4 : Int32) m => (∃ y, ν 10 k ≤ y ∧ y ≤ 999 ∧ RN m (up ν 9 k y)) ∧ l3.toInt ≤ 999 ∧ ν 10 k - 1 ≤ l3.toInt ∧ (∀ z, l3.toInt < z → z ≤ 999 → gd (up ν 9 k z) (ν 0 3) = false) ∧ ((l4.toInt = 0 ∧ j = (l3.toInt - ν 10 k + 2).toNat) ∨ (l4.toInt = 1 ∧ j = 0 ∧ SlowA ν k l3.toInt))) ax_FU ?_ (Int32.toInt 999 - ν 10 k + 2).toNat (by unfold ax_FU; have : Int32.toInt 999 = 999 := rfl; omega) ⟨⟨ν 9 k, by omega, by omega, by rw [up_self]; exact h1⟩, by decide, by have : Int32.toInt 999 = 999 := rfl; omega, fun z a b => by have : Int32.toInt 999 = 999 := rfl; omega, Or.inl ⟨rfl, rfl⟩⟩
      rintro j rc hrc l3 l4 m ⟨⟨y, y1, y2, hm⟩, hl3, hl3b, hno, hst⟩
      unfold fX9_slower_B32 fX9_slower_K77
      refine wp_if (fun c2 => ?_) (fun c2 => ?_)
      · rw [t_eq] at c2
        have hj : j = (l3.toInt - ν 10 k + 2).toNat := by
          rcases hst with ⟨-, a⟩ | ⟨a, -⟩
          · exact a
          · rw [a] at c2; exact absurd c2 (by decide)
        have e10 : (m.1 74 (43 + k)).toInt = ν 10 k := (hm.2.2.2 k hk).2.2.2
        refine wp_rd (43 + k) e43 (by omega) (wp_if (fun c3 => fin m y _ _ y1 y2 hm (Or.inl ⟨c2, Or.inl ⟨rfl, fun z z1 z2 => ?_⟩⟩)) (fun c3 => ?_))
        · rw [t_lt, e10] at c3
          exact hno z (by omega) z2
        · rw [t_lt, e10] at c3
          refine wp_wr (19 + k) e19 (by omega) ?_
          have hm2 := RN_most hm (vd_most hv k y y1 y2) k hk l3
          rw [up_up] at hm2
          have hv2 := vd_most hv k l3.toInt (by omega) (by omega)
          refine wp_bd (wp_mono (sX9_isGood hm2 hv2) ?_)
          rintro r9 m10 ⟨hm10, -, hr9⟩
          have hr9 : r9.toInt = if gd (up ν 9 k l3.toInt) (ν 0 3) = true then 1 else 0 := hr9
          refine wp_if (fun c4 => wp_let ?_) (fun c4 => wp_let ?_)
          · rw [t_eq, hr9] at c4
            have hg : gd (up ν 9 k l3.toInt) (ν 0 3) = false := by
              cases eg : gd (up ν 9 k l3.toInt) (ν 0 3) with
              | false => rfl
              | true => rw [eg] at c4; exact absurd c4 (by decide)
            have hs : (l3 - 1).toInt = l3.toInt - 1 := by rw [t_sub]; simp only [Int32.reduceToInt]; omega
            refine hrc (l3.toInt - 1 - ν 10 k + 2).toNat _ _ _ (by omega) ⟨⟨_, by omega, by omega, hm10⟩, by omega, by omega, fun z z1 z2 => ?_, Or.inl ⟨by rw [hr9, hg]; rfl, by rw [hs]⟩⟩
            by_cases e1 : z = l3.toInt
            · rw [e1]; exact hg
            · exact hno z (by omega) z2
          · rw [t_eq, hr9] at c4
            have hg : gd (up ν 9 k l3.toInt) (ν 0 3) = true := by
              cases eg : gd (up ν 9 k l3.toInt) (ν 0 3) with
              | true => rfl
              | false => rw [eg] at c4; exact absurd rfl c4
            have hs : (l3 - 0).toInt = l3.toInt := by rw [t_sub]; simp only [Int32.reduceToInt]; omega
            refine hrc 0 _ _ _ (by omega) ⟨⟨_, by omega, by omega, hm10⟩, by omega, by omega, fun z z1 z2 => hno z (by omega) z2, Or.inr ⟨by rw [hr9, hg]; rfl, rfl, ?_⟩⟩
            rw [hs]
            exact Or.inr ⟨by omega, by omega, hg, hno⟩
      · refine fin m y _ _ y1 y2 hm (Or.inr ⟨fun h3 => c2 (t_eq.mpr h3), ?_⟩)
        rcases hst with ⟨a, -⟩ | ⟨-, -, a⟩
        · exact absurd (t_eq.mpr a) c2
        · exact a
    · rw [t_eq, e, if_neg h2] at c; exact absurd rfl c
theorem gd_less (hv : Vd ν) (k : Nat) (hk : k < nP ν) {T : Int} (h : gd ν T = true) : gd (up ν 9 k (ν 10 k)) T = true := by
  have hk4 := hv.2.2.2.1 k hk
  refine gd_imp hv (vd_most hv k _ (Int.le_refl _) (by omega)) rfl rfl (fun p hp => ⟨rfl, rfl, ?_⟩) (fun c hc => ⟨rfl, Int.le_refl _⟩) h
  show Dl (up ν 9 k (ν 10 k)) p - Sh ν p * T ≤ Dl ν p - Sh ν p * T
  rw [dl_most]
  split <;> omega
theorem lst_less (hv : Vd ν) (k : Nat) (hk : k < nP ν) {z z2 : Int} (h : Lst ν 9999 z) (hz : z ≠ -1) (h2 : Lst (up ν 9 k (ν 10 k)) 9999 z2) : z2 ≠ -1 := by
  rcases h with ⟨a, -⟩ | ⟨a1, a2, a3, -⟩
  · exact absurd a hz
  · rcases h2 with ⟨-, b⟩ | ⟨b, -⟩
    · have := b z a1 a2
      rw [gd_less hv k hk a3] at this
      cases this
    · omega
theorem ansGn_unique (hv : Vd ν) {p r s : Int} (h : AnsGn ν p r) (h2 : AnsGn ν p s) : r = s := by
  have hn : ν 0 2 = (nP ν : Nat) := by have := hv.1; unfold nP; omega
  rcases h with ⟨a, b⟩ | ⟨k, hk, e, b⟩ <;> rcases h2 with ⟨c, d⟩ | ⟨j, hj, e2, d⟩
  · omega
  · exact absurd ⟨by omega, by omega⟩ a
  · exact absurd ⟨by omega, by omega⟩ c
  · have : k = j := by omega
    subst this
    rcases b with ⟨b1, b2⟩ | ⟨z, z2, b1, b2, b3, b4⟩ <;> rcases d with ⟨d1, d2⟩ | ⟨y, y2, d1, d2, d3, d4⟩
    · omega
    · exact absurd (lst_unique d1 b1) d2
    · exact absurd (lst_unique b1 d1) b2
    · rw [b4, d4, lst_unique b1 d1, lst_unique b3 d3]
theorem sX8_gain (h : CN μ ν) (hv : Vd ν) (p : Int32) : Wp (fX8_gain p μ) (fun r m => AnsGn ν p.toInt r.toInt ∧ CN m ν) := by
  unfold fX8_gain fX8_gain_K23
  refine wp_rdf (sX1_hasPath h p) (fun r e => wp_if (fun c => wp_ret ⟨Or.inl ⟨fun h2 => ?_, rfl⟩, h⟩) (fun c => ?_))
  · rw [t_eq, e, if_pos h2] at c; exact absurd c (by decide)
  · by_cases h2 : 0 ≤ p.toInt ∧ p.toInt < ν 0 2
    · obtain ⟨k, hk, ek⟩ := in_nat (N := nP ν) h2 rfl
      have hk24 := (vd_path hv k hk).1
      have hk4 := hv.2.2.2.1 k hk
      unfold fX4_gainOf
      refine wp_bd (wp_bd (wp_mono (sX4_shortestPeriod h hv) ?_))
      rintro r1 m2 ⟨hr1, hm2, -⟩
      refine wp_if (fun c2 => wp_ret (wp_ret ⟨Or.inr ⟨k, hk, ek, Or.inl ⟨?_, rfl⟩⟩, hm2⟩)) (fun c2 => ?_)
      · rw [t_eq] at c2; rw [c2] at hr1; exact hr1
      · have e2 := hm2.2.2.2.1 k hk
        refine wp_rd k ek hk24 (wp_rd k ek hk24 (wp_wr k ek hk24 ?_))
        have hm5 := CN_most hm2 k (m2.1 14 k)
        rw [e2.2.2.2] at hm5
        refine wp_bd (wp_mono (sX4_shortestPeriod hm5 (vd_most hv k _ (Int.le_refl _) (by omega))) ?_)
        rintro r6 m7 ⟨hr6, hm7, -⟩
        refine wp_wr k ek hk24 (wp_ret (wp_ret ⟨Or.inr ⟨k, hk, ek, Or.inr ⟨r1.toInt, r6.toInt, hr1, fun h3 => c2 (t_eq.mpr h3), hr6, ?_⟩⟩, ?_⟩))
        · rw [t_sub]
          have q1 : -1 ≤ r1.toInt ∧ r1.toInt ≤ 9999 := by
            rcases hr1 with ⟨a, -⟩ | ⟨a, b, -⟩ <;> omega
          have q2 : -1 ≤ r6.toInt ∧ r6.toInt ≤ 9999 := by
            rcases hr6 with ⟨a, -⟩ | ⟨a, b, -⟩ <;> omega
          omega
        · have := CN_most hm7 k (m2.1 13 k)
          rw [up_up, e2.2.2.1, up_self] at this
          exact this
    · rw [t_eq, e, if_neg h2] at c; exact absurd rfl c
theorem sX9_gain (h : RN μ ν) (hv : Vd ν) (p : Int32) : Wp (fX9_gain p μ) (fun r m => AnsGn ν p.toInt r.toInt ∧ RN m ν) := by
  unfold fX9_gain
  refine wp_let ?_
  have h1 := RN_wi57 (j := 0) (v := 0) h
  generalize ax_wi μ 57 0 0 = m1 at h1
  refine wp_rdf (sX9_isPath h1 p) (fun r e => wp_if (fun c => wp_ret ⟨Or.inl ⟨fun h2 => ?_, rfl⟩, h1⟩) (fun c => ?_))
  · rw [t_eq, e, if_pos h2] at c; exact absurd c (by decide)
  · by_cases h2 : 0 ≤ p.toInt ∧ p.toInt < ν 0 2
    · obtain ⟨k, hk, ek⟩ := in_nat (N := nP ν) h2 rfl
      have hk24 := (vd_path hv k hk).1
      have hk4 := hv.2.2.2.1 k hk
      have hv2 := vd_most hv k (ν 10 k) (Int.le_refl _) (by omega)
      have e19 : ((19 : Int32) + p).toInt = ((19 + k : Nat) : Int) := by rw [t_add, ek]; simp only [Int32.reduceToInt]; omega
      have e43 : ((43 : Int32) + p).toInt = ((43 + k : Nat) : Int) := by rw [t_add, ek]; simp only [Int32.reduceToInt]; omega
      refine wp_bd (wp_mono (sX9_leastNow h1 hv) ?_)
      rintro r4 m5 ⟨⟨z, hz, hr4⟩, hm5⟩
      have em := hm5.2.2.2 k hk
      refine wp_if (fun c2 => wp_ret ⟨Or.inr ⟨k, hk, ek, Or.inl ⟨?_, rfl⟩⟩, hm5⟩) (fun c2 => ?_)
      · rw [t_eq, hr4] at c2
        by_cases ez : z = -1
        · rw [ez] at hz; exact hz
        · rw [if_neg ez] at c2
          simp only [Int32.reduceToInt] at c2
          rcases hz with ⟨a, -⟩ | ⟨a, -⟩ <;> omega
      · have ez : z ≠ -1 := by
          intro ez
          rw [t_eq, hr4, if_pos ez] at c2
          exact absurd rfl c2
        rw [if_neg ez] at hr4
        refine wp_rd (19 + k) e19 (by omega) (wp_rd (43 + k) e43 (by omega) (wp_wr (19 + k) e19 (by omega) ?_))
        have hm8 := RN_most hm5 hv k hk (m5.1 74 (43 + k))
        rw [em.2.2.2] at hm8
        refine wp_bd (wp_mono (sX9_leastNow hm8 hv2) ?_)
        rintro r9 m10 ⟨⟨z2, hz2, hr9⟩, hm10⟩
        have ez2 := lst_less hv k hk hz ez hz2
        rw [if_neg ez2] at hr9
        refine wp_wr (19 + k) e19 (by omega) (wp_ret ⟨Or.inr ⟨k, hk, ek, Or.inr ⟨z, z2, hz, ez, hz2, ?_⟩⟩, ?_⟩)
        · rw [t_sub, hr4, hr9]
          have q1 : -1 ≤ z ∧ z ≤ 9999 := by
            rcases hz with ⟨a, -⟩ | ⟨a, b, -⟩ <;> omega
          have q2 : -1 ≤ z2 ∧ z2 ≤ 9999 := by
            rcases hz2 with ⟨a, -⟩ | ⟨a, b, -⟩ <;> omega
          omega
        · have := RN_most hm10 hv2 k hk (m5.1 74 (19 + k))
          rw [up_up, em.2.2.1, up_self] at this
          exact this
    · rw [t_eq, e, if_neg h2] at c; exact absurd rfl c
end GN
