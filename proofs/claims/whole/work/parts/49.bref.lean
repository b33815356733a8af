/-! the reference's search for the best, one by one -/
def BestP (F : Nat → Nv) (i : Nat) (b z : Int) : Prop := (b = -2 ∧ z = 10000 ∧ ∀ j, j < i → ∀ T : Int, 1 ≤ T → T ≤ 9999 → gd (F j) T = false) ∨ ∃ e : Nat, e < i ∧ b = (e : Int) ∧ 1 ≤ z ∧ z ≤ 9999 ∧ gd (F e) z = true ∧ (∀ j, j < e → ∀ T : Int, 1 ≤ T → T ≤ z → gd (F j) T = false) ∧ ∀ j, e ≤ j → j < i → ∀ T : Int, 1 ≤ T → T < z → gd (F j) T = false
section BP
variable {F : Nat → Nv} {i : Nat} {b z y : Int}
theorem bestP_done (h : BestP F i b z) : BestA F i b := by
  rcases h with ⟨h1, -, h2⟩ | ⟨e, h1, h2, h3, h4, h5, h6, h7⟩
  · exact Or.inl ⟨h1, h2⟩
  · exact Or.inr ⟨e, z, h1, h2, h3, h4, h5, h6, h7⟩
theorem bestP_none (h : BestP F i b z) (hy : Lst (F i) 9999 (-1)) : BestP F (i + 1) b z := by
  have hn : ∀ T : Int, 1 ≤ T → T ≤ 9999 → gd (F i) T = false := by
    rcases hy with ⟨-, a⟩ | ⟨a, -⟩
    · exact a
    · omega
  rcases h with ⟨h1, h2, h3⟩ | ⟨e, h1, h2, h3, h4, h5, h6, h7⟩
  · refine Or.inl ⟨h1, h2, fun j hj T a1 a2 => ?_⟩
    by_cases e : j = i
    · rw [e]; exact hn T a1 a2
    · exact h3 j (by omega) T a1 a2
  · refine Or.inr ⟨e, by omega, h2, h3, h4, h5, h6, fun j a1 a2 T a3 a4 => ?_⟩
    by_cases e : j = i
    · rw [e]; exact hn T a3 (by omega)
    · exact h7 j a1 (by omega) T a3 a4
theorem bestP_skip (h : BestP F i b z) (hy : Lst (F i) 9999 y) (hn : y ≠ -1) (hz : z ≤ y) : BestP F (i + 1) b z := by
  rcases hy with ⟨a, -⟩ | ⟨y1, y2, y3, y4⟩
  · exact absurd a hn
  · rcases h with ⟨h1, h2, h3⟩ | ⟨e, h1, h2, h3, h4, h5, h6, h7⟩
    · omega
    · refine Or.inr ⟨e, by omega, h2, h3, h4, h5, h6, fun j a1 a2 T a3 a4 => ?_⟩
      by_cases e : j = i
      · rw [e]; exact y4 T a3 (by omega)
      · exact h7 j a1 (by omega) T a3 a4
theorem bestP_take (h : BestP F i b z) (hy : Lst (F i) 9999 y) (hn : y ≠ -1) (hz : y < z) : BestP F (i + 1) (i : Int) y := by
  rcases hy with ⟨a, -⟩ | ⟨y1, y2, y3, y4⟩
  · exact absurd a hn
  · refine Or.inr ⟨i, by omega, rfl, y1, y2, y3, fun j hj T a1 a2 => ?_, fun j a1 a2 T a3 a4 => by rw [show j = i by omega]; exact y4 T a3 a4⟩
    rcases h with ⟨h1, h2, h3⟩ | ⟨e, h1, h2, h3, h4, h5, h6, h7⟩
    · exact h3 j hj T a1 (by omega)
    · by_cases h8 : j < e
      · exact h6 j h8 T a1 (by omega)
      · exact h7 j (by omega) hj T a1 (by omega)
end BP
section BREF
variable {μ : ax_M} {ν : Nv}
theorem up_op (f : Nat → Int) (k : Nat) (z : Int) : up (op ν f) 1 k z = op ν (fun x => if x = k then z else f x) := by
  funext a b
  show (if a = 1 ∧ b = k then z else if a = 1 then f b else ν a b) = if a = 1 then (if b = k then z else f b) else ν a b
  by_cases h : a = 1
  · by_cases h2 : b = k
    · rw [if_pos ⟨h, h2⟩, if_pos h, if_pos h2]
    · rw [if_neg (fun h3 => h2 h3.2), if_pos h, if_pos h, if_neg h2]
  · rw [if_neg (fun h3 => h h3.1), if_neg h, if_neg h]
theorem RN_open (h : RN μ ν) (hv : Vd ν) (k : Nat) (hk : k < nH ν) (v : Int32) : RN (ax_wi μ 74 (1 + k) v) (up ν 1 k v.toInt) := by
  have hn := vd_nums hv
  obtain ⟨⟨a1, a2, a3, a4, a5, a6⟩, hb, hc, hd⟩ := h
  refine ⟨⟨?_, ?_, ?_, ?_, ?_, ?_⟩, fun i hi => ?_, fun c hc2 => ?_, fun p hp => ?_⟩
  · rw [wi_ne (by omega)]; exact a1
  · rw [wi_ne (by omega)]; exact a2
  · rw [wi_ne (by omega)]; exact a3
  · rw [wi_other (by omega)]; exact a4
  · rw [wi_other (by omega)]; exact a5
  · rw [wi_ne (by omega)]; exact a6
  · have hi : i < nH ν := hi
    have := hb i hi
    rw [wi_ne (by omega), wi_other (show 5 + i ≠ 1 + k by omega)]
    refine ⟨this.1, ?_, this.2.2⟩
    by_cases e : i = k
    · rw [e, wi_self, up_at]
    · rw [wi_other (by omega), up_ni e]; exact this.2.1
  · have hc2 : c < nC ν := hc2
    rw [wi_ne (by omega), wi_ne (by omega), wi_ne (by omega), wi_ne (by omega), wi_ne (by omega), wi_other (by omega)]; exact hc c hc2
  · have hp : p < nP ν := hp
    rw [wi_ne (by omega), wi_ne (by omega), wi_other (by omega), wi_other (by omega)]; exact hd p hp
def AnsBo (ν : Nv) (p r : Int) : Prop := (¬ (0 ≤ p ∧ p < ν 0 0) ∧ r = -1) ∨ ∃ a : Nat, a < nH ν ∧ p = (a : Nat) ∧ BestA (fun i => op ν (oi ν a none i)) 64 r
def AnsBt (ν : Nv) (p s r : Int) : Prop := ((¬ (0 ≤ p ∧ p < ν 0 0) ∨ ¬ (0 ≤ s ∧ s < ν 0 0) ∨ p = s) ∧ r = -1) ∨ ∃ a c : Nat, a < nH ν ∧ c < nH ν ∧ c ≠ a ∧ p = (a : Nat) ∧ s = (c : Nat) ∧ BestA (fun i => op ν (oi ν a (some c) i)) 4096 r
theorem sX8_bestOpens (h : CN μ ν) (hv : Vd ν) (p : Int32) : Wp (fX8_bestOpens p μ) (fun r m => AnsBo ν p.toInt r.toInt ∧ CN m ν) := by
  unfold fX8_bestOpens fX8_bestOpens_K24
  refine wp_rdf (sX1_hasPhase h p) (fun r e => wp_if (fun c => wp_ret ⟨Or.inl ⟨fun h2 => ?_, rfl⟩, h⟩) (fun c => ?_))
  · rw [t_eq, e, if_pos h2] at c; exact absurd c (by decide)
  · by_cases h2 : 0 ≤ p.toInt ∧ p.toInt < ν 0 0
    · obtain ⟨k, hk, ek⟩ := in_nat (N := nH ν) h2 rfl
      refine wp_bd (wp_mono (sX4_bestOpening h hv p (-1) k none ek hk rfl) ?_)
      rintro r3 m3 ⟨a, b⟩
      exact wp_ret ⟨Or.inr ⟨k, hk, ek, a⟩, b⟩
    · rw [t_eq, e, if_neg h2] at c; exact absurd rfl c
theorem sX8_bestTwo (h : CN μ ν) (hv : Vd ν) (p s : Int32) : Wp (fX8_bestTwo p s μ) (fun r m => AnsBt ν p.toInt s.toInt r.toInt ∧ CN m ν) := by
  unfold fX8_bestTwo fX8_bestTwo_K27
  refine wp_rdf (sX1_hasPhase h p) (fun r e => wp_if (fun c => wp_ret ⟨Or.inl ⟨Or.inl (fun h2 => ?_), rfl⟩, h⟩) (fun c => wp_rdf (sX1_hasPhase h s) (fun r3 e3 => wp_if (fun c3 => wp_ret ⟨Or.inl ⟨Or.inr (Or.inl (fun h2 => ?_)), rfl⟩, h⟩) (fun c3 => wp_if (fun c4 => wp_ret ⟨Or.inl ⟨Or.inr (Or.inr (t_eq.mp c4)), rfl⟩, h⟩) (fun c4 => ?_)))))
  · rw [t_eq, e, if_pos h2] at c; exact absurd c (by decide)
  · rw [t_eq, e3, if_pos h2] at c3; exact absurd c3 (by decide)
  · by_cases h2 : 0 ≤ p.toInt ∧ p.toInt < ν 0 0
    · by_cases h3 : 0 ≤ s.toInt ∧ s.toInt < ν 0 0
      · obtain ⟨k, hk, ek⟩ := in_nat (N := nH ν) h2 rfl
        obtain ⟨c0, hc0, ec⟩ := in_nat (N := nH ν) h3 rfl
        rw [t_eq] at c4
        have hne : c0 ≠ k := fun h9 => c4 (by rw [ek, ec, h9])
        refine wp_bd (wp_mono (sX4_bestOpening h hv p s k (some c0) ek hk ⟨ec, hc0, hne⟩) ?_)
        rintro r5 m5 ⟨a, b⟩
        exact wp_ret ⟨Or.inr ⟨k, c0, hk, hc0, hne, ek, ec, a⟩, b⟩
      · rw [t_eq, e3, if_neg h3] at c3; exact absurd rfl c3
    · rw [t_eq, e, if_neg h2] at c; exact absurd rfl c
theorem sX9_bestOpens (h : RN μ ν) (hv : Vd ν) (p : Int32) : Wp (fX9_bestOpens p μ) (fun r m => AnsBo ν p.toInt r.toInt ∧ RN m ν) := by
  have hn := vd_nums hv
  unfold fX9_bestOpens
  refine wp_let ?_
  have h1 := RN_wi57 (j := 0) (v := 0) h
  generalize ax_wi μ 57 0 0 = m1 at h1
  refine wp_rdf (sX9_isPhase h1 p) (fun r e => wp_if (fun c => wp_ret ⟨Or.inl ⟨fun h2 => ?_, rfl⟩, h1⟩) (fun c => ?_))
  · rw [t_eq, e, if_pos h2] at c; exact absurd c (by decide)
  · by_cases h2 : 0 ≤ p.toInt ∧ p.toInt < ν 0 0
    · obtain ⟨a, ha, ea⟩ := in_nat (N := nH ν) h2 rfl
      have e1 : ((1 : Int32) + p).toInt = ((1 + a : Nat) : Int) := by rw [t_add, ea]; simp only [Int32.reduceToInt]; omega
      have em := (h1.2.1 a ha).2.1
      refine wp_rd (1 + a) e1 (by omega) ?_
      refine wp_lp3 (fun k (l3 l4 l5 : Int32) m => ∃ i : Nat, l5.toInt = (i : Int) ∧ i ≤ 64 ∧ k = 64 - i ∧ (∃ f, RN m (op ν f) ∧ Vd (op ν f) ∧ ∀ x, x ≠ a → f x = ν 1 x) ∧ BestP (fun i => op ν (oi ν a none i)) i l3.toInt l4.toInt) ax_FU ?_ 64 (by unfold ax_FU; omega) ⟨0, rfl, by omega, rfl, ⟨ν 1, by rw [op_same]; exact h1, by rw [op_same]; exact hv, fun x _ => rfl⟩, Or.inl ⟨rfl, rfl, fun j hj => by omega⟩⟩
      rintro k rc hrc l3 l4 l5 m ⟨i, hl5, hi, hk, ⟨f, hm, hvf, hf⟩, hB⟩
      unfold fX9_bestOpens_B35 fX9_bestOpens_K82
      refine wp_if (fun c2 => ?_) (fun c2 => ?_)
      · rw [t_le, hl5] at c2
        simp only [Int32.reduceToInt] at c2
        have hi2 : i = 64 := by omega
        subst hi2
        refine wp_wr (1 + a) e1 (by omega) (wp_ret ⟨Or.inr ⟨a, ha, ea, bestP_done hB⟩, ?_⟩)
        have hm5 := RN_open hm hvf a ha (m1.1 74 (1 + a))
        rw [em, up_op] at hm5
        have : (fun x => if x = a then ν 1 a else f x) = ν 1 := by
          funext x
          by_cases ex : x = a
          · rw [if_pos ex, ex]
          · rw [if_neg ex]; exact hf x ex
        rw [this, op_same] at hm5
        exact hm5
      · rw [t_le, hl5] at c2
        simp only [Int32.reduceToInt] at c2
        have hi2 : i < 64 := by omega
        refine wp_wr (1 + a) e1 (by omega) ?_
        have hm6 := RN_open hm hvf a ha l5
        rw [hl5, up_op] at hm6
        have efun : (fun x => if x = a then (i : Int) else f x) = oi ν a none i := by
          funext x
          show _ = if x = a then (i : Int) else ν 1 x
          by_cases ex : x = a
          · rw [if_pos ex, if_pos ex]
          · rw [if_neg ex, if_neg ex]; exact hf x ex
        rw [efun] at hm6
        have hv6 := vd_op hv (oi_bd hv a none i hi2)
        refine wp_bd (wp_mono (sX9_leastNow hm6 hv6) ?_)
        rintro r7 m8 ⟨⟨z, hz, hr7⟩, hm8⟩
        have hstep : ∀ x y : Int32, BestP (fun i => op ν (oi ν a none i)) (i + 1) x.toInt y.toInt → Wp (rc x y (l5 + 1) m8) (fun r m => AnsBo ν p.toInt r.toInt ∧ RN m ν) := fun x y hxy =>
          hrc (64 - (i + 1)) _ _ _ _ (by omega) ⟨i + 1, by simp only [t_add, hl5, Int32.reduceToInt]; omega, by omega, rfl, ⟨_, hm8, hv6, fun x hx => if_neg hx⟩, hxy⟩
        by_cases ez : z = -1
        · rw [if_pos ez] at hr7
          rw [if_pos (t_eq.mpr hr7)]
          exact hstep _ _ (bestP_none hB (by rw [ez] at hz; exact hz))
        · rw [if_neg ez] at hr7
          have hzp : 1 ≤ z := by
            rcases hz with ⟨q, -⟩ | ⟨q, -⟩
            · exact absurd q ez
            · exact q
          rw [if_neg (by rw [t_eq, hr7]; simp only [Int32.reduceToInt]; omega)]
          refine wp_if (fun c3 => hstep _ _ ?_) (fun c3 => hstep _ _ ?_)
          · rw [t_lt, hr7] at c3
            rw [hl5, hr7]
            exact bestP_take hB hz ez c3
          · rw [t_lt, hr7] at c3
            exact bestP_skip hB hz ez (by omega)
    · rw [t_eq, e, if_neg h2] at c; exact absurd rfl c
theorem sX9_bestTwo (h : RN μ ν) (hv : Vd ν) (p s : Int32) : Wp (fX9_bestTwo p s μ) (fun r m => AnsBt ν p.toInt s.toInt r.toInt ∧ RN m ν) := by
  have hn := vd_nums hv
  unfold fX9_bestTwo fX9_bestTwo_K26
  refine wp_let ?_
  have h1 := RN_wi57 (j := 0) (v := 0) h
  generalize ax_wi μ 57 0 0 = m1 at h1
  refine wp_rdf (sX9_isPhase h1 p) (fun r e => wp_if (fun c => wp_ret ⟨Or.inl ⟨Or.inl (fun h2 => ?_), rfl⟩, h1⟩) (fun c => wp_rdf (sX9_isPhase h1 s) (fun r3 e3 => wp_if (fun c3 => wp_ret ⟨Or.inl ⟨Or.inr (Or.inl (fun h2 => ?_)), rfl⟩, h1⟩) (fun c3 => wp_if (fun c4 => wp_ret ⟨Or.inl ⟨Or.inr (Or.inr (t_eq.mp c4)), rfl⟩, h1⟩) (fun c4 => ?_)))))
  · rw [t_eq, e, if_pos h2] at c; exact absurd c (by decide)
  · rw [t_eq, e3, if_pos h2] at c3; exact absurd c3 (by decide)
  · by_cases h2 : 0 ≤ p.toInt ∧ p.toInt < ν 0 0
    · by_cases h3 : 0 ≤ s.toInt ∧ s.toInt < ν 0 0
      · obtain ⟨a, ha, ea⟩ := in_nat (N := nH ν) h2 rfl
        obtain ⟨c0, hc0, ec⟩ := in_nat (N := nH ν) h3 rfl
        rw [t_eq] at c4
        have hne : c0 ≠ a := fun h9 => c4 (by rw [ea, ec, h9])
        have e1 : ((1 : Int32) + p).toInt = ((1 + a : Nat) : Int) := by rw [t_add, ea]; simp only [Int32.reduceToInt]; omega
        have e2 : ((1 : Int32) + s).toInt = ((1 + c0 : Nat) : Int) := by rw [t_add, ec]; simp only [Int32.reduceToInt]; omega
        have em := (h1.2.1 a ha).2.1
        have em2 := (h1.2.1 c0 hc0).2.1
        refine wp_rd (1 + a) e1 (by omega) (wp_rd (1 + c0) e2 (by omega) ?_)
        refine wp_lp3 (fun k (l5 l6 l7 : Int32) m => ∃ i : Nat, l7.toInt = (i : Int) ∧ i ≤ 4096 ∧ k = 4096 - i ∧ (∃ f, RN m (op ν f) ∧ (∀ x, x < nH ν → 0 ≤ f x ∧ f x ≤ 63) ∧ ∀ x, x ≠ a → x ≠ c0 → f x = ν 1 x) ∧ BestP (fun i => op ν (oi ν a (some c0) i)) i l5.toInt l6.toInt) ax_FU ?_ 4096 (by unfold ax_FU; omega) ⟨0, rfl, by omega, rfl, ⟨ν 1, by rw [op_same]; exact h1, fun x hx => ⟨(hv.2.1 x hx).1, (hv.2.1 x hx).2.1⟩, fun x _ _ => rfl⟩, Or.inl ⟨rfl, rfl, fun j hj => by omega⟩⟩
        rintro k rc hrc l5 l6 l7 m ⟨i, hl7, hi, hk, ⟨f, hm, hfb, hf⟩, hB⟩
        unfold fX9_bestTwo_B59 fX9_bestTwo_K124
        have hvf := vd_op hv hfb
        refine wp_if (fun c2 => ?_) (fun c2 => ?_)
        · rw [t_le, hl7] at c2
          simp only [Int32.reduceToInt] at c2
          have hi2 : i = 4096 := by omega
          subst hi2
          have va := hv.2.1 a ha
          refine wp_wr (1 + a) e1 (by omega) (wp_wr (1 + c0) e2 (by omega) (wp_ret ⟨Or.inr ⟨a, c0, ha, hc0, hne, ea, ec, bestP_done hB⟩, ?_⟩))
          have hm8 := RN_open hm hvf a ha (m1.1 74 (1 + a))
          rw [em, up_op] at hm8
          have hm9 := RN_open hm8 (vd_op hv (fun x hx => by
            by_cases ex : x = a
            · rw [if_pos ex]; exact ⟨va.1, va.2.1⟩
            · rw [if_neg ex]; exact hfb x hx)) c0 hc0 (m1.1 74 (1 + c0))
          rw [em2, up_op] at hm9
          have : (fun x => if x = c0 then ν 1 c0 else if x = a then ν 1 a else f x) = ν 1 := by
            funext x
            by_cases ex : x = c0
            · rw [if_pos ex, ex]
            · rw [if_neg ex]
              by_cases ex2 : x = a
              · rw [if_pos ex2, ex2]
              · rw [if_neg ex2]; exact hf x ex2 ex
          rw [this, op_same] at hm9
          exact hm9
        · rw [t_le, hl7] at c2
          simp only [Int32.reduceToInt] at c2
          have hi2 : i < 4096 := by omega
          obtain ⟨d1, d2, d3, d4⟩ := dv_ok (x := l7) (y := 64) (by omega) (by decide)
          rw [hl7, show Int32.toInt 64 = 64 from rfl] at d2 d4
          rw [d1]
          refine wp_some (wp_wr (1 + a) e1 (by omega) ?_)
          rw [d3]
          refine wp_some (wp_wr (1 + c0) e2 (by omega) ?_)
          have hm8 := RN_open hm hvf a ha (l7 / 64)
          rw [d2, up_op] at hm8
          have hm9 := RN_open hm8 (vd_op hv (fun x hx => by
            by_cases ex : x = a
            · rw [if_pos ex]; omega
            · rw [if_neg ex]; exact hfb x hx)) c0 hc0 (l7 - l7 / 64 * 64)
          rw [d4, up_op] at hm9
          have efun : (fun x => if x = c0 then (i : Int) % 64 else if x = a then (i : Int) / 64 else f x) = oi ν a (some c0) i := by
            funext x
            show _ = if x = c0 then ((i % 64 : Nat) : Int) else if x = a then ((i / 64 : Nat) : Int) else ν 1 x
            by_cases ex : x = c0
            · rw [if_pos ex, if_pos ex]; omega
            · rw [if_neg ex, if_neg ex]
              by_cases ex2 : x = a
              · rw [if_pos ex2, if_pos ex2]; omega
              · rw [if_neg ex2, if_neg ex2]; exact hf x ex2 ex
          rw [efun] at hm9
          have hob := oi_bd hv a (some c0) i hi2
          have hv6 := vd_op hv hob
          refine wp_bd (wp_mono (sX9_leastNow hm9 hv6) ?_)
          rintro r7 m15 ⟨⟨z, hz, hr7⟩, hm15⟩
          have hstep : ∀ x y : Int32, BestP (fun i => op ν (oi ν a (some c0) i)) (i + 1) x.toInt y.toInt → Wp (rc x y (l7 + 1) m15) (fun r m => AnsBt ν p.toInt s.toInt r.toInt ∧ RN m ν) := fun x y hxy =>
            hrc (4096 - (i + 1)) _ _ _ _ (by omega) ⟨i + 1, by simp only [t_add, hl7, Int32.reduceToInt]; omega, by omega, rfl, ⟨_, hm15, hob, fun x hx hx2 => by
              show (if x = c0 then _ else if x = a then _ else ν 1 x) = ν 1 x
              rw [if_neg hx2, if_neg hx]⟩, hxy⟩
          by_cases ez : z = -1
          · rw [if_pos ez] at hr7
            rw [if_pos (t_eq.mpr hr7)]
            exact hstep _ _ (bestP_none hB (by rw [ez] at hz; exact hz))
          · rw [if_neg ez] at hr7
            have hzp : 1 ≤ z := by
              rcases hz with ⟨q, -⟩ | ⟨q, -⟩
              · exact absurd q ez
              · exact q
            rw [if_neg (by rw [t_eq, hr7]; simp only [Int32.reduceToInt]; omega)]
            refine wp_if (fun c5 => hstep _ _ ?_) (fun c5 => hstep _ _ ?_)
            · rw [t_lt, hr7] at c5
              rw [hl7, hr7]
              exact bestP_take hB hz ez c5
            · rw [t_lt, hr7] at c5
              exact bestP_skip hB hz ez (by omega)
      · rw [t_eq, e3, if_neg h3] at c3; exact absurd rfl c3
    · rw [t_eq, e, if_neg h2] at c; exact absurd rfl c
end BREF
