/-! good -/
def gd (ν : Nv) (T : Int) : Bool := bd ν T && (List.range (nC ν)).all (fun c => decide (0 ≤ Lm ν T c - (if Fb ν c = true then CC ν T c else LL ν T c)))
section GOOD
variable {μ : ax_M} {ν : Nv} {T : Int}
theorem lm_flop {c : Nat} (h : Fb ν c = true) : Lm ν T c = -64 * ν 4 c := by
  unfold Lm
  rw [if_pos h]
  omega
theorem ll_cc (h : bd ν T = true) (c : Nat) (hc : c < nC ν) : LL ν T c = if Fb ν c = true then 0 else if CC ν T c < 0 then 0 else CC ν T c := by
  unfold bd at h
  rw [List.all_eq_true] at h
  have h1 := of_decide_eq_true (h c (List.mem_range.mpr hc))
  unfold LL
  rw [← h1]
  rfl
theorem gd_iff (hv : Vd ν) : gd ν T = true ↔ Gd (nC ν) (nP ν) (Fr ν) (To ν) (Wt ν T) (Fb ν) (Lm ν T) := by
  unfold gd
  rw [Bool.and_eq_true, List.all_eq_true]
  constructor
  · rintro ⟨h1, h2⟩
    have hL := ll_lf hv h1
    refine (gd_lf (vd_rng hv) hL).mpr ⟨fun c hc hf => ?_, fun p hp hf => ?_⟩
    · have := of_decide_eq_true (h2 c (List.mem_range.mpr hc))
      rw [if_neg (by rw [hf]; decide)] at this
      omega
    · have := of_decide_eq_true (h2 (To ν p) (List.mem_range.mpr (vd_rng hv p hp).2))
      rw [if_pos hf] at this
      have h3 := cm_ge (ν := ν) (v := fun p => LL ν T (Fr ν p) + Wt ν T p) hp rfl
      have h3 : LL ν T (Fr ν p) + Wt ν T p ≤ CC ν T (To ν p) := h3
      omega
  · intro hg
    obtain ⟨U, hU, -⟩ := id hg
    have hb : bd ν T = true := (bd_iff hv).mpr ⟨U, hU⟩
    have hL := ll_lf hv hb
    obtain ⟨h1, h2⟩ := (gd_lf (vd_rng hv) hL).mp hg
    refine ⟨hb, fun c hc => decide_eq_true ?_⟩
    have hc := List.mem_range.mp hc
    by_cases hf : Fb ν c = true
    · rw [if_pos hf]
      rcases cm_cases (ν := ν) (fun p => LL ν T (Fr ν p) + Wt ν T p) c with ⟨p, hp, ht, e⟩ | ⟨hn, e⟩
      · have := h2 p hp (by rw [ht]; exact hf)
        rw [ht] at this
        have e : CC ν T c = LL ν T (Fr ν p) + Wt ν T p := e
        omega
      · have e : CC ν T c = _ := e
        rw [if_pos hf] at e
        rw [lm_flop hf]
        omega
    · rw [if_neg hf]
      have := h1 c hc (by simpa using hf)
      omega
theorem lm_bd (hv : Vd ν) (h0 : 0 ≤ T) (h1 : T ≤ 9999) (c : Nat) (hc : c < nC ν) : -6336 ≤ Lm ν T c ∧ Lm ν T c ≤ 629937 ∧ 0 ≤ ν 2 (Ph ν c) * T ∧ ν 2 (Ph ν c) * T ≤ 629937 := by
  obtain ⟨b1, b2, b3, b4⟩ := vd_cell hv c hc
  have v1 := hv.2.1 _ b2
  have v2 := hv.2.2.1 c hc
  have m1 : 0 ≤ ν 2 (Ph ν c) * T := Int.mul_nonneg (by omega) h0
  have m2 : ν 2 (Ph ν c) * T ≤ 63 * T := Int.mul_le_mul_of_nonneg_right v1.2.2.2 h0
  unfold Lm
  refine ⟨?_, ?_, m1, by omega⟩
  · split <;> omega
  · split <;> omega
theorem sX1_limitOf (h : CN μ ν) (hv : Vd ν) (p t : Int32) (c : Nat) (hp : p.toInt = c) (hc : c < nC ν) (h0 : 0 ≤ t.toInt) (h1 : t.toInt ≤ 9999) : Rd (fX1_limitOf p t μ) μ (Lm ν t.toInt c) := by
  obtain ⟨b1, b2, b3, b4⟩ := vd_cell hv c hc
  have f1 := h.2.2.1 c hc
  have g1 := h.2.1 _ b2
  have lb := lm_bd hv h0 h1 c hc
  have v2 := hv.2.2.1 c hc
  unfold fX1_limitOf fX1_limitOf_K25
  refine rd_wp (wp_rdf (sX1_isFlop h hv p c hp hc) (fun r e => wp_if (fun c1 => ?_) (fun c1 => ?_)))
  · rw [t_eq, e] at c1
    have hf : ¬ Fb ν c = true := fun h2 => by rw [if_pos h2] at c1; exact absurd c1 (by decide)
    refine wp_rd c hp b1 (wp_rd (Ph ν c) (by rw [f1.2.1, b3]) (by omega) (wp_rd c hp b1 (wp_ret ⟨?_, rfl⟩)))
    simp only [t_sub, t_mul, f1.2.2.1, g1.2.2, Int32.reduceToInt]
    unfold Lm
    rw [if_neg hf]
    omega
  · rw [t_eq, e] at c1
    have hf : Fb ν c = true := by
      by_cases h2 : Fb ν c = true
      · exact h2
      · rw [if_neg h2] at c1; exact absurd rfl c1
    refine wp_rd c hp b1 (wp_ret ⟨?_, rfl⟩)
    simp only [t_sub, t_mul, f1.2.2.1, Int32.reduceToInt]
    rw [lm_flop hf]
    omega
theorem sX1_roomBy (h : CN μ ν) (hv : Vd ν) (p x : Int32) (c : Nat) (hp : p.toInt = c) (hc : c < nC ν) (hx : -100000000 ≤ x.toInt) (hx2 : x.toInt ≤ 100000000) : Rd (fX1_roomBy p x μ) μ (Lm ν (ν 0 3) c - (if Fb ν c = true then x.toInt else if x.toInt < 0 then 0 else x.toInt)) := by
  have h0 := hv.1
  have lb := lm_bd hv (T := ν 0 3) (by omega) (by omega) c hc
  have eT := h.1.2.2.2.1
  unfold fX1_roomBy fX1_roomBy_K26
  have hl := sX1_limitOf h hv p (μ.1 2 16) c hp hc (by omega) (by omega)
  rw [eT] at hl
  refine rd_wp (wp_rdf hl (fun r1 e1 => wp_rdf (sX1_isFlop h hv p c hp hc) (fun r e => wp_if (fun c1 => wp_ret ⟨?_, rfl⟩) (fun c1 => wp_ret ⟨?_, rfl⟩))))
  · rw [t_eq, e] at c1
    have hf : ¬ Fb ν c = true := fun h2 => by rw [if_pos h2] at c1; exact absurd c1 (by decide)
    rw [if_neg hf, t_sub, e1, mx_toInt]
    simp only [Int32.reduceToInt]
    split <;> omega
  · rw [t_eq, e] at c1
    have hf : Fb ν c = true := by
      by_cases h2 : Fb ν c = true
      · exact h2
      · rw [if_neg h2] at c1; exact absurd rfl c1
    rw [if_pos hf, t_sub, e1]
    omega
theorem sX5_roomOf (h : CN μ ν) (hv : Vd ν) (ht : TOk μ ν) (hb : bd ν (ν 0 3) = true) (p : Int32) (c : Nat) (hp : p.toInt = c) (hc : c < nC ν) : Rd (fX5_roomOf p μ) μ (Lm ν (ν 0 3) c - (if Fb ν c = true then CC ν (ν 0 3) c else LL ν (ν 0 3) c)) := by
  have h0 := hv.1
  have h10 := (vd_cell hv c hc).1
  rcases ht with ⟨-, hb2⟩ | ⟨-, -, hL, hC, hW⟩
  · rw [hb] at hb2; cases hb2
  · unfold fX5_roomOf
    have cb := cc_bd hv (T := ν 0 3) (by omega) (by omega) c hc
    have e1 := hC c hc
    refine rd_wp (wp_rd c hp h10 (wp_rdf (sX1_roomBy h hv p _ c hp hc (by omega) (by omega)) (fun r e => wp_ret ⟨?_, rfl⟩)))
    rw [e, e1]
    by_cases hf : Fb ν c = true
    · rw [if_pos hf, if_pos hf]
    · rw [if_neg hf, if_neg hf, ll_cc hb c hc, if_neg hf]
theorem sX9_roomOf (h : RN μ ν) (hv : Vd ν) (p : Int32) (x y : Int64) (c : Nat) (hp : p.toInt = c) (hc : c < nC ν) (hx : -100000000 ≤ x.toInt) (hx2 : x.toInt ≤ 100000000) (hy : -100000000 ≤ y.toInt) (hy2 : y.toInt ≤ 100000000) : Rd6 (fX9_roomOf p x y μ) μ (Lm ν (ν 0 3) c - (if Fb ν c = true then y.toInt else x.toInt)) := by
  have h0 := hv.1
  obtain ⟨b1, b2, b3, b4⟩ := vd_cell hv c hc
  have f1 := h.2.2.1 c hc
  have g1 := h.2.1 _ b2
  have v2 := hv.2.2.1 c hc
  have lb := lm_bd hv (T := ν 0 3) (by omega) (by omega) c hc
  unfold fX9_roomOf fX9_roomOf_K54
  refine rd6_wp (wp_rd c hp (by omega) (wp_let (wp_rdf (sX9_isFlop h hv p c hp hc) (fun r e => wp_if (fun c1 => ?_) (fun c1 => wp_ret ⟨?_, rfl⟩)))))
  · rw [t_eq, e] at c1
    have hf : ¬ Fb ν c = true := fun h2 => by rw [if_pos h2] at c1; exact absurd c1 (by decide)
    refine wp_rd c hp (by omega) (wp_rd (5 + Ph ν c) (by simp only [t_add, f1.2.1, b3, Int32.reduceToInt]; omega) (by omega) (wp_rd6f (sX9_periodLong h) (fun r7 e7 => wp_ret ⟨?_, rfl⟩)))
    simp only [t_sub64, t_mul64, t_64, f1.2.2.1, g1.2.2, e7, Int64.reduceToInt]
    unfold Lm
    rw [if_neg hf, if_neg hf]
    omega
  · rw [t_eq, e] at c1
    have hf : Fb ν c = true := by
      by_cases h2 : Fb ν c = true
      · exact h2
      · rw [if_neg h2] at c1; exact absurd rfl c1
    simp only [t_sub64, t_mul64, t_neg64, t_64, f1.2.2.1, Int64.reduceToInt]
    rw [if_pos hf, lm_flop hf]
    omega
theorem sX9_isGood (h : RN μ ν) (hv : Vd ν) : Wp (fX9_isGood μ) (fun r m => RN m ν ∧ ROk m ν ∧ r.toInt = if gd ν (ν 0 3) = true then 1 else 0) := by
  have h0 := hv.1
  have hnC : ν 0 1 = (nC ν : Nat) := by unfold nC; omega
  unfold fX9_isGood
  refine wp_bd (wp_mono (sX9_settles h hv) ?_)
  rintro _ m ⟨hm, hR⟩
  rcases id hR with ⟨r1, hb⟩ | ⟨r1, hb, hLC⟩
  · rw [if_neg (by rw [t_eq, r1]; decide)]
    refine wp_ret ⟨hm, hR, ?_⟩
    rw [if_neg (by unfold gd; rw [hb, Bool.false_and]; decide)]; rfl
  · rw [if_pos (t_eq.mpr r1)]
    refine wp_lp1 (fun k (l : Int32) m2 => m2 = m ∧ ∃ i : Nat, l.toInt = (i : Int) ∧ i ≤ nC ν ∧ k = nC ν - i ∧ ∀ c, c < i → 0 ≤ Lm ν (ν 0 3) c - (if Fb ν c = true then CC ν (ν 0 3) c else LL ν (ν 0 3) c)) ax_FU ?_ (nC ν) (by unfold ax_FU; omega) ⟨rfl, 0, rfl, by omega, rfl, fun c hc => by omega⟩
    rintro k rc hrc l m2 ⟨rfl, i, hl, hi, hk, hz⟩
    unfold fX9_isGood_B15
    refine wp_rdf (sX9_cells hm) (fun r er => wp_if (fun c => wp_ret ⟨hm, hR, ?_⟩) (fun c => ?_))
    · rw [t_le, er, hl] at c
      rw [if_pos (by
        unfold gd
        rw [hb, Bool.true_and, List.all_eq_true]
        intro d hd
        have := List.mem_range.mp hd
        exact decide_eq_true (hz d (by omega)))]
      rfl
    · rw [t_le, er, hl] at c
      have hi2 : i < nC ν := by omega
      have hLi := hLC i hi2
      have b1 := ll_bd hv (T := ν 0 3) (by omega) (by omega) i
      have b2 := cc_bd hv (T := ν 0 3) (by omega) (by omega) i hi2
      refine wp_rl i hl (by omega) (wp_rl i hl (by omega) (wp_rd6f (sX9_roomOf hm hv l _ _ i hl hi2 (by omega) (by omega) (by omega) (by omega)) (fun r7 e7 => wp_if (fun c2 => ?_) (fun c2 => wp_ret ⟨hm, hR, ?_⟩))))
      · rw [cmp_ge, e7, hLi.1, hLi.2] at c2
        simp only [Int64.reduceToInt] at c2
        refine hrc (nC ν - (i + 1)) _ _ (by omega) ⟨rfl, i + 1, by simp only [t_add, hl, Int32.reduceToInt]; omega, by omega, rfl, fun d hd => ?_⟩
        by_cases e : d = i
        · rw [e]; exact c2
        · exact hz d (by omega)
      · rw [cmp_ge, e7, hLi.1, hLi.2] at c2
        simp only [Int64.reduceToInt] at c2
        rw [if_neg (by
          unfold gd
          rw [hb, Bool.true_and, List.all_eq_true]
          intro h9
          exact c2 (of_decide_eq_true (h9 i (List.mem_range.mpr hi2))))]
        rfl
end GOOD
