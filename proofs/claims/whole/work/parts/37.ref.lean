/-! the reference's net holds these numbers -/
def RN (μ : ax_M) (ν : Nv) : Prop :=
  ((μ.1 59 1).toInt = ν 0 0 ∧ (μ.1 59 2).toInt = ν 0 1 ∧ (μ.1 59 3).toInt = ν 0 2 ∧ (μ.1 74 0).toInt = ν 0 3 ∧ (μ.1 74 67).toInt = ν 0 4 ∧ (μ.1 59 4).toInt = ν 0 5) ∧
  (∀ i, i < nH ν → (μ.1 61 i).toInt = ν 12 i ∧ (μ.1 74 (1 + i)).toInt = ν 1 i ∧ (μ.1 74 (5 + i)).toInt = ν 2 i) ∧
  (∀ c, c < nC ν → (μ.1 64 c).toInt = ν 13 c ∧ (μ.1 65 c).toInt = ν 3 c ∧ (μ.1 66 c).toInt = ν 4 c ∧ (μ.1 67 c).toInt = ν 5 c ∧ (μ.1 68 c).toInt = ν 6 c ∧ (μ.1 74 (9 + c)).toInt = ν 11 c) ∧
  (∀ p, p < nP ν → (μ.1 70 p).toInt = ν 7 p ∧ (μ.1 71 p).toInt = ν 8 p ∧ (μ.1 74 (19 + p)).toInt = ν 9 p ∧ (μ.1 74 (43 + p)).toInt = ν 10 p)
theorem RN_keep {μ μ2 : ax_M} {ν : Nv} (h : RN μ ν) (hk : ∀ a, 59 ≤ a → a < 75 → μ2.1 a = μ.1 a) : RN μ2 ν := by
  unfold RN at *
  rw [hk 59 (by omega) (by omega), hk 61 (by omega) (by omega), hk 64 (by omega) (by omega), hk 65 (by omega) (by omega), hk 66 (by omega) (by omega), hk 67 (by omega) (by omega), hk 68 (by omega) (by omega), hk 70 (by omega) (by omega), hk 71 (by omega) (by omega), hk 74 (by omega) (by omega)]
  exact h
theorem t_64 (a : Int32) : (Int32.toInt64 a).toInt = a.toInt := Int32.toInt_toInt64 a
theorem cmp_le (x y : Int64) : lg_cmp x y ≤ 0 ↔ x.toInt ≤ y.toInt := by
  unfold lg_cmp
  simp only [gt_iff_lt, t_lt64, t_eq64]
  by_cases h1 : y.toInt < x.toInt
  · rw [if_pos h1]; exact ⟨fun h => absurd h (by decide), fun h => by omega⟩
  · rw [if_neg h1]
    by_cases h2 : x.toInt = y.toInt
    · rw [if_pos h2]; exact ⟨fun _ => by omega, fun _ => by decide⟩
    · rw [if_neg h2]; exact ⟨fun _ => by omega, fun _ => by decide⟩
theorem cmp_ge (x y : Int64) : 0 ≤ lg_cmp x y ↔ y.toInt ≤ x.toInt := by rw [lg_cmp_ge, t_le64]
theorem cmp_eq (x y : Int64) : lg_cmp x y = 0 ↔ x.toInt = y.toInt := by
  unfold lg_cmp
  simp only [gt_iff_lt, t_lt64, t_eq64]
  by_cases h1 : y.toInt < x.toInt
  · rw [if_pos h1]; exact ⟨fun h => absurd h (by decide), fun h => by omega⟩
  · rw [if_neg h1]
    by_cases h2 : x.toInt = y.toInt
    · rw [if_pos h2]; exact ⟨fun _ => h2, fun _ => rfl⟩
    · rw [if_neg h2]; exact ⟨fun h => absurd h (by decide), fun h => absurd h h2⟩
section RNET
variable {μ : ax_M} {ν : Nv}
theorem RN_wi57 {j : Nat} {v : Int32} (h : RN μ ν) : RN (ax_wi μ 57 j v) ν := RN_keep h (fun a h1 _ => wi_ne (by omega))
theorem RN_wl {i j : Nat} {v : Int64} (h : RN μ ν) : RN (ax_wl μ i j v) ν := h
theorem sX9_phases (h : RN μ ν) : Rd (fX9_phases μ) μ (ν 0 0) := by
  unfold fX9_phases
  exact rd_wp (wp_rd 1 rfl (by omega) (wp_ret ⟨h.1.1, rfl⟩))
theorem sX9_cells (h : RN μ ν) : Rd (fX9_cells μ) μ (ν 0 1) := by
  unfold fX9_cells
  exact rd_wp (wp_rd 2 rfl (by omega) (wp_ret ⟨h.1.2.1, rfl⟩))
theorem sX9_paths (h : RN μ ν) : Rd (fX9_paths μ) μ (ν 0 2) := by
  unfold fX9_paths
  exact rd_wp (wp_rd 3 rfl (by omega) (wp_ret ⟨h.1.2.2.1, rfl⟩))
theorem sX9_isPhase (h : RN μ ν) (p : Int32) : Rd (fX9_isPhase p μ) μ (if 0 ≤ p.toInt ∧ p.toInt < ν 0 0 then 1 else 0) := by
  unfold fX9_isPhase fX9_isPhase_K16 fX9_isPhase_K17
  refine rd_wp (wp_if (fun c => wp_ret ⟨?_, rfl⟩) (fun c => wp_rdf (sX9_phases h) (fun r e => wp_if (fun c2 => wp_ret ⟨?_, rfl⟩) (fun c2 => wp_ret ⟨?_, rfl⟩))))
  · simp only [t_lt, Int32.reduceToInt] at c; rw [if_neg (by omega)]; rfl
  · simp only [t_le, e] at c2; rw [if_neg (by omega)]; rfl
  · simp only [t_lt, t_le, e, Int32.reduceToInt] at c c2; rw [if_pos (by omega)]; rfl
theorem sX9_isCell (h : RN μ ν) (p : Int32) : Rd (fX9_isCell p μ) μ (if 0 ≤ p.toInt ∧ p.toInt < ν 0 1 then 1 else 0) := by
  unfold fX9_isCell fX9_isCell_K16 fX9_isCell_K17
  refine rd_wp (wp_if (fun c => wp_ret ⟨?_, rfl⟩) (fun c => wp_rdf (sX9_cells h) (fun r e => wp_if (fun c2 => wp_ret ⟨?_, rfl⟩) (fun c2 => wp_ret ⟨?_, rfl⟩))))
  · simp only [t_lt, Int32.reduceToInt] at c; rw [if_neg (by omega)]; rfl
  · simp only [t_le, e] at c2; rw [if_neg (by omega)]; rfl
  · simp only [t_lt, t_le, e, Int32.reduceToInt] at c c2; rw [if_pos (by omega)]; rfl
theorem sX9_isPath (h : RN μ ν) (p : Int32) : Rd (fX9_isPath p μ) μ (if 0 ≤ p.toInt ∧ p.toInt < ν 0 2 then 1 else 0) := by
  unfold fX9_isPath fX9_isPath_K16 fX9_isPath_K17
  refine rd_wp (wp_if (fun c => wp_ret ⟨?_, rfl⟩) (fun c => wp_rdf (sX9_paths h) (fun r e => wp_if (fun c2 => wp_ret ⟨?_, rfl⟩) (fun c2 => wp_ret ⟨?_, rfl⟩))))
  · simp only [t_lt, Int32.reduceToInt] at c; rw [if_neg (by omega)]; rfl
  · simp only [t_le, e] at c2; rw [if_neg (by omega)]; rfl
  · simp only [t_lt, t_le, e, Int32.reduceToInt] at c c2; rw [if_pos (by omega)]; rfl
theorem sX9_isFlop (h : RN μ ν) (hv : Vd ν) (p : Int32) (c : Nat) (hp : p.toInt = c) (hc : c < nC ν) : Rd (fX9_isFlop p μ) μ (if Fb ν c = true then 1 else 0) := by
  have h1 := (h.2.2.1 c hc).2.2.2.2.2
  have h10 := (vd_cell hv c hc).1
  unfold fX9_isFlop fX9_isFlop_K18
  refine rd_wp (wp_rd (9 + c) (by simp only [t_add, hp, Int32.reduceToInt]; omega) (by omega) (wp_if (fun c2 => wp_ret ⟨?_, rfl⟩) (fun c2 => wp_ret ⟨?_, rfl⟩)))
  · rw [t_eq, h1] at c2
    rw [if_pos (show Fb ν c = true from decide_eq_true c2)]; rfl
  · rw [t_eq, h1] at c2
    rw [if_neg (show ¬ Fb ν c = true from fun h2 => c2 (of_decide_eq_true h2))]; rfl
theorem sX9_periodLong (h : RN μ ν) : Rd6 (fX9_periodLong μ) μ (ν 0 3) := by
  unfold fX9_periodLong
  exact rd6_wp (wp_rd 0 rfl (by omega) (wp_ret ⟨by rw [t_64]; exact h.1.2.2.2.1, rfl⟩))
theorem sX9_shiftOf (h : RN μ ν) (hv : Vd ν) (p : Int32) (k : Nat) (hp : p.toInt = k) (hk : k < nP ν) : Rd (fX9_shiftOf p μ) μ (Sh ν k) := by
  obtain ⟨a1, a2, a3, a4, a5, a6⟩ := vd_path hv k hk
  have e := h.2.2.2 k hk
  obtain ⟨b1, b2, b3, b4⟩ := vd_cell hv _ a3
  obtain ⟨d1, d2, d3, d4⟩ := vd_cell hv _ a2
  have f1 := h.2.2.1 _ a3
  have f2 := h.2.2.1 _ a2
  have g1 := h.2.1 _ b2
  have g2 := h.2.1 _ d2
  have v1 := hv.2.1 _ b2
  have v2 := hv.2.1 _ d2
  unfold fX9_shiftOf fX9_shiftOf_K50
  refine rd_wp (wp_rd k hp (by omega) (wp_rd (To ν k) (by rw [e.2.1, a5]) (by omega) (wp_rd (1 + Ph ν (To ν k)) (by simp only [t_add, f1.2.1, b3, Int32.reduceToInt]; omega) (by omega) (wp_rd k hp (by omega) (wp_rd (Fr ν k) (by rw [e.1, a4]) (by omega) (wp_rd (1 + Ph ν (Fr ν k)) (by simp only [t_add, f2.2.1, d3, Int32.reduceToInt]; omega) (by omega) (wp_let ?_)))))))
  have hz : (μ.1 74 (1 + Ph ν (To ν k)) - μ.1 74 (1 + Ph ν (Fr ν k))).toInt = ν 1 (Ph ν (To ν k)) - ν 1 (Ph ν (Fr ν k)) := by
    rw [t_sub, g1.2.1, g2.2.1]; omega
  refine wp_if (fun c => wp_ret ⟨?_, rfl⟩) (fun c => wp_ret ⟨?_, rfl⟩)
  · rw [t_le, hz] at c
    simp only [Int32.reduceToInt] at c
    simp only [t_add, hz, Int32.reduceToInt]
    unfold Sh
    rw [if_pos c]
    omega
  · rw [t_le, hz] at c
    simp only [Int32.reduceToInt] at c
    unfold Sh
    rw [if_neg c, hz]
theorem r_dl (h : RN μ ν) (hv : Vd ν) (k : Nat) (hk : k < nP ν) (r7 : Int32) (r9 : Int64) (e7 : r7.toInt = Sh ν k) (e9 : r9.toInt = ν 0 3) (x : Int64) (hx : 0 ≤ x.toInt) (hx2 : x.toInt ≤ 100000000) : ((x + 64 * Int32.toInt64 (μ.1 68 (Fr ν k) + μ.1 74 (19 + k) + μ.1 74 67)) - Int32.toInt64 r7 * r9).toInt = x.toInt + Wt ν (ν 0 3) k := by
  obtain ⟨a1, a2, a3, a4, a5, a6⟩ := vd_path hv k hk
  have e := h.2.2.2 k hk
  have f2 := h.2.2.1 _ a2
  have h1 := hv.2.2.1 _ a2
  have h2 := hv.2.2.2.1 k hk
  have h0 := hv.1
  have bd := sht_bd hv k hk (ν 0 3) (by omega)
  have e0 := h.1
  simp only [t_sub64, t_add64, t_mul64, t_64, t_add, e7, e9, f2.2.2.2.2.1, e.2.2.1, e0.2.2.2.2.1, Int64.reduceToInt]
  unfold Wt Dl
  omega
theorem sX9_comesBy (h : RN μ ν) (hv : Vd ν) (p : Int32) (k : Nat) (hp : p.toInt = k) (hk : k < nP ν) (hb : 0 ≤ (μ.2 78 (Fr ν k)).toInt ∧ (μ.2 78 (Fr ν k)).toInt ≤ 100000000) : Rd6 (fX9_comesBy p μ) μ ((μ.2 78 (Fr ν k)).toInt + Wt ν (ν 0 3) k) := by
  obtain ⟨a1, a2, a3, a4, a5, a6⟩ := vd_path hv k hk
  have e := h.2.2.2 k hk
  unfold fX9_comesBy
  refine rd6_wp (wp_rd k hp (by omega) (wp_rl (Fr ν k) (by rw [e.1, a4]) (by omega) (wp_rd k hp (by omega) (wp_rd (Fr ν k) (by rw [e.1, a4]) (by omega) (wp_rd (19 + k) (by simp only [t_add, hp, Int32.reduceToInt]; omega) (by omega) (wp_rd 67 rfl (by omega) (wp_rdf (sX9_shiftOf h hv p k hp hk) (fun r7 e7 => wp_rd6f (sX9_periodLong h) (fun r9 e9 => wp_ret ⟨?_, rfl⟩)))))))))
  exact r_dl h hv k hk r7 r9 e7 e9 _ hb.1 hb.2
theorem sX9_comesBy_1 (h : RN μ ν) (hv : Vd ν) (p : Int32) (k : Nat) (hp : p.toInt = k) (hk : k < nP ν) (hb : 0 ≤ (μ.2 76 (Fr ν k)).toInt ∧ (μ.2 76 (Fr ν k)).toInt ≤ 100000000) : Rd6 (fX9_comesBy_1 p μ) μ ((μ.2 76 (Fr ν k)).toInt + Wt ν (ν 0 3) k) := by
  obtain ⟨a1, a2, a3, a4, a5, a6⟩ := vd_path hv k hk
  have e := h.2.2.2 k hk
  unfold fX9_comesBy_1
  refine rd6_wp (wp_rd k hp (by omega) (wp_rl (Fr ν k) (by rw [e.1, a4]) (by omega) (wp_rd k hp (by omega) (wp_rd (Fr ν k) (by rw [e.1, a4]) (by omega) (wp_rd (19 + k) (by simp only [t_add, hp, Int32.reduceToInt]; omega) (by omega) (wp_rd 67 rfl (by omega) (wp_rdf (sX9_shiftOf h hv p k hp hk) (fun r7 e7 => wp_rd6f (sX9_periodLong h) (fun r9 e9 => wp_ret ⟨?_, rfl⟩)))))))))
  exact r_dl h hv k hk r7 r9 e7 e9 _ hb.1 hb.2
theorem sX9_comesTo (h : RN μ ν) (hv : Vd ν) (l : Int32) (c : Nat) (hl : l.toInt = c) (hc : c < nC ν) (hb : ∀ d, d < nC ν → 0 ≤ (μ.2 78 d).toInt ∧ (μ.2 78 d).toInt ≤ 100000000) : Rd6 (fX9_comesTo l μ) μ (Cm ν (fun p => (μ.2 78 (Fr ν p)).toInt + Wt ν (ν 0 3) p) c) := by
  have h0 := hv.1
  have h10 := (vd_cell hv c hc).1
  have hnP : ν 0 2 = (nP ν : Nat) := by unfold nP; omega
  have hst := hv.2.2.1 c hc
  have hs4 := (h.2.2.1 c hc).2.2.1
  have key : ∀ s0 : Int64, s0.toInt = (if Fb ν c = true then -64 * ν 4 c else 0) → Wp (fX9_comesTo_K23 l s0 μ) (fun r m => r.toInt = Cm ν (fun p => (μ.2 78 (Fr ν p)).toInt + Wt ν (ν 0 3) p) c ∧ m = μ) := by
    intro s0 hs
    unfold fX9_comesTo_K23
    refine wp_lp3 (fun k (x : Int64) (y z : Int32) m => m = μ ∧ ∃ i : Nat, z.toInt = (i : Int) ∧ i ≤ nP ν ∧ k = nP ν - i ∧ ((y.toInt = 0 ∧ x.toInt = s0.toInt ∧ cmo (fun p => (μ.2 78 (Fr ν p)).toInt + Wt ν (ν 0 3) p) (To ν) c i = none) ∨ (y.toInt = 1 ∧ cmo (fun p => (μ.2 78 (Fr ν p)).toInt + Wt ν (ν 0 3) p) (To ν) c i = some x.toInt))) ax_FU ?_ (nP ν) (by unfold ax_FU; omega) ⟨rfl, 0, rfl, by omega, rfl, Or.inl ⟨rfl, rfl, rfl⟩⟩
    rintro k rc hrc x y z m ⟨rfl, i, hz, hi, hk, hxy⟩
    unfold fX9_comesTo_B30 fX9_comesTo_K74 fX9_comesTo_K80 fX9_comesTo_K84
    refine wp_rdf (sX9_paths h) (fun r er => wp_if (fun c2 => wp_ret ⟨?_, rfl⟩) (fun c2 => ?_))
    · rw [t_le, er, hz] at c2
      have hi2 : i = nP ν := by omega
      subst hi2
      unfold Cm
      rcases hxy with ⟨-, h1, h2⟩ | ⟨-, h2⟩
      · rw [h2, h1, hs]
      · rw [h2]
    · rw [t_le, er, hz] at c2
      have hi2 : i < nP ν := by omega
      obtain ⟨a1, a2, a3, a4, a5, a6⟩ := vd_path hv i hi2
      have e := h.2.2.2 i hi2
      have hlt : nP ν - (i + 1) < k := by omega
      have hl4 : (z + 1).toInt = ((i + 1 : Nat) : Int) := by simp only [t_add, hz, Int32.reduceToInt]; omega
      refine wp_rd i hz (by omega) (wp_if (fun c3 => ?_) (fun c3 => ?_))
      · rw [t_eq, e.2.1, a5, hl] at c3
        have c4 : To ν i = c := by omega
        refine wp_rd6f (sX9_comesBy h hv z i hz hi2 (hb _ a2)) (fun r6 e6 => wp_if (fun c5 => ?_) (fun c5 => wp_if (fun c6 => ?_) (fun c6 => ?_)))
        · rw [t_eq] at c5
          refine hrc _ _ _ _ _ hlt ⟨rfl, i + 1, hl4, by omega, rfl, Or.inr ⟨rfl, ?_⟩⟩
          rcases hxy with ⟨-, -, h2⟩ | ⟨h1, -⟩
          · simp only [cmo, if_pos c4, h2, e6]
          · rw [h1] at c5; exact absurd c5 (by decide)
        · rw [cmp_le, e6] at c6
          refine hrc _ _ _ _ _ hlt ⟨rfl, i + 1, hl4, by omega, rfl, Or.inr ⟨rfl, ?_⟩⟩
          rcases hxy with ⟨h1, -, -⟩ | ⟨-, h2⟩
          · exact absurd (t_eq.mpr h1) c5
          · simp only [cmo, if_pos c4, h2]
            rw [if_neg (by omega)]
        · rw [cmp_le, e6] at c6
          refine hrc _ _ _ _ _ hlt ⟨rfl, i + 1, hl4, by omega, rfl, Or.inr ⟨rfl, ?_⟩⟩
          rcases hxy with ⟨h1, -, -⟩ | ⟨-, h2⟩
          · exact absurd (t_eq.mpr h1) c5
          · simp only [cmo, if_pos c4, h2, e6]
            rw [if_pos (by omega)]
      · rw [t_eq, e.2.1, a5, hl] at c3
        have c4 : ¬ To ν i = c := by omega
        refine hrc _ _ _ _ _ hlt ⟨rfl, i + 1, hl4, by omega, rfl, ?_⟩
        simp only [cmo, if_neg c4]
        exact hxy
  unfold fX9_comesTo
  refine rd6_wp (wp_rdf (sX9_isFlop h hv l c hl hc) (fun r er => wp_if (fun c2 => ?_) (fun c2 => ?_)))
  · rw [t_eq, er] at c2
    have hf : ¬ Fb ν c = true := fun h2 => by rw [if_pos h2] at c2; exact absurd c2 (by decide)
    exact key 0 (by rw [if_neg hf]; rfl)
  · rw [t_eq, er] at c2
    have hf : Fb ν c = true := by
      by_cases h2 : Fb ν c = true
      · exact h2
      · rw [if_neg h2] at c2; exact absurd rfl c2
    refine wp_rd c hl (by omega) (key _ ?_)
    rw [if_pos hf]
    simp only [t_mul64, t_64, hs4, Int64.reduceToInt]
    omega
theorem sX9_rest (h : RN μ ν) (hv : Vd ν) : Wp (fX9_rest μ) (fun _ m => ∀ c, c < nC ν → (m.2 76 c).toInt = 0) := by
  have h0 := hv.1
  have hnC : ν 0 1 = (nC ν : Nat) := by unfold nC; omega
  unfold fX9_rest
  refine wp_lp1 (fun k (l : Int32) m => ∃ i : Nat, l.toInt = (i : Int) ∧ i ≤ nC ν ∧ k = nC ν - i ∧ RN m ν ∧ ∀ c, c < i → (m.2 76 c).toInt = 0) ax_FU ?_ (nC ν) (by unfold ax_FU; omega) ⟨0, rfl, by omega, rfl, h, fun c hc => by omega⟩
  rintro k rc hrc l m ⟨i, hl, hi, hk, hm, hz⟩
  unfold fX9_rest_B2
  refine wp_rdf (sX9_cells hm) (fun r er => wp_if (fun c => wp_ret ?_) (fun c => ?_))
  · rw [t_le, er, hl] at c
    intro d hd
    exact hz d (by omega)
  · rw [t_le, er, hl] at c
    refine wp_wrl i hl (by omega) (wp_wrl i hl (by omega) (hrc (nC ν - (i + 1)) _ _ (by omega) ⟨i + 1, by simp only [t_add, hl, Int32.reduceToInt]; omega, by omega, rfl, hm, fun d hd => ?_⟩))
    rw [wl_ne (by omega)]
    by_cases e : d = i
    · rw [e, wl_self]; rfl
    · rw [wl_other e]; exact hz d (by omega)
/-- a round: ahead is what left before, comes by it, and leaves by that -/
theorem sX9_round (h : RN μ ν) (hv : Vd ν) (L : Nat → Int) (hL : ∀ c, c < nC ν → (μ.2 76 c).toInt = L c ∧ 0 ≤ L c ∧ L c ≤ 100000000) : Wp (fX9_round μ) (fun _ m => ∀ c, c < nC ν → (m.2 78 c).toInt = L c ∧ (m.2 77 c).toInt = Cm ν (fun p => L (Fr ν p) + Wt ν (ν 0 3) p) c ∧ (m.2 76 c).toInt = (if Fb ν c = true then 0 else if Cm ν (fun p => L (Fr ν p) + Wt ν (ν 0 3) p) c < 0 then 0 else Cm ν (fun p => L (Fr ν p) + Wt ν (ν 0 3) p) c)) := by
  have h0 := hv.1
  have hnC : ν 0 1 = (nC ν : Nat) := by unfold nC; omega
  unfold fX9_round
  refine wp_lp1 (fun k (l : Int32) m => ∃ i : Nat, l.toInt = (i : Int) ∧ i ≤ nC ν ∧ k = nC ν - i ∧ RN m ν ∧ m.2 76 = μ.2 76 ∧ ∀ c, c < i → (m.2 78 c).toInt = L c) ax_FU ?_ (nC ν) (by unfold ax_FU; omega) ⟨0, rfl, by omega, rfl, h, rfl, fun c hc => by omega⟩
  rintro k rc hrc l m ⟨i, hl, hi, hk, hm, e76, hz⟩
  unfold fX9_round_B2
  refine wp_rdf (sX9_cells hm) (fun r er => wp_if (fun c => ?_) (fun c => ?_))
  · rw [t_le, er, hl] at c
    have hi2 : i = nC ν := by omega
    subst hi2
    refine wp_lp1 (fun k (l : Int32) m2 => ∃ i : Nat, l.toInt = (i : Int) ∧ i ≤ nC ν ∧ k = nC ν - i ∧ RN m2 ν ∧ m2.2 78 = m.2 78 ∧ ∀ c, c < i → (m2.2 77 c).toInt = Cm ν (fun p => L (Fr ν p) + Wt ν (ν 0 3) p) c ∧ (m2.2 76 c).toInt = (if Fb ν c = true then 0 else if Cm ν (fun p => L (Fr ν p) + Wt ν (ν 0 3) p) c < 0 then 0 else Cm ν (fun p => L (Fr ν p) + Wt ν (ν 0 3) p) c)) ax_FU ?_ (nC ν) (by unfold ax_FU; omega) ⟨0, rfl, by omega, rfl, hm, rfl, fun c hc => by omega⟩
    rintro k2 rc2 hrc2 l2 m2 ⟨j, hl2, hj, hk2, hm2, e78, hd⟩
    unfold fX9_round_B30 fX9_round_K77 fX9_round_K87
    refine wp_rdf (sX9_cells hm2) (fun r2 er2 => wp_if (fun c2 => wp_ret ?_) (fun c2 => ?_))
    · rw [t_le, er2, hl2] at c2
      intro d hd2
      have := hd d (by omega)
      exact ⟨by rw [e78]; exact hz d hd2, this.1, this.2⟩
    · rw [t_le, er2, hl2] at c2
      have hj2 : j < nC ν := by omega
      have hlt : nC ν - (j + 1) < k2 := by omega
      have hl4 : (l2 + 1).toInt = ((j + 1 : Nat) : Int) := by simp only [t_add, hl2, Int32.reduceToInt]; omega
      have h78 : ∀ d, d < nC ν → (m2.2 78 d).toInt = L d := fun d hd2 => by rw [e78]; exact hz d hd2
      have hcm : Cm ν (fun p => (m2.2 78 (Fr ν p)).toInt + Wt ν (ν 0 3) p) j = Cm ν (fun p => L (Fr ν p) + Wt ν (ν 0 3) p) j := cm_congr (fun p hp => by rw [h78 _ (vd_rng hv p hp).1])
      refine wp_rd6f (sX9_comesTo hm2 hv l2 j hl2 hj2 (fun d hd2 => by rw [h78 d hd2]; exact (hL d hd2).2)) (fun r5 e5 => wp_wrl j hl2 (by omega) (wp_rdf (sX9_isFlop (RN_wl hm2) hv l2 j hl2 hj2) (fun r8 e8 => ?_)))
      rw [hcm] at e5
      have fin : ∀ s2 : Int64, s2.toInt = (if Fb ν j = true then 0 else if Cm ν (fun p => L (Fr ν p) + Wt ν (ν 0 3) p) j < 0 then 0 else Cm ν (fun p => L (Fr ν p) + Wt ν (ν 0 3) p) j) → Wp (Option.bind (ax_wrl (ax_wl m2 77 j r5) 76 10 l2 s2) (fun m10 => rc2 (l2 + 1) m10)) (fun _ m => ∀ c, c < nC ν → (m.2 78 c).toInt = L c ∧ (m.2 77 c).toInt = Cm ν (fun p => L (Fr ν p) + Wt ν (ν 0 3) p) c ∧ (m.2 76 c).toInt = (if Fb ν c = true then 0 else if Cm ν (fun p => L (Fr ν p) + Wt ν (ν 0 3) p) c < 0 then 0 else Cm ν (fun p => L (Fr ν p) + Wt ν (ν 0 3) p) c)) := by
        intro s2 hs2
        refine wp_wrl j hl2 (by omega) (hrc2 _ _ _ hlt ⟨j + 1, hl4, by omega, rfl, hm2, by rw [wl_ne (by omega), wl_ne (by omega)]; exact e78, fun d hd2 => ?_⟩)
        by_cases ed : d = j
        · subst ed
          rw [wl_self, wl_ne (by omega), wl_self]
          exact ⟨e5, hs2⟩
        · rw [wl_ne (show 77 ≠ 76 by omega), wl_other ed, wl_other ed, wl_ne (show 76 ≠ 77 by omega)]
          exact hd d (by omega)
      refine wp_if (fun c3 => wp_rl j hl2 (by omega) (wp_if (fun c4 => wp_rl j hl2 (by omega) ?_) (fun c4 => ?_))) (fun c3 => ?_)
      · rw [t_eq, e8] at c3
        have hf : ¬ Fb ν j = true := fun h2 => by rw [if_pos h2] at c3; exact absurd c3 (by decide)
        rw [wl_self, cmp_ge, e5] at c4
        simp only [Int64.reduceToInt] at c4
        rw [wl_self]
        refine fin _ ?_
        rw [if_neg hf, if_neg (by omega)]
        exact e5
      · rw [t_eq, e8] at c3
        have hf : ¬ Fb ν j = true := fun h2 => by rw [if_pos h2] at c3; exact absurd c3 (by decide)
        rw [wl_self, cmp_ge, e5] at c4
        simp only [Int64.reduceToInt] at c4
        refine fin _ ?_
        rw [if_neg hf, if_pos (by omega)]
        rfl
      · rw [t_eq, e8] at c3
        have hf : Fb ν j = true := by
          by_cases h2 : Fb ν j = true
          · exact h2
          · rw [if_neg h2] at c3; exact absurd rfl c3
        refine fin _ ?_
        rw [if_pos hf]
        rfl
  · rw [t_le, er, hl] at c
    have hi2 : i < nC ν := by omega
    refine wp_rl i hl (by omega) (wp_wrl i hl (by omega) (hrc (nC ν - (i + 1)) _ _ (by omega) ⟨i + 1, by simp only [t_add, hl, Int32.reduceToInt]; omega, by omega, rfl, hm, by rw [wl_ne (by omega)]; exact e76, fun d hd => ?_⟩))
    by_cases e : d = i
    · rw [e, wl_self, e76]; exact (hL i hi2).1
    · rw [wl_other e]; exact hz d (by omega)
theorem sX9_isStill (h : RN μ ν) (hv : Vd ν) : Wp (fX9_isStill μ) (fun r m => m = μ ∧ ((r.toInt = 1 ∧ ∀ c, c < nC ν → (μ.2 78 c).toInt = (μ.2 76 c).toInt) ∨ (r.toInt = 0 ∧ ∃ c, c < nC ν ∧ (μ.2 78 c).toInt ≠ (μ.2 76 c).toInt))) := by
  have h0 := hv.1
  have hnC : ν 0 1 = (nC ν : Nat) := by unfold nC; omega
  unfold fX9_isStill
  refine wp_lp1 (fun k (l : Int32) m => m = μ ∧ ∃ i : Nat, l.toInt = (i : Int) ∧ i ≤ nC ν ∧ k = nC ν - i ∧ ∀ c, c < i → (μ.2 78 c).toInt = (μ.2 76 c).toInt) ax_FU ?_ (nC ν) (by unfold ax_FU; omega) ⟨rfl, 0, rfl, by omega, rfl, fun c hc => by omega⟩
  rintro k rc hrc l m ⟨rfl, i, hl, hi, hk, hz⟩
  unfold fX9_isStill_B2
  refine wp_rdf (sX9_cells h) (fun r er => wp_if (fun c => wp_ret ⟨rfl, Or.inl ⟨rfl, fun d hd => ?_⟩⟩) (fun c => ?_))
  · rw [t_le, er, hl] at c
    exact hz d (by omega)
  · rw [t_le, er, hl] at c
    refine wp_rl i hl (by omega) (wp_rl i hl (by omega) (wp_if (fun c2 => hrc (nC ν - (i + 1)) _ _ (by omega) ⟨rfl, i + 1, by simp only [t_add, hl, Int32.reduceToInt]; omega, by omega, rfl, fun d hd => ?_⟩) (fun c2 => wp_ret ⟨rfl, Or.inr ⟨rfl, i, by omega, fun h2 => c2 ((cmp_eq _ _).mpr h2)⟩⟩)))
    by_cases e : d = i
    · rw [e]; exact (cmp_eq _ _).mp c2
    · exact hz d (by omega)
/-- the reference's times, once settled -/
def ROk (μ : ax_M) (ν : Nv) : Prop :=
  ((μ.1 57 35).toInt = 1 ∧ bd ν (ν 0 3) = false) ∨ ((μ.1 57 35).toInt = 0 ∧ bd ν (ν 0 3) = true ∧ ∀ c, c < nC ν → (μ.2 76 c).toInt = LL ν (ν 0 3) c ∧ (μ.2 77 c).toInt = CC ν (ν 0 3) c)
theorem jr_still_ll (hv : Vd ν) {T : Int} {k : Nat} (h : ∀ c, c < nC ν → Jr ν T k c = Jr ν T (k + 1) c) : bd ν T = true ∧ ∀ c, c < nC ν → Jr ν T k c = LL ν T c := by
  have h1 := jr_still_pst (fun c hc => (h c hc).symm) hv
  exact ⟨(ll_of_pst hv h1).2, fun c hc => lf_ll hv ⟨h1, fun U hU c hc => jr_le hv hU k c hc⟩ c hc⟩
theorem sX9_settles (h : RN μ ν) (hv : Vd ν) : Wp (fX9_settles μ) (fun _ m => RN m ν ∧ ROk m ν) := by
  have h0 := hv.1
  have h10 : nC ν ≤ 10 := by unfold nC; omega
  have hnC : ν 0 1 = (nC ν : Nat) := by unfold nC; omega
  unfold fX9_settles
  refine wp_bd (wp_mono (wp_keep (sX9_rest h hv) (kf_X9_rest μ)) ?_)
  rintro _ m0 ⟨hz0, hk0⟩
  have hm0 : RN m0 ν := RN_keep h (fun a h1 h2 => (hk0 a (by simp; omega)).1)
  refine wp_bd (wp_mono (wp_keep (sX9_round hm0 hv (Jr ν (ν 0 3) 0) (fun c hc => ⟨hz0 c hc, Int.le_refl 0, show (0 : Int) ≤ 100000000 by decide⟩)) (kf_X9_round m0)) ?_)
  rintro _ m1 ⟨hz1, hk1⟩
  have hm1 : RN m1 ν := RN_keep hm0 (fun a h1 h2 => (hk1 a (by simp; omega)).1)
  have fin : ∀ (i : Nat) (m : ax_M), RN m ν → (∀ c, c < nC ν → (m.2 78 c).toInt = Jr ν (ν 0 3) i c ∧ (m.2 77 c).toInt = Cm ν (fun p => Jr ν (ν 0 3) i (Fr ν p) + Wt ν (ν 0 3) p) c ∧ (m.2 76 c).toInt = Jr ν (ν 0 3) (i + 1) c) → ((∀ c, c < nC ν → (m.2 78 c).toInt = (m.2 76 c).toInt) ∨ nC ν ≤ i) → Wp (fX9_settles_K35 m) (fun _ m => RN m ν ∧ ROk m ν) := by
    intro i m hm hj hor
    unfold fX9_settles_K35 fX9_settles_K48
    refine wp_bd (wp_mono (sX9_isStill hm hv) ?_)
    rintro r m2 ⟨rfl, hr⟩
    rcases hr with ⟨hr, hs⟩ | ⟨hr, c0, hc0, hne⟩
    · rw [if_neg (by rw [t_eq, hr]; decide)]
      refine wp_let (wp_ret ⟨RN_wi57 hm, Or.inr ⟨by rw [wi_self]; rfl, ?_⟩⟩)
      have hst := jr_still_ll hv (T := ν 0 3) (k := i) (fun c hc => by rw [← (hj c hc).1, ← (hj c hc).2.2]; exact hs c hc)
      refine ⟨hst.1, fun c hc => ?_⟩
      have a := hj c hc
      refine ⟨?_, ?_⟩
      · show (m2.2 76 c).toInt = _
        rw [← hs c hc, a.1]; exact hst.2 c hc
      · show (m2.2 77 c).toInt = _
        rw [a.2.1]
        exact cm_congr (fun p hp => by rw [hst.2 _ (vd_rng hv p hp).1])
    · rw [if_pos (t_eq.mpr hr)]
      refine wp_let (wp_ret ⟨RN_wi57 hm, Or.inl ⟨by rw [wi_self]; rfl, ?_⟩⟩)
      rcases hor with hs | hi
      · exact absurd (hs c0 hc0) hne
      · refine bd_false hv ?_
        rintro ⟨U, hU⟩
        have hll := (ll_of_pst hv hU).1
        have mono : ∀ d, nC ν ≤ d → LL ν (ν 0 3) c0 ≤ Jr ν (ν 0 3) d c0 := by
          intro d hd
          induction d with
          | zero =>
            have : nC ν = 0 := by omega
            omega
          | succ d ih =>
            by_cases e : nC ν = d + 1
            · unfold LL; rw [e]; exact Int.le_refl _
            · have a := ih (by omega)
              have b := jr_mono (ν := ν) (T := ν 0 3) d c0
              omega
        have a := mono i hi
        have b := jr_le hv hll.1 (i + 1) c0 hc0
        have d := jr_mono (ν := ν) (T := ν 0 3) i c0
        have e := hj c0 hc0
        omega
  refine wp_lp1 (fun k (l : Int32) m => ∃ i : Nat, l.toInt = (i : Int) ∧ i ≤ nC ν + 1 ∧ k = nC ν + 1 - i ∧ RN m ν ∧ ∀ c, c < nC ν → (m.2 78 c).toInt = Jr ν (ν 0 3) i c ∧ (m.2 77 c).toInt = Cm ν (fun p => Jr ν (ν 0 3) i (Fr ν p) + Wt ν (ν 0 3) p) c ∧ (m.2 76 c).toInt = Jr ν (ν 0 3) (i + 1) c) ax_FU ?_ (nC ν + 1) (by unfold ax_FU; omega) ⟨0, rfl, by omega, rfl, hm1, hz1⟩
  rintro k rc hrc l m ⟨i, hl, hi, hk, hm, hj⟩
  unfold fX9_settles_B10
  refine wp_rdf (sX9_cells hm) (fun r er => wp_if (fun c => fin i m hm hj ?_) (fun c => ?_))
  · rw [t_lt, er, hl] at c
    exact Or.inr (by omega)
  · rw [t_lt, er, hl] at c
    refine wp_bd (wp_mono (sX9_isStill hm hv) ?_)
    rintro r2 m2 ⟨rfl, hr⟩
    refine wp_if (fun c2 => ?_) (fun c2 => ?_)
    · refine wp_bd (wp_mono (wp_keep (sX9_round hm hv (Jr ν (ν 0 3) (i + 1)) (fun c hc => ⟨(hj c hc).2.2, jr_pos _ _, ?_⟩)) (kf_X9_round m2)) ?_)
      · have := jr_bd hv (T := ν 0 3) (by omega) (by omega) (i + 1) c
        omega
      · rintro _ m3 ⟨hz3, hk3⟩
        have hm3 : RN m3 ν := RN_keep hm (fun a h1 h2 => (hk3 a (by simp; omega)).1)
        exact hrc (nC ν + 1 - (i + 1)) _ _ (by clear hr; omega) ⟨i + 1, by clear hr; simp only [t_add, hl, Int32.reduceToInt]; omega, by clear hr; omega, rfl, hm3, hz3⟩
    · refine fin i m2 hm hj ?_
      rcases hr with ⟨-, hs⟩ | ⟨hr, -⟩
      · exact Or.inl hs
      · exact absurd (t_eq.mpr hr) c2
end RNET
