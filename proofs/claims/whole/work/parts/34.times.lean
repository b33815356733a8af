/-! LEAVES and COMES of the class -/
section WIL
variable {μ : ax_M} {i j a b : Nat} {v : Int32} {v6 : Int64}
theorem wi_ne (h : a ≠ i) : (ax_wi μ i j v).1 a = μ.1 a := by
  funext b
  show (if a = i ∧ b = j then v else μ.1 a b) = μ.1 a b
  rw [if_neg (fun h2 => h h2.1)]
theorem wi_self : (ax_wi μ i j v).1 i j = v := by
  show (if i = i ∧ j = j then v else μ.1 i j) = v
  rw [if_pos ⟨rfl, rfl⟩]
theorem wi_other (h : b ≠ j) : (ax_wi μ i j v).1 a b = μ.1 a b := by
  show (if a = i ∧ b = j then v else μ.1 a b) = μ.1 a b
  rw [if_neg (fun h2 => h h2.2)]
theorem wl_ne (h : a ≠ i) : (ax_wl μ i j v6).2 a = μ.2 a := by
  funext b
  show (if a = i ∧ b = j then v6 else μ.2 a b) = μ.2 a b
  rw [if_neg (fun h2 => h h2.1)]
theorem wl_self : (ax_wl μ i j v6).2 i j = v6 := by
  show (if i = i ∧ j = j then v6 else μ.2 i j) = v6
  rw [if_pos ⟨rfl, rfl⟩]
theorem wl_other (h : b ≠ j) : (ax_wl μ i j v6).2 a b = μ.2 a b := by
  show (if a = i ∧ b = j then v6 else μ.2 a b) = μ.2 a b
  rw [if_neg (fun h2 => h h2.2)]
end WIL
section CTIM
variable {μ : ax_M} {ν : Nv}
theorem sht_bd (hv : Vd ν) (k : Nat) (hk : k < nP ν) (T : Int) (h0 : 0 ≤ T) : 0 ≤ Sh ν k * T ∧ Sh ν k * T ≤ 64 * T := by
  have h := sh_bd hv k hk
  exact ⟨Int.mul_nonneg (by omega) h0, Int.mul_le_mul_of_nonneg_right h.2 h0⟩
theorem wt_bd (hv : Vd ν) (k : Nat) (hk : k < nP ν) (T : Int) (h0 : 0 ≤ T) (h1 : T ≤ 9999) : -639936 ≤ Wt ν T k ∧ Wt ν T k ≤ 76608 := by
  have h := sht_bd hv k hk T h0
  have h2 := dl_bd hv k hk
  unfold Wt
  omega
theorem CN_wi {i j : Nat} {v : Int32} (h : CN μ ν) (hi : 15 ≤ i) : CN (ax_wi μ i j v) ν := CN_keep h (fun a h1 _ => wi_ne (by omega))
theorem sX1_weighPaths (h : CN μ ν) (hv : Vd ν) : Wp (fX1_weighPaths μ) (fun _ m => ∀ p, p < nP ν → (m.1 33 p).toInt = Wt ν (ν 0 3) p) := by
  have h0 := hv.1
  unfold fX1_weighPaths
  refine wp_lp1 (fun k (l : Int32) m => ∃ i : Nat, l.toInt = (i : Int) ∧ i ≤ nP ν ∧ k = nP ν - i ∧ CN m ν ∧ ∀ p, p < i → (m.1 33 p).toInt = Wt ν (ν 0 3) p) ax_FU ?_ (nP ν) (by unfold ax_FU nP; omega) ⟨0, rfl, Nat.zero_le _, rfl, h, fun p hp => by omega⟩
  rintro k rc hrc l m ⟨i, hl, hi, hk, hm, hw⟩
  unfold fX1_weighPaths_B2
  have en := hm.1.2.2.1
  have eT := hm.1.2.2.2.1
  have hnP : ν 0 2 = (nP ν : Nat) := by unfold nP; omega
  refine wp_if (fun c => wp_ret ?_) (fun c => ?_)
  · rw [t_le, en, hl] at c
    intro p hp
    exact hw p (by omega)
  · rw [t_le, en, hl] at c
    have hi2 : i < nP ν := by omega
    have bd := sht_bd hv i hi2 (ν 0 3) (by omega)
    have bd2 := dl_bd hv i hi2
    refine wp_rdf (sX1_delayOf hm hv l i hl hi2) (fun r1 e1 => wp_rdf (sX1_shiftOf hm hv l i hl hi2) (fun r3 e3 => wp_wr i hl (by have := vd_path hv i hi2; omega) ?_))
    have hval : (r1 - r3 * m.1 2 16).toInt = Wt ν (ν 0 3) i := by
      simp only [t_sub, t_mul, e1, e3, eT]
      unfold Wt
      omega
    refine hrc (nP ν - (i + 1)) _ _ (by omega) ⟨i + 1, ?_, by omega, rfl, CN_wi hm (by omega), fun p hp => ?_⟩
    · simp only [t_add, hl, Int32.reduceToInt]; omega
    · by_cases e : p = i
      · rw [e, wi_self, hval]
      · rw [wi_other e]; exact hw p (by omega)
theorem sX1_leavesBy (h : CN μ ν) (hv : Vd ν) (p x : Int32) (c : Nat) (hp : p.toInt = c) (hc : c < nC ν) : Rd (fX1_leavesBy p x μ) μ (if Fb ν c = true then 0 else if x.toInt < 0 then 0 else x.toInt) := by
  unfold fX1_leavesBy fX1_leavesBy_K17
  refine rd_wp (wp_rdf (sX1_isFlop h hv p c hp hc) (fun r e => wp_if (fun h1 => wp_ret ⟨?_, rfl⟩) (fun h1 => wp_ret ⟨?_, rfl⟩)))
  · rw [t_eq, e] at h1
    have hf : ¬ Fb ν c = true := fun h2 => by rw [if_pos h2] at h1; exact absurd h1 (by decide)
    rw [if_neg hf]
    unfold ax_mx
    by_cases h3 : x < 0
    · rw [if_pos h3]; simp only [t_lt, Int32.reduceToInt] at h3 ⊢; rw [if_pos h3]
    · rw [if_neg h3]; simp only [t_lt, Int32.reduceToInt] at h3 ⊢; rw [if_neg h3]
  · rw [t_eq, e] at h1
    have hf : Fb ν c = true := by
      by_cases h2 : Fb ν c = true
      · exact h2
      · rw [if_neg h2] at h1; exact absurd rfl h1
    rw [if_pos hf]; rfl
theorem sJ7_fill35 (x : Int32) : Wp (fJ7_fill_53178 x μ) (fun _ m => ∀ c, c < 10 → m.1 35 c = x) := by
  unfold fJ7_fill_53178
  refine wp_lp1 (fun k (l : Int32) m => ∃ i : Nat, l.toInt = (i : Int) ∧ i ≤ 10 ∧ k = 10 - i ∧ ∀ p, p < i → m.1 35 p = x) ax_FU ?_ 10 (by decide) ⟨0, rfl, by omega, rfl, fun p hp => by omega⟩
  rintro k rc hrc l m ⟨i, hl, hi, hk, hw⟩
  unfold fJ7_fill_53178_B5
  refine wp_if (fun c => wp_ret ?_) (fun c => ?_)
  · rw [t_le, hl] at c
    simp only [Int32.reduceToInt] at c
    intro p hp
    exact hw p (by omega)
  · rw [t_le, hl] at c
    simp only [Int32.reduceToInt] at c
    refine wp_wr i hl (by omega) (hrc (10 - (i + 1)) _ _ (by omega) ⟨i + 1, ?_, by omega, rfl, fun p hp => ?_⟩)
    · simp only [t_add, hl, Int32.reduceToInt]; omega
    · by_cases e : p = i
      · rw [e, wi_self]
      · rw [wi_other e]; exact hw p (by omega)
/-- one pass over the paths, in place -/
def Pass (ν : Nv) (w : Nat → Int) (Lb cur : Nat → Int) (q B : Nat) : Prop :=
  (∀ c, c < nC ν → Lb c ≤ cur c ∧ 0 ≤ cur c ∧ cur c ≤ (B : Int) * 76608 ∧ (Fb ν c = true → cur c = 0)) ∧
  (∀ p, p < q → Fb ν (To ν p) = false → Lb (Fr ν p) + w p ≤ cur (To ν p)) ∧
  ∀ U, Pst (nC ν) (nP ν) (Fr ν) (To ν) w (Fb ν) U → ∀ c, c < nC ν → cur c ≤ U c
theorem vd_rng (hv : Vd ν) : Rng (nC ν) (nP ν) (Fr ν) (To ν) := fun p hp => ⟨(vd_path hv p hp).2.1, (vd_path hv p hp).2.2.1⟩
/-- the history of passes -/
def Hist (ν : Nv) (w : Nat → Int) (L : Nat → Nat → Int) (i : Nat) : Prop :=
  (∀ c, c < nC ν → 0 ≤ L 0 c ∧ (Fb ν c = true → L 0 c = 0)) ∧ (∀ U, Pst (nC ν) (nP ν) (Fr ν) (To ν) w (Fb ν) U → ∀ c, c < nC ν → L 0 c ≤ U c) ∧
  ∀ j, j < i → Pass ν w (L j) (L (j + 1)) (nP ν) (24 * (j + 1)) ∧ ∃ c, c < nC ν ∧ L (j + 1) c ≠ L j c
theorem hist_le {w : Nat → Int} {L : Nat → Nat → Int} {i : Nat} (h : Hist ν w L i) : ∀ j, j ≤ i → (∀ c, c < nC ν → 0 ≤ L j c) ∧ ∀ U, Pst (nC ν) (nP ν) (Fr ν) (To ν) w (Fb ν) U → ∀ c, c < nC ν → L j c ≤ U c := by
  intro j hj
  cases j with
  | zero => exact ⟨fun c hc => (h.1 c hc).1, h.2.1⟩
  | succ j => exact ⟨fun c hc => ((h.2.2 j (by omega)).1.1 c hc).2.1, (h.2.2 j (by omega)).1.2.2⟩
theorem hist_end (hv : Vd ν) {w : Nat → Int} {L : Nat → Nat → Int} (h : Hist ν w L (nC ν + 1)) : ¬ ∃ U, Pst (nC ν) (nP ν) (Fr ν) (To ν) w (Fb ν) U := by
  rintro ⟨U, hU⟩
  obtain ⟨M, hM⟩ := lf_exists (vd_rng hv) hU
  have h1 := lf_done (vd_rng hv) hM L (nC ν + 1) (fun k hk => (hist_le h k hk).1) (fun k hk c hc => (hist_le h k hk).2 M hM.1 c hc) (fun k hk c hc => ((h.2.2 k hk).1.1 c hc).1) (fun k hk p hp hf => (h.2.2 k hk).1.2.1 p hp hf) (by omega)
  obtain ⟨hp, c, hc, hne⟩ := h.2.2 (nC ν) (by omega)
  have a := (hp.1 c hc).1
  have b := hp.2.2 M hM.1 c hc
  have d := h1 c hc
  omega
theorem sX5_settle (h : CN μ ν) (hv : Vd ν) {w : Nat → Int} (hw : ∀ p, p < nP ν → (μ.1 33 p).toInt = w p ∧ -700000 ≤ w p ∧ w p ≤ 76608) :
    Wp (fX5_settle μ) (fun r m => (∀ c, c < nC ν → 0 ≤ (m.1 35 c).toInt ∧ (m.1 35 c).toInt ≤ 30000000) ∧ ((r.toInt = 1 ∧ Lf (nC ν) (nP ν) (Fr ν) (To ν) w (Fb ν) (fun c => (m.1 35 c).toInt)) ∨ (r.toInt = 0 ∧ ¬ ∃ U, Pst (nC ν) (nP ν) (Fr ν) (To ν) w (Fb ν) U))) := by
  have h0 := hv.1
  have h10 : nC ν ≤ 10 := by unfold nC; omega
  have hnP : ν 0 2 = (nP ν : Nat) := by unfold nP; omega
  have hnC : ν 0 1 = (nC ν : Nat) := by unfold nC; omega
  have hnP24 : nP ν ≤ 24 := by omega
  unfold fX5_settle
  refine wp_bd (wp_mono (wp_keep (sJ7_fill35 0) (kf_J7_fill_53178 0 μ)) ?_)
  rintro _ m0 ⟨hz, hkeep⟩
  have hm0 : CN m0 ν := CN_keep h (fun a h1 h2 => (hkeep a (by simp; omega)).1)
  have e33 : m0.1 33 = μ.1 33 := (hkeep 33 (by decide)).1
  refine wp_lp1 (fun k (l : Int32) m => ∃ i : Nat, l.toInt = (i : Int) ∧ i ≤ nC ν + 1 ∧ k = nC ν + 1 - i ∧ CN m ν ∧ m.1 33 = μ.1 33 ∧ (∀ c, c < nC ν → 0 ≤ (m.1 35 c).toInt ∧ (m.1 35 c).toInt ≤ (24 * i : Nat) * 76608 ∧ (Fb ν c = true → (m.1 35 c).toInt = 0)) ∧ ∃ L, Hist ν w L i ∧ ∀ c, c < nC ν → L i c = (m.1 35 c).toInt) ax_FU ?_ (nC ν + 1) (by unfold ax_FU; omega)
    ⟨0, rfl, by omega, rfl, hm0, e33, fun c hc => by rw [hz c (by omega)]; exact ⟨by decide, by decide, fun _ => rfl⟩, fun _ _ => 0, ⟨fun c hc => ⟨Int.le_refl 0, fun _ => rfl⟩, fun U hU c hc => (hU.1 c hc).1, fun j hj => by omega⟩, fun c hc => by rw [hz c (by omega)]; rfl⟩
  rintro k rc hrc l m ⟨i, hl, hi, hk, hm, em, hcur, L, hH, hL⟩
  unfold fX5_settle_B10
  have en := hm.1.2.1
  refine wp_if (fun c => wp_ret ?_) (fun c => ?_)
  · rw [t_lt, en, hl] at c
    have hi2 : i = nC ν + 1 := by omega
    refine ⟨fun c hc => ?_, Or.inr ⟨rfl, ?_⟩⟩
    · have := hcur c hc
      omega
    · rw [hi2] at hH
      exact hist_end hv hH
  · rw [t_lt, en, hl] at c
    have hi2 : i ≤ nC ν := by omega
    refine wp_lp2 (fun k (l2 l3 : Int32) m2 => ∃ q : Nat, l3.toInt = (q : Int) ∧ q ≤ nP ν ∧ k = nP ν - q ∧ CN m2 ν ∧ m2.1 33 = μ.1 33 ∧ Pass ν w (L i) (fun c => (m2.1 35 c).toInt) q (24 * i + q) ∧ ((l2.toInt = 0 ∧ (∀ c, c < nC ν → (m2.1 35 c).toInt = L i c) ∧ ∀ p, p < q → Fb ν (To ν p) = false → L i (Fr ν p) + w p ≤ L i (To ν p)) ∨ (l2.toInt = 1 ∧ ∃ c, c < nC ν ∧ (m2.1 35 c).toInt ≠ L i c))) ax_FU ?_ (nP ν) (by unfold ax_FU; omega)
      ⟨0, rfl, by omega, rfl, hm, em, ⟨fun c hc => ?_, fun p hp => by omega, fun U hU c hc => ?_⟩, Or.inl ⟨rfl, fun c hc => (hL c hc).symm, fun p hp => by omega⟩⟩
    · rintro k2 rc2 hrc2 l2 l3 m2 ⟨q, hl3, hq, hk2, hm2, em2, hP, hch⟩
      have en2 := hm2.1.2.2.1
      unfold fX5_settle_B25 fX5_settle_K102
      refine wp_if (fun c2 => wp_if (fun c3 => wp_ret ?_) (fun c3 => ?_)) (fun c2 => ?_)
      · rw [t_le, en2, hl3] at c2
        rw [t_eq] at c3
        have hq2 : q = nP ν := by omega
        rcases hch with ⟨-, hc1, hc2⟩ | ⟨hc0, -⟩
        · refine ⟨fun c hc => ?_, Or.inl ⟨rfl, ⟨fun c hc => ⟨(hP.1 c hc).2.1, (hP.1 c hc).2.2.2⟩, fun p hp hf => ?_⟩, hP.2.2⟩⟩
          · have := hP.1 c hc
            simp only at this
            omega
          · have hr := vd_rng hv p hp
            have := hc2 p (by omega) hf
            show (m2.1 35 (Fr ν p)).toInt + w p ≤ (m2.1 35 (To ν p)).toInt
            rw [hc1 _ hr.1, hc1 _ hr.2]
            exact this
        · rw [hc0] at c3; exact absurd c3 (by decide)
      · rw [t_le, en2, hl3] at c2
        rw [t_eq] at c3
        have hq2 : q = nP ν := by omega
        rcases hch with ⟨hc0, -⟩ | ⟨-, hc1⟩
        · rw [hc0] at c3; exact absurd rfl c3
        · refine hrc (nC ν + 1 - (i + 1)) _ _ (by omega) ⟨i + 1, ?_, by omega, rfl, hm2, em2, fun c hc => ?_, fun j c => if j = i + 1 then (m2.1 35 c).toInt else L j c, ⟨?_, ?_, ?_⟩, fun c hc => if_pos rfl⟩
          · simp only [t_add, hl, Int32.reduceToInt]; omega
          · have := hP.1 c hc
            simp only at this
            refine ⟨by omega, by omega, this.2.2.2⟩
          · intro c hc
            show 0 ≤ (if 0 = i + 1 then _ else L 0 c) ∧ _
            rw [if_neg (by omega)]
            exact hH.1 c hc
          · intro U hU c hc
            show (if 0 = i + 1 then _ else L 0 c) ≤ _
            rw [if_neg (by omega)]
            exact hH.2.1 U hU c hc
          · intro j hj
            by_cases e : j = i
            · subst e
              simp only [if_neg (show ¬ j = j + 1 by omega), if_true]
              refine ⟨⟨fun c hc => ?_, fun p hp hf => hP.2.1 p (by omega) hf, hP.2.2⟩, hc1⟩
              have := hP.1 c hc
              simp only at this
              refine ⟨this.1, this.2.1, ?_, this.2.2.2⟩
              show (m2.1 35 c).toInt ≤ ((24 * (j + 1) : Nat) : Int) * 76608
              omega
            · simp only [if_neg (show ¬ j = i + 1 by omega), if_neg (show ¬ j + 1 = i + 1 by omega)]
              exact hH.2.2 j (by omega)
      · rw [t_le, en2, hl3] at c2
        have hq2 : q < nP ν := by omega
        obtain ⟨a1, a2, a3, a4, a5, a6⟩ := vd_path hv q hq2
        have e := hm2.2.2.2.1 q hq2
        have hwq := hw q hq2
        have hlt : nP ν - (q + 1) < k2 := by clear hch; omega
        have hl4 : (l3 + 1).toInt = ((q + 1 : Nat) : Int) := by clear hch; simp only [t_add, hl3, Int32.reduceToInt]; omega
        have b1 := hP.1 _ a2
        have b2 := hP.1 _ a3
        simp only at b1 b2
        refine wp_rd q hl3 a1 (wp_rd q hl3 a1 (wp_rd (Fr ν q) (by rw [e.1, a4]) (by omega) (wp_rd q hl3 a1 ?_)))
        have hsum : (m2.1 35 (Fr ν q) + m2.1 33 q).toInt = (m2.1 35 (Fr ν q)).toInt + w q := by
          rw [em2, t_add, hwq.1]
          omega
        refine wp_rdf (sX1_leavesBy hm2 hv _ _ (To ν q) (by rw [e.2.1, a5]) a3) (fun r er => wp_rd (To ν q) (by rw [e.2.1, a5]) (by omega) (wp_if (fun c3 => ?_) (fun c3 => ?_)))
        · rw [t_le, er, hsum] at c3
          refine hrc2 (nP ν - (q + 1)) _ _ _ hlt ⟨q + 1, hl4, hq2, rfl, hm2, em2, ⟨fun c hc => ?_, fun p hp hf => ?_, hP.2.2⟩, ?_⟩
          · have := hP.1 c hc
            simp only at this
            exact ⟨this.1, this.2.1, by show (m2.1 35 c).toInt ≤ ((24 * i + (q + 1) : Nat) : Int) * 76608; omega, this.2.2.2⟩
          · by_cases ep : p = q
            · subst ep
              rw [if_neg (by rw [hf]; decide)] at c3
              show L i (Fr ν p) + w p ≤ (m2.1 35 (To ν p)).toInt
              split at c3 <;> omega
            · exact hP.2.1 p (by omega) hf
          · rcases hch with ⟨hc0, hc1, hc2⟩ | hc0
            · refine Or.inl ⟨hc0, hc1, fun p hp hf => ?_⟩
              by_cases ep : p = q
              · subst ep
                rw [if_neg (by rw [hf]; decide)] at c3
                have g1 := hc1 _ a2
                have g2 := hc1 _ a3
                split at c3 <;> omega
              · exact hc2 p (by omega) hf
            · exact Or.inr hc0
        · rw [t_le, er, hsum] at c3
          have hnf : Fb ν (To ν q) = false := by
            by_cases hf : Fb ν (To ν q) = true
            · rw [if_pos hf] at c3
              omega
            · simpa using hf
          rw [if_neg (by rw [hnf]; decide), hsum] at er
          rw [if_neg (by rw [hnf]; decide)] at c3
          have er2 : r.toInt = (m2.1 35 (Fr ν q)).toInt + w q := by
            split at c3 <;> split at er <;> omega
          have hlate : (m2.1 35 (To ν q)).toInt < (m2.1 35 (Fr ν q)).toInt + w q := by
            split at c3 <;> omega
          refine wp_wr (To ν q) (by rw [e.2.1, a5]) (by omega) (hrc2 (nP ν - (q + 1)) _ _ _ hlt ⟨q + 1, hl4, hq2, rfl, CN_wi hm2 (by omega), by rw [wi_ne (by omega)]; exact em2, ⟨fun c hc => ?_, fun p hp hf => ?_, fun U hU c hc => ?_⟩, Or.inr ⟨rfl, To ν q, a3, by rw [wi_self]; omega⟩⟩)
          · have b3 := hP.1 c hc
            simp only at b3 ⊢
            by_cases ec : c = To ν q
            · subst ec
              rw [wi_self]
              refine ⟨by omega, by omega, by omega, fun hf => ?_⟩
              rw [hnf] at hf; cases hf
            · rw [wi_other ec]
              exact ⟨b3.1, b3.2.1, by omega, b3.2.2.2⟩
          · simp only
            by_cases ec : To ν p = To ν q
            · rw [ec, wi_self]
              by_cases ep : p = q
              · rw [ep]; omega
              · have := hP.2.1 p (by omega) hf
                simp only [ec] at this
                omega
            · rw [wi_other ec]
              exact hP.2.1 p (by
                by_cases ep : p = q
                · exact absurd (by rw [ep]) ec
                · omega) hf
          · simp only
            by_cases ec : c = To ν q
            · subst ec
              rw [wi_self]
              have g1 := hP.2.2 U hU _ a2
              have g2 := hU.2 q hq2 hnf
              simp only at g1
              omega
            · rw [wi_other ec]
              exact hP.2.2 U hU c hc
    · have := hcur c hc
      rw [hL c hc]
      exact ⟨Int.le_refl _, this.1, this.2.1, this.2.2⟩
    · have := (hist_le hH i (Nat.le_refl _)).2 U hU c hc
      rw [hL c hc] at this
      exact this
end CTIM
