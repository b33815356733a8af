/-! the least good period -/
section FG
variable {μ : ax_M} {ν : Nv}
theorem CK_keep {μ2 : ax_M} (h : CK μ ν) (h1 : μ2.1 49 = μ.1 49) (h2 : μ2.1 56 = μ.1 56) : CK μ2 ν := by
  unfold CK at *
  rw [h1, h2]
  exact h
theorem TrL_kp {μ2 : ax_M} (h : TrL μ ν) (hk : ∀ a, a ∉ [49, 52, 53, 54, 55, 56] → μ2.1 a = μ.1 a ∧ μ2.2 a = μ.2 a) : TrL μ2 ν := TrL_keep h (hk 50 (by decide)).1 (hk 51 (by decide)).1
/-- with what it keeps -/
theorem sX6_holdsK (h : CN μ ν) (hv : Vd ν) (ht : TrL μ ν) (t : Int32) (h0t : 0 ≤ t.toInt) (h1t : t.toInt ≤ 9999) : Wp (fX6_holds t μ) (fun r m => CN m ν ∧ TrL m ν ∧ (CK μ ν → CK m ν) ∧ ((r.toInt = 1 ∧ gd ν t.toInt = true) ∨ (r.toInt = 0 ∧ gd ν t.toInt = false ∧ CKv m ν t.toInt)) ∧ ∀ a, a ∉ [49, 52, 53, 54, 55, 56] → m.1 a = μ.1 a ∧ m.2 a = μ.2 a) := by
  obtain ⟨r, m, e, hr⟩ := sX6_holds h hv ht t h0t h1t
  have hk := kf_X6_holds t μ r m e
  refine ⟨r, m, e, CN_keep h (fun a g1 g2 => (hk a (by simp; omega)).1), TrL_kp ht hk, fun hc => ?_, hr, hk⟩
  rcases hr with ⟨hr, -⟩ | ⟨-, -, hr⟩
  · have h2 := kr_holds t μ r m e (by rw [Ne, t_eq, hr]; decide)
    exact CK_keep hc (h2 49 (by decide)) (h2 56 (by decide))
  · exact CKv_CK hr
theorem sh_sum (hv : Vd ν) {q : Nat → Nat} {n : Nat} (h : ∀ i, i < n → q i < nP ν) (hn : n ≤ 11) : (n : Int) ≤ sm (fun i => Sh ν (q i)) n ∧ sm (fun i => Sh ν (q i)) n ≤ 704 := by
  have a := sm_bd (f := fun i => Sh ν (q i)) (n := n) (b := 64) (fun i hi => by have := sh_bd hv _ (h i hi); exact ⟨by omega, this.2⟩)
  refine ⟨?_, by omega⟩
  clear a hn
  induction n with
  | zero => exact Int.le_refl 0
  | succ n ih =>
    have b := ih (fun i hi => h i (by omega))
    have d := sh_bd hv _ (h n (by omega))
    simp only [sm]
    omega
theorem cut_w (hv : Vd ν) {n : Nat} {q : Nat → Nat} {N w : Int} (h : Cut ν n q N w) : 0 ≤ w ∧ w ≤ 63 ∧ (n ≤ 11 → 0 ≤ N ∧ N ≤ 1000000) := by
  obtain ⟨hr, -, hk⟩ := h
  have hs : n ≤ 11 → 0 ≤ sm (fun i => Dl ν (q i)) n ∧ sm (fun i => Dl ν (q i)) n ≤ 842688 := fun hn => dl_sum hv hr.1 hn
  rcases hk with ⟨g, hg, hg0, hg1, hN, hw⟩ | ⟨hn, hc, hf, hN, hw⟩ | ⟨hn, hN, hw⟩
  · obtain ⟨b1, b2, b3, b4⟩ := vd_cell hv g hg
    have v1 := hv.2.1 _ b2
    have v2 := hv.2.2.1 g hg
    rw [hw]
    refine ⟨by split <;> omega, by split <;> omega, fun hn => ?_⟩
    have := hs hn
    omega
  · refine ⟨by omega, by omega, fun hn => ?_⟩
    have := hs hn
    omega
  · exact ⟨by omega, by omega, fun _ => by omega⟩
/-- the cut's span, as the net opens now: the net may have moved its openings since -/
theorem sX6_cutSpan (h : CN μ ν) (hv : Vd ν) {n : Nat} {q : Nat → Nat} (hn : (μ.1 49 8).toInt = (n : Int)) (hn2 : n ≤ 11) (hq : ∀ i, i < n → (μ.1 56 i).toInt = (q i : Nat)) (hp : ∀ i, i < n → q i < nP ν) (hw : 0 ≤ (μ.1 49 10).toInt ∧ (μ.1 49 10).toInt ≤ 63) : Rd (fX6_cutSpan μ) μ ((μ.1 49 10).toInt + sm (fun i => Sh ν (q i)) n) := by
  unfold fX6_cutSpan
  refine rd_wp (wp_let (wp_lp2 (fun k (l1 l2 : Int32) m => m = μ ∧ ∃ i : Nat, l2.toInt = (i : Int) ∧ i ≤ n ∧ k = n - i ∧ l1.toInt = (μ.1 49 10).toInt + sm (fun i => Sh ν (q i)) i) ax_FU ?_ n (by unfold ax_FU; omega) ⟨rfl, 0, rfl, by omega, rfl, by simp [sm]⟩))
  rintro k rc hrc l1 l2 m ⟨rfl, i, hl2, hi, hk, hl1⟩
  unfold fX6_cutSpan_B7
  refine wp_if (fun c => wp_ret ⟨?_, rfl⟩) (fun c => ?_)
  · rw [t_le, hn, hl2] at c
    rw [hl1, show i = n by omega]
  · rw [t_le, hn, hl2] at c
    have hi2 : i < n := by omega
    have hs := sh_sum hv (q := q) (n := i) (fun j hj => hp j (by omega)) (by omega)
    have hb := sh_bd hv _ (hp i hi2)
    refine wp_rd i hl2 (by omega) (wp_rdf (sX1_shiftOf h hv _ (q i) (hq i hi2) (hp i hi2)) (fun r e => wp_let (hrc (n - (i + 1)) _ _ _ (by omega) ⟨rfl, i + 1, by simp only [t_add, hl2, Int32.reduceToInt]; omega, by omega, rfl, ?_⟩)))
    rw [t_add, hl1, e]
    simp only [sm]
    omega
theorem CK_span (h : CN μ ν) (hv : Vd ν) (hc : CK μ ν) : ∃ z, Rd (fX6_cutSpan μ) μ z ∧ 0 ≤ z ∧ z ≤ 767 ∧ 0 ≤ (μ.1 49 9).toInt ∧ (μ.1 49 9).toInt ≤ 1000000 ∧ ∀ T, gd ν T = true → (μ.1 49 9).toInt ≤ T * z := by
  obtain ⟨n, q, h1, h2, h3, h4⟩ := hc
  have hw := cut_w hv h4
  have hs := sh_sum hv (q := q) (n := n) h4.1.1 h2
  have hN := hw.2.2 h2
  exact ⟨_, sX6_cutSpan h hv h1 h2 h3 h4.1.1 ⟨hw.1, hw.2.1⟩, by omega, by omega, hN.1, hN.2, fun T hG => cut_ok hv h4 hG⟩
theorem sX6_firstGood (h : CN μ ν) (hv : Vd ν) (ht : TrL μ ν) (lo hi : Int32) (hlo : 1 ≤ lo.toInt) (hlo2 : lo.toInt ≤ 10000) (hhi : hi.toInt ≤ 9999) : Wp (fX6_firstGood lo hi μ) (fun r m => CN m ν ∧ TrL m ν ∧ (CK μ ν → CK m ν) ∧ ((r.toInt = -1 ∧ ∀ T, lo.toInt ≤ T → T ≤ hi.toInt → gd ν T = false) ∨ (lo.toInt ≤ r.toInt ∧ r.toInt ≤ hi.toInt ∧ gd ν r.toInt = true ∧ ∀ T, lo.toInt ≤ T → T < r.toInt → gd ν T = false)) ∧ ∀ a, a ∉ [49, 52, 53, 54, 55, 56] → m.1 a = μ.1 a ∧ m.2 a = μ.2 a) := by
  unfold fX6_firstGood
  refine wp_lp2 (fun k (l3 l4 : Int32) m => ∃ i : Nat, l4.toInt = (i : Int) ∧ i ≤ 9999 ∧ k = 9999 - i ∧ lo.toInt + i ≤ l3.toInt ∧ l3.toInt ≤ 20000000 ∧ CN m ν ∧ TrL m ν ∧ (CK μ ν → CK m ν) ∧ (∀ T, lo.toInt ≤ T → T < l3.toInt → gd ν T = false) ∧ ∀ a, a ∉ [49, 52, 53, 54, 55, 56] → m.1 a = μ.1 a ∧ m.2 a = μ.2 a) ax_FU ?_ 9999 (by unfold ax_FU; omega) ⟨0, rfl, by omega, rfl, by omega, by omega, h, ht, id, fun T h1 h2 => by omega, fun a _ => ⟨rfl, rfl⟩⟩
  rintro k rc hrc l3 l4 m ⟨i, hl4, hi4, hk, hl3, hl3b, hm, htm, hck, hno, hkeep⟩
  unfold fX6_firstGood_B5 fX6_firstGood_K52
  refine wp_if (fun c => wp_ret ⟨hm, htm, hck, Or.inl ⟨rfl, fun T h1 h2 => ?_⟩, hkeep⟩) (fun c => wp_if (fun c2 => wp_ret ⟨hm, htm, hck, Or.inl ⟨rfl, fun T h1 h2 => ?_⟩, hkeep⟩) (fun c2 => ?_))
  · rw [t_le, hl4] at c
    simp only [Int32.reduceToInt] at c
    exact hno T h1 (by omega)
  · rw [t_lt] at c2
    exact hno T h1 (by omega)
  · rw [t_le, hl4] at c
    rw [t_lt] at c2
    simp only [Int32.reduceToInt] at c
    refine wp_bd (wp_mono (sX6_holdsK hm hv htm l3 (by omega) (by omega)) ?_)
    rintro r m2 ⟨hm2, ht2, hc2, hr, hk2⟩
    have hkeep2 : ∀ a, a ∉ [49, 52, 53, 54, 55, 56] → m2.1 a = μ.1 a ∧ m2.2 a = μ.2 a := fun a ha => ⟨(hk2 a ha).1.trans (hkeep a ha).1, (hk2 a ha).2.trans (hkeep a ha).2⟩
    rcases hr with ⟨hr, hg⟩ | ⟨hr, hg, hcm⟩
    · rw [if_neg (by rw [t_eq, hr]; decide)]
      exact wp_ret ⟨hm2, ht2, fun hc => hc2 (hck hc), Or.inr ⟨by omega, by omega, hg, hno⟩, hkeep2⟩
    · rw [if_pos (t_eq.mpr hr)]
      obtain ⟨z, hz, z0, z1, n0, n1, hval⟩ := CK_span hm2 hv (CKv_CK hcm)
      refine wp_rdf hz (fun v3 e3 => wp_rdf (sX8_roundedUp (m2.1 49 9) v3 (by omega)) (fun v5 e5 => wp_let ?_))
      rw [e3] at e5
      have hb : 0 < (if z < 1 then (1 : Int) else z) := by split <;> omega
      have c5 : v5.toInt ≤ 1000000 := by
        rw [e5, cdiv_le hb]
        have : 1000000 * 1 ≤ 1000000 * (if z < 1 then (1 : Int) else z) := Int.mul_le_mul_of_nonneg_left (by omega) (by omega)
        omega
      have hadd : (l3 + 1).toInt = l3.toInt + 1 := by rw [t_add]; simp only [Int32.reduceToInt]; omega
      have hmx := mx_toInt (l3 + 1) v5
      rw [hadd] at hmx
      have hge : l3.toInt + 1 ≤ (ax_mx (l3 + 1) v5).toInt := by rw [hmx]; split <;> omega
      refine hrc (9999 - (i + 1)) _ _ _ (by omega) ⟨i + 1, by simp only [t_add, hl4, Int32.reduceToInt]; omega, by omega, rfl, by omega, by rw [hmx]; split <;> omega, hm2, ht2, fun hc => hc2 (hck hc), fun T h1 h2 => ?_, hkeep2⟩
      by_cases e1 : T < l3.toInt
      · exact hno T h1 e1
      · by_cases e2 : T = l3.toInt
        · rw [e2]; exact hg
        · cases eg : gd ν T with
          | false => rfl
          | true =>
            exfalso
            have hN := hval T eg
            have h5 : v5.toInt ≤ T := by
              rw [e5, cdiv_le hb]
              by_cases z2 : z < 1
              · rw [if_pos z2]
                have : z = 0 := by omega
                rw [this, Int.mul_zero] at hN
                omega
              · rw [if_neg z2]; exact hN
            rw [hmx] at h2
            split at h2 <;> omega
end FG
