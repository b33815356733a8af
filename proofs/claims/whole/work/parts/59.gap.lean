/-! gap, pad, pads, open, both sides -/
def gp (ν : Nv) (k : Nat) : Int := 64 * (ν 6 (Fr ν k) + ν 10 k - ν 0 4) - Sh ν k * ν 0 3 + 64 * ν 0 3 - (if Fb ν (To ν k) = true then 0 else ν 2 (Ph ν (To ν k)) * ν 0 3) - 64 * ν 5 (To ν k)
def pd (ν : Nv) (k : Nat) : Int := if gp ν k < 0 then (63 - gp ν k) / 64 else 0
def gv (ν : Nv) (p : Int) : Int := if 0 ≤ p ∧ p < ν 0 2 then gp ν p.toNat else -9223372036854775808
def dvv (ν : Nv) (p : Int) : Int := if 0 ≤ p ∧ p < ν 0 2 then pd ν p.toNat else -1
section GAP
variable {μ : ax_M} {ν : Nv}
theorem gp_bd (hv : Vd ν) (k : Nat) (hk : k < nP ν) : -700000 ≤ gp ν k ∧ gp ν k ≤ 800000 := by
  have h0 := hv.1
  obtain ⟨a1, a2, a3, a4, a5, a6⟩ := vd_path hv k hk
  have s1 := sht_bd hv k hk (ν 0 3) (by omega)
  have s2 := sh_bd hv k hk
  have s3 : 1 * ν 0 3 ≤ Sh ν k * ν 0 3 := Int.mul_le_mul_of_nonneg_right s2.1 (by omega)
  have l1 := lm_bd hv (T := ν 0 3) (by omega) (by omega) _ a3
  have c1 := hv.2.2.1 _ a2
  have c2 := hv.2.2.1 _ a3
  have p1 := hv.2.2.2.1 k hk
  unfold gp
  split <;> omega
theorem sX1_gapOf (h : CN μ ν) (hv : Vd ν) (p : Int32) (k : Nat) (hp : p.toInt = (k : Nat)) (hk : k < nP ν) : Rd (fX1_gapOf p μ) μ (gp ν k) := by
  have h0 := hv.1
  obtain ⟨a1, a2, a3, a4, a5, a6⟩ := vd_path hv k hk
  obtain ⟨b1, b2, b3, b4⟩ := vd_cell hv _ a3
  have gb := gp_bd hv k hk
  have e := h.2.2.2.1 k hk
  have f1 := h.2.2.1 _ a2
  have f2 := h.2.2.1 _ a3
  have g1 := h.2.1 _ b2
  have s1 := sht_bd hv k hk (ν 0 3) (by omega)
  have l1 := lm_bd hv (T := ν 0 3) (by omega) (by omega) _ a3
  have c1 := hv.2.2.1 _ a2
  have c2 := hv.2.2.1 _ a3
  have p1 := hv.2.2.2.1 k hk
  have e12 : (μ.1 12 k).toInt = (To ν k : Nat) := by rw [e.2.1, a5]
  have e11 : (μ.1 11 k).toInt = (Fr ν k : Nat) := by rw [e.1, a4]
  have eT := h.1.2.2.2.1
  have eS := h.1.2.2.2.2.1
  unfold fX1_gapOf fX1_gapOf_K73
  refine rd_wp (wp_rd k hp a1 (wp_rd k hp a1 (wp_rd (Fr ν k) e11 (by omega) (wp_rd k hp a1 (wp_rdf (sX1_shiftOf h hv p k hp hk) (fun r5 e5 => wp_let (wp_rdf (sX1_isFlop h hv _ (To ν k) e12 a3) (fun r8 e8 => wp_if (fun c => ?_) (fun c => ?_)))))))))
  · have hf := not_of e8 c
    refine wp_rd (To ν k) e12 (by omega) (wp_rd (Ph ν (To ν k)) (by rw [f2.2.1, b3]) (by omega) (wp_rd (To ν k) e12 (by omega) (wp_ret ⟨?_, rfl⟩)))
    simp only [t_add, t_sub, t_mul, f1.2.2.2.2, e.2.2.2, eS, e5, eT, f2.2.2.2.1, g1.2.2, Int32.reduceToInt]
    unfold gp
    rw [if_neg hf]
    clear gb
    omega
  · have hf := yes_of e8 c
    refine wp_rd (To ν k) e12 (by omega) (wp_ret ⟨?_, rfl⟩)
    simp only [t_add, t_sub, t_mul, f1.2.2.2.2, e.2.2.2, eS, e5, eT, f2.2.2.2.1, Int32.reduceToInt]
    unfold gp
    rw [if_pos hf]
    clear gb
    omega
theorem sX9_gapOf (h : RN μ ν) (hv : Vd ν) (p : Int32) (k : Nat) (hp : p.toInt = (k : Nat)) (hk : k < nP ν) : Rd6 (fX9_gapOf p μ) μ (gp ν k) := by
  have h0 := hv.1
  obtain ⟨a1, a2, a3, a4, a5, a6⟩ := vd_path hv k hk
  obtain ⟨b1, b2, b3, b4⟩ := vd_cell hv _ a3
  have e := h.2.2.2 k hk
  have f1 := h.2.2.1 _ a2
  have f2 := h.2.2.1 _ a3
  have g1 := h.2.1 _ b2
  have s1 := sht_bd hv k hk (ν 0 3) (by omega)
  have l1 := lm_bd hv (T := ν 0 3) (by omega) (by omega) _ a3
  have c1 := hv.2.2.1 _ a2
  have c2 := hv.2.2.1 _ a3
  have p1 := hv.2.2.2.1 k hk
  have e71 : (μ.1 71 k).toInt = (To ν k : Nat) := by rw [e.2.1, a5]
  have e70 : (μ.1 70 k).toInt = (Fr ν k : Nat) := by rw [e.1, a4]
  have eS := h.1.2.2.2.2.1
  have hs1 : ((μ.1 68 (Fr ν k) + μ.1 74 (43 + k)) - μ.1 74 67).toInt = ν 6 (Fr ν k) + ν 10 k - ν 0 4 := by
    simp only [t_add, t_sub, f1.2.2.2.2.1, e.2.2.2, eS]
    omega
  unfold fX9_gapOf fX9_gapOf_K88
  refine rd6_wp (wp_rd k hp (by omega) (wp_rd (Fr ν k) e70 (by omega) (wp_rd (43 + k) (by simp only [t_add, hp, Int32.reduceToInt]; omega) (by omega) (wp_rd 67 rfl (by omega) (wp_rdf (sX9_shiftOf h hv p k hp hk) (fun r5 e5 => wp_rd6f (sX9_periodLong h) (fun r7 e7 => wp_let (wp_rd k hp (by omega) (wp_rdf (sX9_isFlop h hv _ (To ν k) e71 a3) (fun r8 e8 => wp_if (fun c => ?_) (fun c => ?_)))))))))))
  · have hf := not_of e8 c
    refine wp_rd k hp (by omega) (wp_rd (To ν k) e71 (by omega) (wp_rd (5 + Ph ν (To ν k)) (by simp only [t_add, f2.2.1, b3, Int32.reduceToInt]; omega) (by omega) (wp_rd6f (sX9_periodLong h) (fun r9 e9 => wp_rd6f (sX9_periodLong h) (fun r10 e10 => wp_rd k hp (by omega) (wp_rd (To ν k) e71 (by omega) (wp_ret ⟨?_, rfl⟩)))))))
    simp only [t_add64, t_sub64, t_mul64, t_64, hs1, e5, e7, e9, e10, f2.2.2.2.1, g1.2.2, Int64.reduceToInt]
    unfold gp
    rw [if_neg hf]
    omega
  · have hf := yes_of e8 c
    refine wp_rd6f (sX9_periodLong h) (fun r10 e10 => wp_rd k hp (by omega) (wp_rd (To ν k) e71 (by omega) (wp_ret ⟨?_, rfl⟩)))
    simp only [t_add64, t_sub64, t_mul64, t_64, hs1, e5, e7, e10, f2.2.2.2.1, Int64.reduceToInt]
    unfold gp
    rw [if_pos hf]
    omega
theorem pd_bd (hv : Vd ν) (k : Nat) (hk : k < nP ν) : 0 ≤ pd ν k ∧ pd ν k ≤ 1000000 := by
  have := gp_bd hv k hk
  unfold pd
  split <;> omega
theorem sX1_padOf (h : CN μ ν) (hv : Vd ν) (p : Int32) (k : Nat) (hp : p.toInt = (k : Nat)) (hk : k < nP ν) : Rd (fX1_padOf p μ) μ (pd ν k) := by
  have gb := gp_bd hv k hk
  unfold fX1_padOf
  refine rd_wp (wp_rdf (sX1_gapOf h hv p k hp hk) (fun r1 e1 => ?_))
  have e2 : (-r1).toInt = -(gp ν k) := by rw [t_neg, e1]; omega
  refine wp_rdf (sX8_roundedUp (-r1) 64 (by rw [e2]; omega)) (fun r3 e3 => wp_ret ⟨?_, rfl⟩)
  rw [e2, show (if Int32.toInt 64 < 1 then (1 : Int) else Int32.toInt 64) = 64 from rfl] at e3
  rw [mx_toInt, e3, show Int32.toInt 0 = 0 from rfl]
  unfold cdiv pd
  rw [Int.neg_neg]
  split <;> split <;> omega
theorem cmp_lt (x y : Int64) : lg_cmp x y < 0 ↔ x.toInt < y.toInt := by
  have h1 := cmp_ge x y
  constructor
  · intro h
    by_cases h2 : y.toInt ≤ x.toInt
    · have := h1.mpr h2
      rw [t_le] at this
      rw [t_lt] at h
      omega
    · omega
  · intro h
    by_cases h2 : (0 : Int32) ≤ lg_cmp x y
    · have := h1.mp h2
      omega
    · rw [t_le] at h2
      rw [t_lt]
      omega
theorem sX9_padOf (h : RN μ ν) (hv : Vd ν) (p : Int32) (k : Nat) (hp : p.toInt = (k : Nat)) (hk : k < nP ν) : Rd (fX9_padOf p μ) μ (pd ν k) := by
  have gb := gp_bd hv k hk
  unfold fX9_padOf fX9_padOf_K26
  refine rd_wp (wp_rd6f (sX9_gapOf h hv p k hp hk) (fun r1 e1 => wp_if (fun c => ?_) (fun c => wp_ret ⟨?_, rfl⟩)))
  · rw [cmp_lt, e1] at c
    have c : gp ν k < 0 := c
    have e2 : ((63 : Int64) - r1).toInt = 63 - gp ν k := by rw [t_sub64, e1]; simp only [Int64.reduceToInt]; omega
    unfold ax_dl
    rw [if_neg (by decide)]
    refine wp_some (wp_ret ⟨?_, rfl⟩)
    have e3 : ((63 - r1) / (64 : Int64)).toInt = (63 - gp ν k) / 64 := by
      rw [Int64.toInt_div, t_bmod64, e2, show Int64.toInt 64 = 64 from rfl, Int.tdiv_eq_ediv_of_nonneg (by omega)]
      omega
    rw [Int64.toInt_toInt32, e3, t_bmod]
    unfold pd
    rw [if_pos c]
    omega
  · rw [cmp_lt, e1] at c
    have c : ¬ gp ν k < 0 := c
    unfold pd
    rw [if_neg c]; rfl
theorem sX8_gap (h : CN μ ν) (hv : Vd ν) (p : Int32) : Wp (fX8_gap p μ) (fun r m => m = μ ∧ r.toInt = gv ν p.toInt) := by
  unfold fX8_gap fX8_gap_K26
  refine wp_rdf (sX1_hasPath h p) (fun r e => wp_if (fun c => wp_ret ⟨rfl, ?_⟩) (fun c => ?_))
  · unfold gv; rw [if_neg (not_of e c)]; rfl
  · have hin := yes_of e c
    obtain ⟨k, hk, ek⟩ := in_nat (N := nP ν) hin rfl
    refine wp_rdf (sX1_gapOf h hv p k ek hk) (fun r1 e1 => wp_ret ⟨rfl, ?_⟩)
    rw [t_64, e1]
    unfold gv
    rw [if_pos hin, ek, tn]
theorem sX9_gap (h0 : RN μ ν) (hv : Vd ν) (p : Int32) : Wp (fX9_gap p μ) (fun r m => RN m ν ∧ r.toInt = gv ν p.toInt) := by
  have h : RN (ax_wi μ 57 0 0) ν := RN_wi57 h0
  unfold fX9_gap fX9_gap_K24
  refine wp_let (wp_rdf (sX9_isPath h p) (fun r e => wp_if (fun c => wp_ret ⟨h, ?_⟩) (fun c => ?_)))
  · unfold gv; rw [if_neg (not_of e c)]; rfl
  · have hin := yes_of e c
    obtain ⟨k, hk, ek⟩ := in_nat (N := nP ν) hin rfl
    refine wp_rd6f (sX9_gapOf h hv p k ek hk) (fun r1 e1 => wp_ret ⟨h, ?_⟩)
    rw [e1]
    unfold gv
    rw [if_pos hin, ek, tn]
theorem sX8_pad (h : CN μ ν) (hv : Vd ν) (p : Int32) : Wp (fX8_pad p μ) (fun r m => m = μ ∧ r.toInt = dvv ν p.toInt) := by
  unfold fX8_pad fX8_pad_K23
  refine wp_rdf (sX1_hasPath h p) (fun r e => wp_if (fun c => wp_ret ⟨rfl, ?_⟩) (fun c => ?_))
  · unfold dvv; rw [if_neg (not_of e c)]; rfl
  · have hin := yes_of e c
    obtain ⟨k, hk, ek⟩ := in_nat (N := nP ν) hin rfl
    refine wp_rdf (sX1_padOf h hv p k ek hk) (fun r1 e1 => wp_ret ⟨rfl, ?_⟩)
    rw [e1]
    unfold dvv
    rw [if_pos hin, ek, tn]
theorem sX9_pad (h0 : RN μ ν) (hv : Vd ν) (p : Int32) : Wp (fX9_pad p μ) (fun r m => RN m ν ∧ r.toInt = dvv ν p.toInt) := by
  have h : RN (ax_wi μ 57 0 0) ν := RN_wi57 h0
  unfold fX9_pad fX9_pad_K22
  refine wp_let (wp_rdf (sX9_isPath h p) (fun r e => wp_if (fun c => wp_ret ⟨h, ?_⟩) (fun c => ?_)))
  · unfold dvv; rw [if_neg (not_of e c)]; rfl
  · have hin := yes_of e c
    obtain ⟨k, hk, ek⟩ := in_nat (N := nP ν) hin rfl
    refine wp_rdf (sX9_padOf h hv p k ek hk) (fun r1 e1 => wp_ret ⟨h, ?_⟩)
    rw [e1]
    unfold dvv
    rw [if_pos hin, ek, tn]
theorem sX8_pads (h : CN μ ν) (hv : Vd ν) : Wp (fX8_pads μ) (fun r m => m = μ ∧ r.toInt = sm (pd ν) (nP ν)) := by
  have hn := vd_nums hv
  have hc := vd_cast hv
  have en : (μ.1 2 14).toInt = ν 0 2 := h.1.2.2.1
  refine lp_sum (nP ν) (pd ν) (fun i hi => pd_bd hv i hi) (by omega) (fun rc a l i hl hi a0 a1 hgo => ?_) (fun rc a l hl ha => ?_)
  · unfold fX8_pads_B4
    rw [if_neg (by rw [t_le, en, hl]; omega)]
    have b := pd_bd hv i hi
    exact wp_rdf (sX1_padOf h hv l i hl hi) (fun r1 e1 => wp_let (hgo _ _ (by rw [addv a0 a1 (by omega) (by omega), e1]) (inc hl (by omega))))
  · unfold fX8_pads_B4
    rw [if_pos (by rw [t_le, en, hl]; omega)]
    exact wp_ret ⟨rfl, ha⟩
theorem sX9_pads (h0 : RN μ ν) (hv : Vd ν) : Wp (fX9_pads μ) (fun r m => RN m ν ∧ r.toInt = sm (pd ν) (nP ν)) := by
  have hn := vd_nums hv
  have hc := vd_cast hv
  have h : RN (ax_wi μ 57 0 0) ν := RN_wi57 h0
  unfold fX9_pads
  refine wp_let (lp_sum (nP ν) (pd ν) (fun i hi => pd_bd hv i hi) (by omega) (fun rc a l i hl hi a0 a1 hgo => ?_) (fun rc a l hl ha => ?_))
  · unfold fX9_pads_B9
    have b := pd_bd hv i hi
    refine wp_rdf (sX9_paths h) (fun r er => ?_)
    rw [if_neg (by rw [t_le, er, hl]; omega)]
    exact wp_rdf (sX9_padOf h hv l i hl hi) (fun r1 e1 => wp_let (hgo _ _ (by rw [addv a0 a1 (by omega) (by omega), e1]) (inc hl (by omega))))
  · unfold fX9_pads_B9
    refine wp_rdf (sX9_paths h) (fun r er => ?_)
    rw [if_pos (by rw [t_le, er, hl]; omega)]
    exact wp_ret ⟨h, ha⟩
/-! open -/
def opn (ν : Nv) (t : Int) (i : Nat) : Int := on ((if t - ν 1 i * ν 0 3 < 0 then t - ν 1 i * ν 0 3 + 64 * ν 0 3 else t - ν 1 i * ν 0 3) < ν 2 i * ν 0 3)
def opv (ν : Nv) (t : Int) : Int := if 0 ≤ t ∧ t < 64 * ν 0 3 then sm (opn ν t) (nH ν) else -1
theorem ph_bd (hv : Vd ν) (i : Nat) (hi : i < nH ν) : 0 ≤ ν 1 i * ν 0 3 ∧ ν 1 i * ν 0 3 ≤ 63 * ν 0 3 ∧ 0 ≤ ν 2 i * ν 0 3 ∧ ν 2 i * ν 0 3 ≤ 63 * ν 0 3 := by
  have h0 := hv.1
  have v := hv.2.1 i hi
  exact ⟨Int.mul_nonneg (by omega) (by omega), Int.mul_le_mul_of_nonneg_right v.2.1 (by omega), Int.mul_nonneg (by omega) (by omega), Int.mul_le_mul_of_nonneg_right v.2.2.2 (by omega)⟩
theorem sJ9_floorMod (x y : Int32) (h1 : -y.toInt < x.toInt) (h2 : x.toInt < y.toInt) : Rd (fJ9_floorMod_7cf53 x y μ) μ (if x.toInt < 0 then x.toInt + y.toInt else x.toInt) := by
  have hy2 := t_hi y
  have hx1 := t_lo x
  have hv : (x / y).toInt = 0 := by
    rw [Int32.toInt_div, t_bmod]
    have : x.toInt.tdiv y.toInt = 0 := by
      by_cases h : 0 ≤ x.toInt
      · rw [Int.tdiv_eq_ediv_of_nonneg h]
        exact Int.ediv_eq_zero_of_lt h h2
      · have e : x.toInt = -(-x.toInt) := by omega
        rw [e, Int.neg_tdiv, Int.tdiv_eq_ediv_of_nonneg (by omega), Int.ediv_eq_zero_of_lt (by omega) (by omega)]
        rfl
    rw [this]
    omega
  have hm : (x - x / y * y).toInt = x.toInt := by
    rw [t_sub, t_mul, hv]
    omega
  unfold fJ9_floorMod_7cf53 fJ9_floorMod_7cf53_K18 ax_rm
  rw [if_neg (by rw [t_eq]; simp only [Int32.reduceToInt]; omega)]
  refine rd_wp (wp_some (wp_if (fun c => wp_ret ⟨?_, rfl⟩) (fun c => wp_if (fun c2 => wp_ret ⟨?_, rfl⟩) (fun c2 => wp_ret ⟨?_, rfl⟩))))
  · rw [t_le] at c
    have c := (x_sign x y).mp c
    rw [hm, if_neg (by omega)]
  · rw [t_eq, hm] at c2
    have c2 : x.toInt = 0 := c2
    rw [hm, if_neg (by omega)]
  · rw [t_le] at c
    have := mt (x_sign x y).mpr c
    rw [t_add, hm, if_pos (by omega)]
    omega
theorem sX8_open (h : CN μ ν) (hv : Vd ν) (t : Int32) : Wp (fX8_open t μ) (fun r m => m = μ ∧ r.toInt = opv ν t.toInt) := by
  have h0 := hv.1
  have hn := vd_nums hv
  have hc := vd_cast hv
  have eT : (μ.1 2 16).toInt = ν 0 3 := h.1.2.2.2.1
  have eH : (μ.1 2 12).toInt = ν 0 0 := h.1.1
  have e64 : ((64 : Int32) * μ.1 2 16).toInt = 64 * ν 0 3 := by rw [t_mul, eT]; simp only [Int32.reduceToInt]; omega
  unfold fX8_open fX8_open_K18 fX8_open_K30
  refine wp_if (fun c => wp_ret ⟨rfl, ?_⟩) (fun c => wp_if (fun c2 => ?_) (fun c2 => wp_ret ⟨rfl, ?_⟩))
  · rw [t_lt] at c
    have c : t.toInt < 0 := c
    unfold opv; rw [if_neg (by omega)]; rfl
  · rw [t_lt] at c
    have c : ¬ t.toInt < 0 := c
    rw [t_lt, e64] at c2
    have key : Wp (fX1_openAt t μ) (fun r m => m = μ ∧ r.toInt = sm (opn ν t.toInt) (nH ν)) := by
      refine lp_sum (nH ν) (opn ν t.toInt) (fun i hi => on_bd _) (by omega) (fun rc a l i hl hi a0 a1 hgo => ?_) (fun rc a l hl ha => ?_)
      · unfold fX1_openAt_B4 fX1_openAt_K60
        rw [if_neg (by rw [t_le, eH, hl]; omega)]
        have E := h.2.1 i hi
        have b := ph_bd hv i hi
        have ex : (t - μ.1 4 i * μ.1 2 16).toInt = t.toInt - ν 1 i * ν 0 3 := by rw [t_sub, t_mul, E.2.1, eT]; omega
        have ey : (ax_mx ((64 : Int32) * μ.1 2 16) 1).toInt = 64 * ν 0 3 := by rw [mx_toInt, e64]; simp only [Int32.reduceToInt]; split <;> omega
        have ew : (μ.1 5 i * μ.1 2 16).toInt = ν 2 i * ν 0 3 := by rw [t_mul, E.2.2, eT]; omega
        refine wp_rd i hl (by omega) (wp_rdf (sJ9_floorMod _ _ (by rw [ex, ey]; omega) (by rw [ex, ey]; omega)) (fun r2 e2 => wp_rd i hl (by omega) (wp_if (fun c3 => hgo _ _ ?_ (inc hl (by omega))) (fun c3 => hgo _ _ ?_ (inc hl (by omega))))))
        · rw [ex, ey] at e2
          rw [t_le, ew, e2] at c3
          unfold opn
          rw [on_f (by omega)]; omega
        · rw [ex, ey] at e2
          rw [t_le, ew, e2] at c3
          unfold opn
          rw [add1 a0 a1, on_t (by omega)]
      · unfold fX1_openAt_B4
        rw [if_pos (by rw [t_le, eH, hl]; omega)]
        exact wp_ret ⟨rfl, ha⟩
    refine wp_bd (wp_mono key ?_)
    rintro r m ⟨rfl, hr⟩
    refine wp_ret ⟨rfl, ?_⟩
    unfold opv; rw [if_pos (by omega)]; exact hr
  · rw [t_lt, e64] at c2
    unfold opv; rw [if_neg (by omega)]; rfl
theorem sX9_open (h0' : RN μ ν) (hv : Vd ν) (t : Int32) : Wp (fX9_open t μ) (fun r m => RN m ν ∧ r.toInt = opv ν t.toInt) := by
  have h0 := hv.1
  have hn := vd_nums hv
  have hc := vd_cast hv
  have h : RN (ax_wi μ 57 0 0) ν := RN_wi57 h0'
  have eT := h.1.2.2.2.1
  have e64 : ((64 : Int32) * (ax_wi μ 57 0 0).1 74 0).toInt = 64 * ν 0 3 := by rw [t_mul, eT]; simp only [Int32.reduceToInt]; omega
  unfold fX9_open fX9_open_K24
  refine wp_let (wp_rd 0 rfl (by omega) (wp_let (wp_if (fun c => wp_ret ⟨h, ?_⟩) (fun c => wp_if (fun c2 => ?_) (fun c2 => wp_ret ⟨h, ?_⟩)))))
  · rw [t_lt] at c
    have c : t.toInt < 0 := c
    unfold opv; rw [if_neg (by omega)]; rfl
  · rw [t_lt] at c
    have c : ¬ t.toInt < 0 := c
    rw [t_lt, e64] at c2
    refine lp_sum (nH ν) (opn ν t.toInt) (fun i hi => on_bd _) (by omega) (fun rc a l i hl hi a0 a1 hgo => ?_) (fun rc a l hl ha => ?_)
    · unfold fX9_open_B31
      refine wp_rdf (sX9_phases h) (fun r er => ?_)
      rw [if_neg (by rw [t_le, er, hl]; omega)]
      have E := h.2.1 i hi
      have b := ph_bd hv i hi
      have ex : (t - (ax_wi μ 57 0 0).1 74 (1 + i) * (ax_wi μ 57 0 0).1 74 0).toInt = t.toInt - ν 1 i * ν 0 3 := by rw [t_sub, t_mul, E.2.1, eT]; omega
      have fin : ∀ s : Int32, s.toInt = (if t.toInt - ν 1 i * ν 0 3 < 0 then t.toInt - ν 1 i * ν 0 3 + 64 * ν 0 3 else t.toInt - ν 1 i * ν 0 3) → Wp (fX9_open_K71 t ((64 : Int32) * (ax_wi μ 57 0 0).1 74 0) a l s rc (ax_wi μ 57 0 0)) (fun r m => RN m ν ∧ r.toInt = opv ν t.toInt) := by
        intro s hs
        unfold fX9_open_K71 fX9_open_K98
        have ew : ((ax_wi μ 57 0 0).1 74 (5 + i) * (ax_wi μ 57 0 0).1 74 0).toInt = ν 2 i * ν 0 3 := by rw [t_mul, E.2.2, eT]; omega
        refine wp_rd (5 + i) (by simp only [t_add, hl, Int32.reduceToInt]; omega) (by omega) (wp_rd 0 rfl (by omega) (wp_if (fun c3 => wp_let (hgo _ _ ?_ (inc hl (by omega)))) (fun c3 => wp_let (hgo _ _ ?_ (inc hl (by omega))))))
        · rw [t_le, ew, hs] at c3
          unfold opn
          rw [on_f (by omega), addv a0 a1 (by decide) (by decide)]; rfl
        · rw [t_le, ew, hs] at c3
          unfold opn
          rw [add1 a0 a1, on_t (by omega)]
      refine wp_rd (1 + i) (by simp only [t_add, hl, Int32.reduceToInt]; omega) (by omega) (wp_rd 0 rfl (by omega) (wp_let (wp_if (fun c3 => fin _ ?_) (fun c3 => wp_let (fin _ ?_)))))
      · rw [t_le, ex] at c3
        have c3 : 0 ≤ t.toInt - ν 1 i * ν 0 3 := c3
        rw [ex, if_neg (by omega)]
      · rw [t_le, ex] at c3
        have c3 : ¬ 0 ≤ t.toInt - ν 1 i * ν 0 3 := c3
        rw [t_add, ex, e64, if_pos (by omega)]
        omega
    · unfold fX9_open_B31
      refine wp_rdf (sX9_phases h) (fun r er => ?_)
      rw [if_pos (by rw [t_le, er, hl]; omega)]
      refine wp_ret ⟨h, ?_⟩
      unfold opv; rw [if_pos (by omega)]; exact ha
  · rw [t_lt, e64] at c2
    unfold opv; rw [if_neg (by omega)]; rfl
end GAP
