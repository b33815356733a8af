/-! count, both sides; answers that are one; nets that stay in their bounds -/
theorem cnt_ext {f g : Nat → Bool} {n : Nat} (h : ∀ i, i < n → f i = g i) : cnt f n = cnt g n := by
  induction n with
  | zero => rfl
  | succ n ih =>
    show cnt f n + _ = cnt g n + _
    rw [ih (fun i hi => h i (by omega)), h n (by omega)]
theorem cnt_cut (f : Nat → Bool) {N M : Nat} (h : N ≤ M) : cnt (fun i => decide (i < N) && f i) M = cnt f N := by
  induction M with
  | zero =>
    have : N = 0 := by omega
    rw [this]; rfl
  | succ M ih =>
    by_cases e : N ≤ M
    · show cnt _ M + (if (decide (M < N) && f M) = true then 1 else 0) = cnt f N
      rw [ih e, show decide (M < N) = false from decide_eq_false (by omega)]
      rfl
    · have e2 : N = M + 1 := by omega
      rw [e2]
      exact cnt_ext (fun i hi => by rw [show decide (i < M + 1) = true from decide_eq_true hi]; rfl)
theorem cnt_not (f : Nat → Bool) (n : Nat) : cnt (fun c => !f c) n + cnt f n = n := by
  induction n with
  | zero => rfl
  | succ n ih =>
    show cnt (fun c => !f c) n + (if (!f n) = true then 1 else 0) + (cnt f n + if f n = true then 1 else 0) = n + 1
    cases f n
    · simp only [Bool.not_false, if_true, Bool.false_eq_true, if_false]; omega
    · simp only [Bool.not_true, if_true, Bool.false_eq_true, if_false]; omega
theorem pc_bt {f : Nat → Bool} {N : Nat} (h : N ≤ 10) : pc (bt f N) = cnt f N := by
  unfold pc
  rw [← cnt_cut f h]
  exact cnt_ext (fun i _ => bt_test f N i)
theorem sm_cnt (f : Nat → Bool) (n : Nat) : sm (fun i => if f i = true then 1 else 0) n = (cnt f n : Int) := by
  induction n with
  | zero => rfl
  | succ n ih =>
    show sm _ n + (if f n = true then 1 else 0) = ((cnt f n + (if f n = true then 1 else 0) : Nat) : Int)
    rw [ih]
    split <;> omega
def cnv (ν : Nv) (c N : Nat) (k : Int) : Int := if k = 0 then ν 0 0 else if k = 1 then ν 0 1 else if k = 2 then ν 0 2 else if k = 3 then ν 0 3 else if k = 4 then (cnt (Fb ν) (nC ν) : Int) else if k = 5 then (c : Int) else if k = 6 then (N : Int) else if k = 7 then ν 0 4 else if k = 8 then (nC ν : Int) - (cnt (Fb ν) (nC ν) : Int) else -1
theorem cnv_no {ν : Nv} {c N : Nat} {k : Int} (h : k ≠ 0 ∧ k ≠ 1 ∧ k ≠ 2 ∧ k ≠ 3 ∧ k ≠ 4 ∧ k ≠ 5 ∧ k ≠ 6 ∧ k ≠ 7 ∧ k ≠ 8) : cnv ν c N k = -1 := by
  unfold cnv
  rw [if_neg (by omega), if_neg (by omega), if_neg (by omega), if_neg (by omega), if_neg (by omega), if_neg (by omega), if_neg (by omega), if_neg (by omega), if_neg (by omega)]
section COUNT
variable {m : ax_M} {ν : Nv} {H : Nat → Nv} {c : Nat} {b : Bool} {I : Nv} {N : Nat}
theorem ofn_t {n : Nat} (h : n ≤ 1000) : (Int32.ofNat n).toInt = (n : Int) := by
  rw [Int32.toInt_ofNat', t_bmod]
  omega
theorem sX8_count (hs : CS m ν H c b I) (hv : Vd ν) (hN : (m.1 0 1).toInt = (N : Int)) (p : Int32) : Wp (fX8_count p m) (fun r m2 => m2 = m ∧ r.toInt = cnv ν c N p.toInt) := by
  have hn := vd_nums hv
  obtain ⟨hc, _, _, hp⟩ := hs
  obtain ⟨nxt, _, _, h3, _⟩ := hp
  have cl := cnt_le (Fb ν) (nC ν)
  unfold fX8_count
  refine wp_if (fun g => wp_ret ⟨rfl, ?_⟩) (fun g0 => wp_if (fun g => wp_ret ⟨rfl, ?_⟩) (fun g1 => wp_if (fun g => wp_ret ⟨rfl, ?_⟩) (fun g2 => wp_if (fun g => wp_ret ⟨rfl, ?_⟩) (fun g3 => wp_if (fun g => ?_) (fun g4 => wp_if (fun g => wp_ret ⟨rfl, ?_⟩) (fun g5 => wp_if (fun g => wp_ret ⟨rfl, ?_⟩) (fun g6 => wp_if (fun g => wp_ret ⟨rfl, ?_⟩) (fun g7 => wp_if (fun g => ?_) (fun g8 => wp_ret ⟨rfl, ?_⟩)))))))))
  · rw [q0.mp g]; exact hc.1.1
  · rw [q1.mp g]; exact hc.1.2.1
  · rw [q2.mp g]; exact hc.1.2.2.1
  · rw [q3.mp g]; exact hc.1.2.2.2.1
  · have hb := bt_lt (Fb ν) (nC ν)
    have hb2 : bt (Fb ν) (nC ν) < 1024 := Nat.lt_of_lt_of_le hb (Nat.pow_le_pow_right (n := 2) (by omega) hn.2.1)
    rw [i_nat hc.2.2.2.2, bc_ok _ hb2]
    refine wp_bd (wp_ret (wp_ret ⟨rfl, ?_⟩))
    rw [q4.mp g, pc_bt hn.2.1]
    exact ofn_t (by omega)
  · rw [q5.mp g]; exact h3
  · rw [q6.mp g]; exact hN
  · rw [q7.mp g]; exact hc.1.2.2.2.2.1
  · rw [sX1_latches hc hv]
    have hl : ltS ν < 1024 := Nat.lt_of_lt_of_le (bt_lt (lat ν) (nC ν)) (Nat.pow_le_pow_right (n := 2) (by omega) hn.2.1)
    refine wp_bd (wp_ret ?_)
    rw [bc_ok _ hl]
    refine wp_bd (wp_ret (wp_ret ⟨rfl, ?_⟩))
    have e := cnt_not (Fb ν) (nC ν)
    have e2 : pc (ltS ν) = cnt (fun c => !Fb ν c) (nC ν) := pc_bt hn.2.1
    rw [q8.mp g, e2, ofn_t (by omega)]
    show ((cnt (fun c => !Fb ν c) (nC ν) : Nat) : Int) = (nC ν : Int) - (cnt (Fb ν) (nC ν) : Int)
    omega
  · exact (cnv_no ⟨fun x => g0 (q0.mpr x), fun x => g1 (q1.mpr x), fun x => g2 (q2.mpr x), fun x => g3 (q3.mpr x), fun x => g4 (q4.mpr x), fun x => g5 (q5.mpr x), fun x => g6 (q6.mpr x), fun x => g7 (q7.mpr x), fun x => g8 (q8.mpr x)⟩).symm
theorem r_flopMany (h : RN m ν) (hv : Vd ν) : Wp (fX9_flopMany m) (fun r m2 => m2 = m ∧ r.toInt = (cnt (Fb ν) (nC ν) : Int)) := by
  have hn := vd_nums hv
  have hc := vd_cast hv
  unfold fX9_flopMany
  refine lp_sum (nC ν) (fun i => if Fb ν i = true then 1 else 0) (fun i _ => by split <;> omega) (by omega) (fun rc a l i hl hi h0 h1 hgo => ?_) (fun rc a l hl ha => ?_)
  · unfold fX9_flopMany_B4 fX9_flopMany_K26
    refine wp_rdf (sX9_cells h) (fun r hr => ?_)
    rw [if_neg (by rw [t_le, hr, hl]; omega)]
    refine wp_rdf (sX9_isFlop h hv l i hl hi) (fun v hv2 => wp_if (fun g => wp_let (hgo _ _ ?_ (inc hl (by omega)))) (fun g => wp_let (hgo _ _ ?_ (inc hl (by omega)))))
    · have := not_of hv2 g
      rw [if_neg this, t_add, show Int32.toInt 0 = 0 from rfl]
      omega
    · have := yes_of hv2 g
      rw [if_pos this, add1 h0 h1]
  · unfold fX9_flopMany_B4
    refine wp_rdf (sX9_cells h) (fun r hr => ?_)
    rw [if_pos (by rw [t_le, hr, hl]; omega)]
    exact wp_ret ⟨rfl, ha.trans (sm_cnt _ _)⟩
theorem sX9_count (hs : RS m ν H c b I) (hv : Vd ν) (hN : (m.1 57 2).toInt = (N : Int)) (p : Int32) : Wp (fX9_count p m) (fun r m2 => m2 = ax_wi m 57 0 0 ∧ r.toInt = cnv ν c N p.toInt) := by
  have hn := vd_nums hv
  have hcc := vd_cast hv
  have cl := cnt_le (Fb ν) (nC ν)
  have hz := RS_z hs
  have hN2 : ((ax_wi m 57 0 0).1 57 2).toInt = (N : Int) := by rw [wi_other (by decide)]; exact hN
  unfold fX9_count
  refine wp_let ?_
  generalize ax_wi m 57 0 0 = m1 at hz hN2
  obtain ⟨hc, hp⟩ := hz
  refine wp_if (fun g => wp_rdf (sX9_phases hc) (fun r hr => wp_ret ⟨rfl, ?_⟩)) (fun g0 => wp_if (fun g => wp_rdf (sX9_cells hc) (fun r hr => wp_ret ⟨rfl, ?_⟩)) (fun g1 => wp_if (fun g => wp_rdf (sX9_paths hc) (fun r hr => wp_ret ⟨rfl, ?_⟩)) (fun g2 => wp_if (fun g => wp_rd 0 rfl (by omega) (wp_ret ⟨rfl, ?_⟩)) (fun g3 => wp_if (fun g => wp_bd (wp_mono (r_flopMany hc hv) ?_)) (fun g4 => wp_if (fun g => wp_ret ⟨rfl, ?_⟩) (fun g5 => wp_if (fun g => wp_ret ⟨rfl, ?_⟩) (fun g6 => wp_if (fun g => wp_rd 67 rfl (by omega) (wp_ret ⟨rfl, ?_⟩)) (fun g7 => wp_if (fun g => wp_rdf (sX9_cells hc) (fun r hr => wp_bd (wp_mono (r_flopMany hc hv) ?_))) (fun g8 => wp_ret ⟨rfl, ?_⟩)))))))))
  · rw [q0.mp g]; exact hr
  · rw [q1.mp g]; exact hr
  · rw [q2.mp g]; exact hr
  · rw [q3.mp g]; exact hc.1.2.2.2.1
  · rintro r m2 ⟨e, hr⟩
    rw [e]
    refine wp_ret ⟨rfl, ?_⟩
    rw [q4.mp g]; exact hr
  · rw [q5.mp g]; exact hp.1
  · rw [q6.mp g]; exact hN2
  · rw [q7.mp g]; exact hc.1.2.2.2.2.1
  · rintro r2 m2 ⟨e, hr2⟩
    rw [e]
    refine wp_ret ⟨rfl, ?_⟩
    rw [q8.mp g]
    show (r - r2).toInt = (nC ν : Int) - (cnt (Fb ν) (nC ν) : Int)
    rw [t_sub, hr, hr2]
    omega
  · exact (cnv_no ⟨fun x => g0 (q0.mpr x), fun x => g1 (q1.mpr x), fun x => g2 (q2.mpr x), fun x => g3 (q3.mpr x), fun x => g4 (q4.mpr x), fun x => g5 (q5.mpr x), fun x => g6 (q6.mpr x), fun x => g7 (q7.mpr x), fun x => g8 (q8.mpr x)⟩).symm
theorem ansBo_unique (hv : Vd ν) {p r s : Int} (h : AnsBo ν p r) (h2 : AnsBo ν p s) : r = s := by
  have hc := vd_cast hv
  rcases h with ⟨a1, a2⟩ | ⟨i, a1, a2, a3⟩ <;> rcases h2 with ⟨b1, b2⟩ | ⟨j, b1, b2, b3⟩
  · omega
  · exact absurd ⟨by omega, by omega⟩ a1
  · exact absurd ⟨by omega, by omega⟩ b1
  · have e : j = i := by omega
    rw [e] at b3
    exact bestA_unique a3 b3
theorem ansBt_unique (hv : Vd ν) {p t r s : Int} (h : AnsBt ν p t r) (h2 : AnsBt ν p t s) : r = s := by
  have hc := vd_cast hv
  rcases h with ⟨a1, a2⟩ | ⟨i, k, a1, a2, a3, a4, a5, a6⟩ <;> rcases h2 with ⟨b1, b2⟩ | ⟨j, l, b1, b2, b3, b4, b5, b6⟩
  · omega
  · exfalso
    rcases a1 with a1 | a1 | a1
    · exact a1 ⟨by omega, by omega⟩
    · exact a1 ⟨by omega, by omega⟩
    · omega
  · exfalso
    rcases b1 with b1 | b1 | b1
    · exact b1 ⟨by omega, by omega⟩
    · exact b1 ⟨by omega, by omega⟩
    · omega
  · have e : j = i := by omega
    have e2 : l = k := by omega
    rw [e, e2] at b6
    exact bestA_unique a6 b6
theorem vd_skew (hv : Vd ν) {z : Int} (h : 0 ≤ z ∧ z ≤ 99) : Vd (up ν 0 4 z) := by
  obtain ⟨k0, k1, k2, k3, k4⟩ := hv
  have o : ∀ k i, ¬ (k = 0 ∧ i = 4) → up ν 0 4 z k i = ν k i := fun k i h2 => up_nn h2
  have n0 : nH (up ν 0 4 z) = nH ν := nH_of (o 0 0 (by omega))
  have n1 : nC (up ν 0 4 z) = nC ν := nC_of (o 0 1 (by omega))
  have n2 : nP (up ν 0 4 z) = nP ν := nP_of (o 0 2 (by omega))
  refine ⟨?_, fun i hi => ?_, fun c2 hc2 => ?_, fun p hp => ?_, fun p q hp hq => ?_⟩
  · rw [o 0 0 (by omega), o 0 1 (by omega), o 0 2 (by omega), o 0 3 (by omega), up_at, o 0 5 (by omega)]
    omega
  · rw [o 1 i (by omega), o 2 i (by omega)]
    exact k1 i (by omega)
  · rw [o 0 0 (by omega), o 3 c2 (by omega), o 4 c2 (by omega), o 5 c2 (by omega), o 6 c2 (by omega), o 11 c2 (by omega)]
    exact k2 c2 (by omega)
  · rw [o 0 1 (by omega), o 7 p (by omega), o 8 p (by omega), o 9 p (by omega), o 10 p (by omega)]
    exact k3 p (by omega)
  · rw [o 7 p (by omega), o 8 p (by omega), o 7 q (by omega), o 8 q (by omega)]
    exact k4 p q (by omega) (by omega)
theorem vd_phN (hv : Vd ν) {p o w : Int} (h : phOk ν p o w) : Vd (phN ν p o w) := by
  obtain ⟨k0, k1, k2, k3, k4⟩ := hv
  obtain ⟨h1, h2, h3, h4, h5⟩ := h
  unfold phN
  have e : ∀ k i, ¬ (k = 1 ∧ i = p.toNat) → ¬ (k = 2 ∧ i = p.toNat) → up (up ν 1 p.toNat o) 2 p.toNat w k i = ν k i := fun k i g1 g2 => by rw [up_nn g2, up_nn g1]
  have n0 : nH (up (up ν 1 p.toNat o) 2 p.toNat w) = nH ν := nH_of (e 0 0 (by omega) (by omega))
  have n1 : nC (up (up ν 1 p.toNat o) 2 p.toNat w) = nC ν := nC_of (e 0 1 (by omega) (by omega))
  have n2 : nP (up (up ν 1 p.toNat o) 2 p.toNat w) = nP ν := nP_of (e 0 2 (by omega) (by omega))
  refine ⟨?_, fun i hi => ?_, fun c2 hc2 => ?_, fun p' hp => ?_, fun p' q hp hq => ?_⟩
  · rw [e 0 0 (by omega) (by omega), e 0 1 (by omega) (by omega), e 0 2 (by omega) (by omega), e 0 3 (by omega) (by omega), e 0 4 (by omega) (by omega), e 0 5 (by omega) (by omega)]
    exact k0
  · by_cases g : i = p.toNat
    · rw [g, up_k (by omega), up_at, up_at]; omega
    · rw [e 1 i (by omega) (by omega), e 2 i (by omega) (by omega)]
      exact k1 i (by omega)
  · rw [e 0 0 (by omega) (by omega), e 3 c2 (by omega) (by omega), e 4 c2 (by omega) (by omega), e 5 c2 (by omega) (by omega), e 6 c2 (by omega) (by omega), e 11 c2 (by omega) (by omega)]
    exact k2 c2 (by omega)
  · rw [e 0 1 (by omega) (by omega), e 7 p' (by omega) (by omega), e 8 p' (by omega) (by omega), e 9 p' (by omega) (by omega), e 10 p' (by omega) (by omega)]
    exact k3 p' (by omega)
  · rw [e 7 p' (by omega) (by omega), e 8 p' (by omega) (by omega), e 7 q (by omega) (by omega), e 8 q (by omega) (by omega)]
    exact k4 p' q (by omega) (by omega)
theorem vd_dlN (hv : Vd ν) {p x y : Int} (h : dlOk ν p x y) : Vd (dlN ν p x y) := by
  obtain ⟨k0, k1, k2, k3, k4⟩ := hv
  obtain ⟨h1, h2, h3, h4⟩ := h
  unfold dlN
  have e : ∀ k i, ¬ (k = 9 ∧ i = p.toNat) → ¬ (k = 10 ∧ i = p.toNat) → up (up ν 9 p.toNat x) 10 p.toNat y k i = ν k i := fun k i g1 g2 => by rw [up_nn g2, up_nn g1]
  have n0 : nH (up (up ν 9 p.toNat x) 10 p.toNat y) = nH ν := nH_of (e 0 0 (by omega) (by omega))
  have n1 : nC (up (up ν 9 p.toNat x) 10 p.toNat y) = nC ν := nC_of (e 0 1 (by omega) (by omega))
  have n2 : nP (up (up ν 9 p.toNat x) 10 p.toNat y) = nP ν := nP_of (e 0 2 (by omega) (by omega))
  refine ⟨?_, fun i hi => ?_, fun c2 hc2 => ?_, fun p' hp => ?_, fun p' q hp hq => ?_⟩
  · rw [e 0 0 (by omega) (by omega), e 0 1 (by omega) (by omega), e 0 2 (by omega) (by omega), e 0 3 (by omega) (by omega), e 0 4 (by omega) (by omega), e 0 5 (by omega) (by omega)]
    exact k0
  · rw [e 1 i (by omega) (by omega), e 2 i (by omega) (by omega)]
    exact k1 i (by omega)
  · rw [e 0 0 (by omega) (by omega), e 3 c2 (by omega) (by omega), e 4 c2 (by omega) (by omega), e 5 c2 (by omega) (by omega), e 6 c2 (by omega) (by omega), e 11 c2 (by omega) (by omega)]
    exact k2 c2 (by omega)
  · rw [e 0 1 (by omega) (by omega), e 7 p' (by omega) (by omega), e 8 p' (by omega) (by omega)]
    by_cases g : p' = p.toNat
    · have := k3 p' (by omega)
      rw [g] at this ⊢
      rw [up_at, up_k (by omega), up_at]
      exact ⟨this.1, this.2.1, this.2.2.1, this.2.2.2.1, h3, h4, h2⟩
    · rw [e 9 p' (by omega) (by omega), e 10 p' (by omega) (by omega)]
      exact k3 p' (by omega)
  · rw [e 7 p' (by omega) (by omega), e 8 p' (by omega) (by omega), e 7 q (by omega) (by omega), e 8 q (by omega) (by omega)]
    exact k4 p' q (by omega) (by omega)
end COUNT
