/-! event, both sides; how many bits -/
def tm (ν : Nv) (e : Nat) : Int := (if 4 ≤ e then ν 1 (e % 4) else (ν 1 (e % 4) + ν 2 (e % 4)) % 64) * ν 0 3
def kk (ν : Nv) (e : Nat) : Int := 8 * tm ν e + e
def rk8 (ν : Nv) (x : Int) : Int := sm (fun o => on (o % 4 < nH ν ∧ kk ν o < x)) 8
def EvA (ν : Nv) (k w r : Int) : Prop := (r = -1 ∧ (¬ (0 ≤ w ∧ w ≤ 2) ∨ ∀ e, e < 8 → e % 4 < nH ν → rk8 ν (kk ν e) ≠ k)) ∨ ((0 ≤ w ∧ w ≤ 2) ∧ ∃ e : Nat, e < 8 ∧ e % 4 < nH ν ∧ rk8 ν (kk ν e) = k ∧ r = if w = 0 then kk ν e / 8 else if w = 1 then kk ν e % 4 else kk ν e / 4 % 2)
section EVT
variable {μ : ax_M} {ν : Nv}
theorem sm8 (f : Nat → Int) : sm f 8 = f 0 + f 1 + f 2 + f 3 + f 4 + f 5 + f 6 + f 7 := by
  simp only [sm]
  omega
theorem rk8_lt {a b : Nat} (ha : a < 8) (ha2 : a % 4 < nH ν) (h : kk ν a < kk ν b) : rk8 ν (kk ν a) < rk8 ν (kk ν b) := by
  unfold rk8
  refine sm_lt (fun o ho => ?_) a ha ?_
  · by_cases h1 : o % 4 < nH ν ∧ kk ν o < kk ν a
    · rw [on_t h1, on_t ⟨h1.1, by omega⟩]; omega
    · rw [on_f h1]; exact (on_bd _).1
  · show on (a % 4 < nH ν ∧ kk ν a < kk ν a) < on (a % 4 < nH ν ∧ kk ν a < kk ν b)
    rw [on_f (by omega), on_t ⟨ha2, h⟩]; omega
theorem evA_unique {k w r s : Int} (h : EvA ν k w r) (h2 : EvA ν k w s) : r = s := by
  rcases h with ⟨a1, a2⟩ | ⟨a0, e, a1, a2, a3, a4⟩ <;> rcases h2 with ⟨b1, b2⟩ | ⟨b0, f, b1, b2, b3, b4⟩
  · omega
  · rcases a2 with a2 | a2
    · exact absurd b0 a2
    · exact absurd b3 (a2 f b1 b2)
  · rcases b2 with b2 | b2
    · exact absurd a0 b2
    · exact absurd a3 (b2 e a1 a2)
  · have hk : kk ν e = kk ν f := by
      by_cases h1 : kk ν e < kk ν f
      · have := rk8_lt a1 a2 h1; omega
      · by_cases h2 : kk ν f < kk ν e
        · have := rk8_lt b1 b2 h2; omega
        · omega
    rw [a4, b4, hk]
theorem tm_bd (hv : Vd ν) (e : Nat) (he : e % 4 < nH ν) : 0 ≤ tm ν e ∧ tm ν e ≤ 63 * ν 0 3 := by
  have h0 := hv.1
  have v := hv.2.1 _ he
  unfold tm
  split
  · exact ⟨Int.mul_nonneg (by omega) (by omega), Int.mul_le_mul_of_nonneg_right (by omega) (by omega)⟩
  · exact ⟨Int.mul_nonneg (by omega) (by omega), Int.mul_le_mul_of_nonneg_right (by omega) (by omega)⟩
/-- the class's e-th event is this one here -/
def ce (e : Nat) : Nat := e % 2 * 4 + e / 2
theorem ce_bd (hn : nH ν ≤ 4) {e : Nat} (h : e < 2 * nH ν) : ce e < 8 ∧ ce e % 4 = e / 2 ∧ e / 2 < nH ν ∧ (4 ≤ ce e ↔ e % 2 = 1) := by
  unfold ce
  omega
theorem sX1_keyOf (h : CN μ ν) (hv : Vd ν) (p : Int32) (e : Nat) (hp : p.toInt = (e : Nat)) (he : e < 2 * nH ν) : Rd (fX1_keyOf p μ) μ (kk ν (ce e)) := by
  have h0 := hv.1
  have hn := vd_nums hv
  obtain ⟨c1, c2, c3, c4⟩ := ce_bd hn.1 he
  have E := h.2.1 _ c3
  have v := hv.2.1 _ c3
  have eT : (μ.1 2 16).toInt = ν 0 3 := h.1.2.2.2.1
  have tb := tm_bd hv (ce e) (by omega)
  have z2 : Int32.toInt 2 = 2 := rfl
  have z64 : Int32.toInt 64 = 64 := rfl
  have fin : ∀ v1 v2 s : Int32, v1.toInt = ((e / 2 : Nat) : Int) → v2.toInt = ((e % 2 : Nat) : Int) → 0 ≤ s.toInt → s.toInt ≤ 63 → s.toInt * ν 0 3 = tm ν (ce e) → Wp (fX1_keyOf_K38 v1 v2 s μ) (fun r m => r.toInt = kk ν (ce e) ∧ m = μ) := by
    intro v1 v2 s h1 h2 h3 h4 h5
    unfold fX1_keyOf_K38
    refine wp_ret ⟨?_, rfl⟩
    have hm : (2 * s * μ.1 2 16).toInt = 2 * tm ν (ce e) := by
      have e1 : ((2 : Int32) * s).toInt = 2 * s.toInt := by rw [t_mul, z2]; omega
      rw [t_mul, e1, eT, Int.mul_assoc, h5]
      omega
    simp only [t_add, t_mul _ (4 : Int32), hm, h1, h2, Int32.reduceToInt]
    unfold kk ce
    unfold ce at tb
    omega
  unfold fX1_keyOf
  refine rd_wp (wp_dv (by omega) (by decide) (fun v1 e1 => wp_rm (by omega) (by decide) (fun v2 e2 => ?_)))
  rw [hp, z2] at e1 e2
  have e1 : v1.toInt = ((e / 2 : Nat) : Int) := by omega
  have e2 : v2.toInt = ((e % 2 : Nat) : Int) := by omega
  refine wp_if (fun c => wp_rd (e / 2) e1 (by omega) (fin _ _ _ e1 e2 (by omega) (by omega) ?_)) (fun c => wp_rd (e / 2) e1 (by omega) (wp_rd (e / 2) e1 (by omega) (wp_rm ?_ (by decide) (fun v5 e5 => fin _ _ _ e1 e2 ?_ ?_ ?_))))
  · rw [q1, e2] at c
    unfold tm
    rw [if_pos (c4.mpr (by omega)), c2, E.2.1]
  · rw [t_add, E.2.1, E.2.2]; omega
  · rw [z64] at e5; omega
  · rw [z64] at e5; omega
  · rw [q1, e2] at c
    rw [t_add, E.2.1, E.2.2, z64] at e5
    unfold tm
    rw [if_neg (by rw [c4]; omega), c2, e5]
    congr 1
    omega
theorem rk8_ce (hn : nH ν ≤ 4) (x : Int) : sm (fun e => on (kk ν (ce e) < x)) (2 * nH ν) = rk8 ν x := by
  unfold rk8
  rw [sm8]
  have c0 : ce 0 = 0 := rfl
  have c1 : ce 1 = 4 := rfl
  have c2 : ce 2 = 1 := rfl
  have c3 : ce 3 = 5 := rfl
  have c4 : ce 4 = 2 := rfl
  have c5 : ce 5 = 6 := rfl
  have c6 : ce 6 = 3 := rfl
  have c7 : ce 7 = 7 := rfl
  have h : nH ν = 0 ∨ nH ν = 1 ∨ nH ν = 2 ∨ nH ν = 3 ∨ nH ν = 4 := by omega
  have t : ∀ (o : Nat), o % 4 < nH ν → on (o % 4 < nH ν ∧ kk ν o < x) = on (kk ν o < x) := by
    intro o ho
    by_cases g : kk ν o < x
    · rw [on_t ⟨ho, g⟩, on_t g]
    · rw [on_f (fun q => g q.2), on_f g]
  have f : ∀ (o : Nat), ¬ o % 4 < nH ν → on (o % 4 < nH ν ∧ kk ν o < x) = 0 := fun o ho => on_f (fun q => ho q.1)
  rcases h with h | h | h | h | h
  · rw [f 0 (by omega), f 1 (by omega), f 2 (by omega), f 3 (by omega), f 4 (by omega), f 5 (by omega), f 6 (by omega), f 7 (by omega), h]
    rfl
  · rw [t 0 (by omega), f 1 (by omega), f 2 (by omega), f 3 (by omega), t 4 (by omega), f 5 (by omega), f 6 (by omega), f 7 (by omega), h]
    simp only [sm, c0, c1, Nat.mul_one]
    omega
  · rw [t 0 (by omega), t 1 (by omega), f 2 (by omega), f 3 (by omega), t 4 (by omega), t 5 (by omega), f 6 (by omega), f 7 (by omega), h]
    simp only [sm, c0, c1, c2, c3]
    omega
  · rw [t 0 (by omega), t 1 (by omega), t 2 (by omega), f 3 (by omega), t 4 (by omega), t 5 (by omega), t 6 (by omega), f 7 (by omega), h]
    simp only [sm, c0, c1, c2, c3, c4, c5]
    omega
  · rw [t 0 (by omega), t 1 (by omega), t 2 (by omega), t 3 (by omega), t 4 (by omega), t 5 (by omega), t 6 (by omega), t 7 (by omega), h]
    simp only [sm, c0, c1, c2, c3, c4, c5, c6, c7]
    omega
theorem sX8_event (h : CN μ ν) (hv : Vd ν) (k w : Int32) : Wp (fX8_event k w μ) (fun r m => m = μ ∧ EvA ν k.toInt w.toInt r.toInt) := by
  have h0 := hv.1
  have hn := vd_nums hv
  have hc := vd_cast hv
  have eH : (μ.1 2 12).toInt = ν 0 0 := h.1.1
  have e2H : ((2 : Int32) * μ.1 2 12).toInt = ((2 * nH ν : Nat) : Int) := by rw [t_mul, eH]; simp only [Int32.reduceToInt]; omega
  have key : Wp (fX1_eventKey k μ) (fun r m => m = μ ∧ ((r.toInt = -1 ∧ ∀ e, e < 2 * nH ν → rk8 ν (kk ν (ce e)) ≠ k.toInt) ∨ ∃ e, e < 2 * nH ν ∧ r.toInt = kk ν (ce e) ∧ rk8 ν (kk ν (ce e)) = k.toInt)) := by
    unfold fX1_eventKey
    refine lp_find (2 * nH ν) (fun e => rk8 ν (kk ν (ce e)) = k.toInt) (by omega) (fun rc l i hl hi hno hgo => ?_) (fun rc l hl hno => ?_)
    · unfold fX1_eventKey_B2
      rw [if_neg (by rw [t_le, e2H, hl]; omega)]
      refine wp_rdf (sX1_keyOf h hv l i hl hi) (fun r1 e1 => ?_)
      refine lp_sum (2 * nH ν) (fun e => on (kk ν (ce e) < kk ν (ce i))) (fun _ _ => on_bd _) (by omega) (fun rc2 a l2 j hl2 hj a0 a1 hgo2 => ?_) (fun rc2 a l2 hl2 ha => ?_)
      · unfold fX1_eventKey_B24 fX1_eventKey_K48
        rw [if_neg (by rw [t_le, e2H, hl2]; omega)]
        refine wp_rdf (sX1_keyOf h hv l2 j hl2 hj) (fun r4 e4 => wp_if (fun c => hgo2 _ _ ?_ (inc hl2 (by omega))) (fun c => hgo2 _ _ ?_ (inc hl2 (by omega))))
        · rw [t_le, e1, e4] at c
          rw [on_f (by omega)]; omega
        · rw [t_le, e1, e4] at c
          rw [add1 a0 a1, on_t (by omega)]
      · unfold fX1_eventKey_B24
        rw [if_pos (by rw [t_le, e2H, hl2]; omega)]
        rw [rk8_ce hn.1] at ha
        refine wp_if (fun c => wp_ret ⟨rfl, Or.inr ⟨i, hi, e1, ?_⟩⟩) (fun c => hgo (fun hP => c ?_) _ (inc hl (by omega)))
        · rw [← ha, c]
        · rw [t_eq, ha]; exact hP
    · unfold fX1_eventKey_B2
      rw [if_pos (by rw [t_le, e2H, hl]; omega)]
      exact wp_ret ⟨rfl, Or.inl ⟨rfl, hno⟩⟩
  unfold fX8_event
  refine wp_bd (wp_mono key ?_)
  rintro r m ⟨rfl, hr⟩
  rcases hr with ⟨hr, hno⟩ | ⟨e, he, hr, hrk⟩
  · rw [if_pos (qm1.mpr hr)]
    refine wp_ret ⟨rfl, Or.inl ⟨rfl, Or.inr (fun e h1 h2 => ?_)⟩⟩
    have := hno (2 * (e % 4) + e / 4) (by omega)
    rw [show ce (2 * (e % 4) + e / 4) = e by unfold ce; omega] at this
    exact this
  · obtain ⟨c1, c2, c3, c4⟩ := ce_bd hn.1 he
    have tb := tm_bd hv (ce e) (by omega)
    have kb : 0 ≤ kk ν (ce e) ∧ kk ν (ce e) ≤ 10000000 := by unfold kk; omega
    have yes : ∀ r2 : Int, (0 ≤ w.toInt ∧ w.toInt ≤ 2) → r2 = (if w.toInt = 0 then kk ν (ce e) / 8 else if w.toInt = 1 then kk ν (ce e) % 4 else kk ν (ce e) / 4 % 2) → EvA ν k.toInt w.toInt r2 := fun r2 h1 h2 => Or.inr ⟨h1, ce e, c1, by omega, hrk, h2⟩
    rw [if_neg (fun h => by have := qm1.mp h; omega)]
    refine wp_if (fun c0 => wp_dv (by omega) (by decide) (fun v4 e4 => wp_ret ⟨rfl, yes _ ?_ ?_⟩)) (fun c0 => wp_if (fun c1 => wp_rm (by omega) (by decide) (fun v4 e4 => wp_ret ⟨rfl, yes _ ?_ ?_⟩)) (fun c1 => wp_if (fun c2 => wp_dv (by omega) (by decide) (fun v4 e4 => wp_rm ?_ (by decide) (fun v5 e5 => wp_ret ⟨rfl, yes _ ?_ ?_⟩))) (fun c2 => wp_ret ⟨rfl, Or.inl ⟨rfl, Or.inl ?_⟩⟩)))
    · have := q0.mp c0; omega
    · rw [if_pos (q0.mp c0), e4, hr]; rfl
    · have := q1.mp c1; omega
    · rw [if_neg (mt q0.mpr c0), if_pos (q1.mp c1), e4, hr]; rfl
    · rw [e4, hr, show Int32.toInt 4 = 4 from rfl]; omega
    · have := q2.mp c2; omega
    · rw [if_neg (mt q0.mpr c0), if_neg (mt q1.mpr c1), e5, e4, hr]; rfl
    · have := mt q0.mpr c0
      have := mt q1.mpr c1
      have := mt q2.mpr c2
      omega
theorem sX9_timeOf (h : RN μ ν) (hv : Vd ν) (p : Int32) (e : Nat) (hp : p.toInt = (e : Nat)) (he : e < 8) (he2 : e % 4 < nH ν) : Rd (fX9_timeOf p μ) μ (tm ν e) := by
  have h0 := hv.1
  have hn := vd_nums hv
  have E := h.2.1 _ he2
  have v := hv.2.1 _ he2
  have eT : (μ.1 74 0).toInt = ν 0 3 := h.1.2.2.2.1
  have tb := tm_bd hv e he2
  have z4 : Int32.toInt 4 = 4 := rfl
  have z64 : Int32.toInt 64 = 64 := rfl
  have fin : ∀ s0 s1 : Int32, 0 ≤ s0.toInt → s0.toInt ≤ 63 → 0 ≤ s1.toInt → s1.toInt ≤ 63 → (s0.toInt + s1.toInt) % 64 * ν 0 3 = tm ν e → Wp (fX9_timeOf_K29 s0 s1 μ) (fun r m => r.toInt = tm ν e ∧ m = μ) := by
    intro s0 s1 h1 h2 h3 h4 h5
    unfold fX9_timeOf_K29
    have e1 : (s0 + s1).toInt = s0.toInt + s1.toInt := by rw [t_add]; omega
    refine wp_let (wp_rm (by omega) (by decide) (fun v4 e4 => wp_rd 0 rfl (by omega) (wp_ret ⟨?_, rfl⟩)))
    rw [e1, z64] at e4
    rw [t_mul, e4, eT, h5]
    omega
  unfold fX9_timeOf
  refine rd_wp (wp_rm (by omega) (by decide) (fun v1 e1 => ?_))
  rw [hp, z4] at e1
  have i1 : ((1 : Int32) + v1).toInt = ((1 + e % 4 : Nat) : Int) := by simp only [t_add, e1, Int32.reduceToInt]; omega
  have i5 : ((5 : Int32) + v1).toInt = ((5 + e % 4 : Nat) : Int) := by simp only [t_add, e1, Int32.reduceToInt]; omega
  refine wp_rd (1 + e % 4) i1 (by omega) (wp_if (fun c => fin _ _ (by omega) (by omega) (by decide) (by decide) ?_) (fun c => wp_rd (5 + e % 4) i5 (by omega) (fin _ _ (by omega) (by omega) (by omega) (by omega) ?_)))
  · rw [t_le, hp, z4] at c
    unfold tm
    rw [if_pos (by omega), E.2.1]
    congr 1
    have : Int32.toInt 0 = 0 := rfl
    omega
  · rw [t_le, hp, z4] at c
    unfold tm
    rw [if_neg (by omega), E.2.1, E.2.2]
theorem sX9_event (h0' : RN μ ν) (hv : Vd ν) (k w : Int32) : Wp (fX9_event k w μ) (fun r m => RN m ν ∧ EvA ν k.toInt w.toInt r.toInt) := by
  have h0 := hv.1
  have hn := vd_nums hv
  have hc := vd_cast hv
  have h : RN (ax_wi μ 57 0 0) ν := RN_wi57 h0'
  have z4 : Int32.toInt 4 = 4 := rfl
  have z8 : Int32.toInt 8 = 8 := rfl
  have z0 : Int32.toInt 0 = 0 := rfl
  have rb : ∀ x, 0 ≤ rk8 ν x ∧ rk8 ν x ≤ sm (fun o => on (o % 4 < nH ν)) 8 := by
    intro x
    unfold rk8
    refine ⟨(sm_bd (b := 1) (fun i _ => by have := on_bd (i % 4 < nH ν ∧ kk ν i < x); unfold on at *; split <;> omega)).1, ?_⟩
    rw [sm8, sm8]
    have : ∀ o : Nat, on (o % 4 < nH ν ∧ kk ν o < x) ≤ on (o % 4 < nH ν) := by
      intro o
      by_cases g : o % 4 < nH ν ∧ kk ν o < x
      · rw [on_t g, on_t g.1]; omega
      · rw [on_f g]; exact (on_bd _).1
    have a0 := this 0
    have a1 := this 1
    have a2 := this 2
    have a3 := this 3
    have a4 := this 4
    have a5 := this 5
    have a6 := this 6
    have a7 := this 7
    omega
  have self : ∀ e, e < 8 → e % 4 < nH ν → rk8 ν (kk ν e) < 2 * nH ν := by
    intro e he he2
    have a : rk8 ν (kk ν e) < sm (fun o => on (o % 4 < nH ν)) 8 := by
      unfold rk8
      refine sm_lt (fun o ho => ?_) e he ?_
      · by_cases g : o % 4 < nH ν ∧ kk ν o < kk ν e
        · rw [on_t g, on_t g.1]; omega
        · rw [on_f g]; exact (on_bd _).1
      · show on (e % 4 < nH ν ∧ kk ν e < kk ν e) < on (e % 4 < nH ν)
        rw [on_f (by omega), on_t he2]; omega
    have b : sm (fun o => on (o % 4 < nH ν)) 8 = 2 * nH ν := by
      rw [sm8]
      unfold on
      have h : nH ν = 0 ∨ nH ν = 1 ∨ nH ν = 2 ∨ nH ν = 3 ∨ nH ν = 4 := by omega
      rcases h with h | h | h | h | h <;> rw [h] <;> rfl
    omega
  unfold fX9_event fX9_event_K28
  refine wp_let (wp_if (fun c => wp_ret ⟨h, Or.inl ⟨rfl, Or.inr (fun e he he2 hr => ?_)⟩⟩) (fun c => wp_rdf (sX9_phases h) (fun v2 e2 => wp_if (fun c2 => wp_ret ⟨h, Or.inl ⟨rfl, Or.inr (fun e he he2 hr => ?_)⟩⟩) (fun c2 => wp_if (fun c3 => wp_ret ⟨h, Or.inl ⟨rfl, Or.inl ?_⟩⟩) (fun c3 => wp_if (fun c4 => ?_) (fun c4 => wp_ret ⟨h, Or.inl ⟨rfl, Or.inl ?_⟩⟩))))))
  · rw [t_lt, z0] at c
    have := (rb (kk ν e)).1
    omega
  · rw [t_le, t_mul, e2] at c2
    simp only [Int32.reduceToInt] at c2
    have := self e he he2
    omega
  · rw [t_lt, z0] at c3; omega
  · rw [t_lt, z0] at c3
    rw [t_le] at c4
    have c4 : w.toInt ≤ 2 := c4
    refine lp_find 8 (fun e => e % 4 < nH ν ∧ rk8 ν (kk ν e) = k.toInt) (by omega) (fun rc l i hl hi hno hgo => ?_) (fun rc l hl hno => ?_)
    · unfold fX9_event_B32 fX9_event_K161
      rw [if_neg (by rw [t_le, z8, hl]; omega)]
      refine wp_rm (by omega) (by decide) (fun v4 e4 => wp_rdf (sX9_phases h) (fun v5 e5 => wp_if (fun c5 => ?_) (fun c5 => hgo (fun hP => c5 ?_) _ (inc hl (by omega)))))
      · rw [t_lt, e4, e5, hl, z4] at c5
        have hi4 : i % 4 < nH ν := by omega
        have tbi := tm_bd hv i hi4
        refine lp_sum 8 (fun o => on (o % 4 < nH ν ∧ kk ν o < kk ν i)) (fun _ _ => on_bd _) (by omega) (fun rc2 a l2 j hl2 hj a0 a1 hgo2 => ?_) (fun rc2 a l2 hl2 ha => ?_)
        · unfold fX9_event_B57 fX9_event_K122 fX9_event_K114 fX9_event_K118 fX9_event_K119 fX9_event_K122
          rw [if_neg (by rw [t_le, z8, hl2]; omega)]
          refine wp_rm (by omega) (by decide) (fun v14 e14 => wp_rdf (sX9_phases h) (fun v15 e15 => wp_if (fun c6 => ?_) (fun c6 => hgo2 _ _ ?_ (inc hl2 (by omega)))))
          · rw [t_lt, e14, e15, hl2, z4] at c6
            have hj4 : j % 4 < nH ν := by omega
            have tbj := tm_bd hv j hj4
            refine wp_rdf (sX9_timeOf h hv l2 j hl2 hj hj4) (fun v17 e17 => wp_rdf (sX9_timeOf h hv l i hl hi hi4) (fun v19 e19 => wp_if (fun c7 => wp_let (hgo2 _ _ ?_ (inc hl2 (by omega)))) (fun c7 => wp_rdf (sX9_timeOf h hv l2 j hl2 hj hj4) (fun v22 e22 => wp_rdf (sX9_timeOf h hv l i hl hi hi4) (fun v24 e24 => wp_if (fun c8 => wp_if (fun c9 => wp_let (hgo2 _ _ ?_ (inc hl2 (by omega)))) (fun c9 => wp_let (hgo2 _ _ ?_ (inc hl2 (by omega))))) (fun c8 => wp_let (hgo2 _ _ ?_ (inc hl2 (by omega)))))))))
            · rw [t_lt, e17, e19] at c7
              rw [add1 a0 a1, on_t ⟨hj4, by unfold kk; omega⟩]
            · rw [t_eq, e22, e24] at c8
              rw [t_le, hl, hl2] at c9
              rw [addv a0 a1 (by decide) (by decide), on_f (by unfold kk; omega)]; rfl
            · rw [t_eq, e22, e24] at c8
              rw [t_le, hl, hl2] at c9
              rw [add1 a0 a1, on_t ⟨hj4, by unfold kk; omega⟩]
            · rw [t_lt, e17, e19] at c7
              rw [t_eq, e22, e24] at c8
              rw [addv a0 a1 (by decide) (by decide), on_f (by unfold kk; omega)]; rfl
          · rw [t_lt, e14, e15, hl2, z4] at c6
            rw [on_f (by omega)]; omega
        · unfold fX9_event_B57 fX9_event_K160 fX9_event_K161
          rw [if_pos (by rw [t_le, z8, hl2]; omega)]
          have ha : a.toInt = rk8 ν (kk ν i) := ha
          have fin : a = k → ∀ r2 : Int, r2 = (if w.toInt = 0 then kk ν i / 8 else if w.toInt = 1 then kk ν i % 4 else kk ν i / 4 % 2) → EvA ν k.toInt w.toInt r2 := fun g r2 h2 => Or.inr ⟨by omega, i, hi, hi4, by rw [← ha, g], h2⟩
          refine wp_if (fun c6 => wp_if (fun c7 => wp_rdf (sX9_timeOf h hv l i hl hi hi4) (fun v e => wp_ret ⟨h, fin c6 _ ?_⟩)) (fun c7 => wp_if (fun c8 => wp_rm (by omega) (by decide) (fun v e => wp_ret ⟨h, fin c6 _ ?_⟩)) (fun c8 => wp_dv (by omega) (by decide) (fun v e => wp_ret ⟨h, fin c6 _ ?_⟩)))) (fun c6 => hgo (fun hP => c6 ?_) _ (inc hl (by omega)))
          · rw [if_pos (q0.mp c7), e]; unfold kk; omega
          · rw [if_neg (mt q0.mpr c7), if_pos (q1.mp c8), e, hl, z4]; unfold kk; omega
          · rw [if_neg (mt q0.mpr c7), if_neg (mt q1.mpr c8), e, hl, z4]; unfold kk; omega
          · rw [t_eq, ha]; exact hP.2
      · rw [t_lt, e4, e5, hl, z4]
        have := hP.1
        omega
    · unfold fX9_event_B32
      rw [if_pos (by rw [t_le, z8, hl]; omega)]
      exact wp_ret ⟨h, Or.inl ⟨rfl, Or.inr (fun e he he2 hr => hno e he ⟨he2, hr⟩)⟩⟩
  · rw [t_le] at c4
    have c4 : ¬ w.toInt ≤ 2 := c4
    omega
end EVT
