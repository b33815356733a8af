/-! chain, both sides -/
def Cs (ν : Nv) (c : Nat) : Nat → Nat → (Nat → Bool) → Prop
  | 0, d, s => d = c ∧ s = (fun x => decide (x = c))
  | k + 1, d, s => ∃ d0 s0, Cs ν c k d0 s0 ∧ ¬ (0 < k ∧ LL ν (ν 0 3) d0 = 0) ∧ ∃ p : Nat, LtA ν d0 (p : Int) ∧ p < nP ν ∧ d = Fr ν p ∧ s0 d = false ∧ s = (fun x => s0 x || decide (x = d))
def AnsCn (ν : Nv) (p i r : Int) : Prop := ((¬ (0 ≤ p ∧ p < ν 0 1) ∨ i < 0) ∧ r = -1) ∨ ((0 ≤ p ∧ p < ν 0 1) ∧ 0 ≤ i ∧ bd ν (ν 0 3) = false ∧ r = -2) ∨ ((0 ≤ p ∧ p < ν 0 1) ∧ 0 ≤ i ∧ bd ν (ν 0 3) = true ∧ ((∃ d s, Cs ν p.toNat i.toNat d s ∧ r = (d : Int)) ∨ ((¬ ∃ d s, Cs ν p.toNat i.toNat d s) ∧ r = -2)))
section CHA
variable {μ : ax_M} {ν : Nv} {c : Nat}
theorem cs_unique {k d d2 : Nat} {s s2 : Nat → Bool} (h : Cs ν c k d s) (h2 : Cs ν c k d2 s2) : d = d2 ∧ s = s2 := by
  induction k generalizing d d2 s s2 with
  | zero => exact ⟨h.1.trans h2.1.symm, h.2.trans h2.2.symm⟩
  | succ k ih =>
    obtain ⟨d0, s0, a1, a2, p, a3, a4, a5, a6, a7⟩ := h
    obtain ⟨e0, t0, b1, b2, q, b3, b4, b5, b6, b7⟩ := h2
    obtain ⟨g1, g2⟩ := ih a1 b1
    subst g1
    subst g2
    have := ltA_unique a3 b3
    have : p = q := by omega
    subst this
    have e : d = d2 := a5.trans b5.symm
    subst e
    exact ⟨rfl, a7.trans b7.symm⟩
theorem cs_pre {k : Nat} (h : ∃ d s, Cs ν c (k + 1) d s) : ∃ d s, Cs ν c k d s := by
  obtain ⟨d, s, d0, s0, a1, -⟩ := h
  exact ⟨d0, s0, a1⟩
theorem cs_after {k : Nat} (h : ¬ ∃ d s, Cs ν c k d s) (j : Nat) (hj : k ≤ j) : ¬ ∃ d s, Cs ν c j d s := by
  induction j with
  | zero =>
    have : k = 0 := by omega
    rw [← this]; exact h
  | succ j ih =>
    by_cases e : k = j + 1
    · rw [← e]; exact h
    · exact fun g => ih (by omega) (cs_pre g)
theorem cs_cnt (hv : Vd ν) (hc : c < nC ν) {k d : Nat} {s : Nat → Bool} (h : Cs ν c k d s) : d < nC ν ∧ s d = true ∧ k < cnt s (nC ν) := by
  induction k generalizing d s with
  | zero =>
    obtain ⟨h1, h2⟩ := h
    subst h1
    refine ⟨hc, by rw [h2]; simp, ?_⟩
    have := cnt_lt (f := fun _ => false) (g := s) (n := nC ν) (fun _ _ h => by cases h) d hc rfl (by rw [h2]; simp)
    omega
  | succ k ih =>
    obtain ⟨d0, s0, a1, a2, p, a3, a4, a5, a6, a7⟩ := h
    obtain ⟨i1, i2, i3⟩ := ih a1
    have hd : d < nC ν := by rw [a5]; exact (vd_path hv p a4).2.1
    refine ⟨hd, by rw [a7]; simp, ?_⟩
    have := cnt_lt (f := s0) (g := s) (n := nC ν) (fun x _ h => by rw [a7]; simp [h]) d hd a6 (by rw [a7]; simp)
    omega
theorem cs_lt (hv : Vd ν) (hc : c < nC ν) {k d : Nat} {s : Nat → Bool} (h : Cs ν c k d s) : k < nC ν := by
  have := (cs_cnt hv hc h).2.2
  have := cnt_le s (nC ν)
  omega
theorem b_or2 : ∀ b, b < 1024 → ∀ c, c < 10 → (Int32.ofNat b ||| ((1 : Int32) <<< (Int32.ofNat c &&& 31))) = Int32.ofNat (b ||| 2 ^ c) := by decide +kernel
theorem bt_or {f g : Nat → Bool} {n d : Nat} (hd : d < n) (h : ∀ x, x < n → g x = (f x || decide (x = d))) : bt g n = bt f n ||| 2 ^ d := by
  refine Nat.eq_of_testBit_eq (fun i => ?_)
  rw [Nat.testBit_or, bt_test, bt_test, Nat.testBit_two_pow]
  by_cases hi : i < n
  · rw [h i hi]
    by_cases e : i = d
    · subst e; simp [hi]
    · simp [hi, e, Ne.symm e]
  · have : ¬ d = i := by omega
    simp [hi, this]
/-- the bits of what was seen before the last -/
def Pv (l : Int32) (s : Nat → Bool) (d : Nat) : Prop := ∃ f : Nat → Bool, l = Int32.ofNat (bt f 10) ∧ ∀ x, x < 10 → s x = (f x || decide (x = d))
theorem pv_or {l dd : Int32} {s : Nat → Bool} {d : Nat} (h : Pv l s d) (hd : d < 10) (hdd : dd.toInt = (d : Int)) : (l ||| ((1 : Int32) <<< (dd &&& 31))) = Int32.ofNat (bt s 10) := by
  obtain ⟨f, h1, h2⟩ := h
  rw [h1, i_nat hdd, b_or2 _ (bt_10 f (by omega)) d hd, bt_or hd h2]
theorem pv_test {s : Nat → Bool} {x : Int32} {d : Nat} (hd : d < 10) (hx : x.toInt = (d : Int)) : ((Int32.ofNat (bt s 10) >>> (x &&& 31)) &&& (1 : Int32)) = 0 ↔ s d = false := by
  rw [i_nat hx, b_test _ (bt_10 s (by omega)) d hd, bt_test]
  simp [hd]
theorem sX5_chained (h : CN μ ν) (hv : Vd ν) (ht : TOk μ ν) (hb : bd ν (ν 0 3) = true) (p i : Int32) (hp : p.toInt = (c : Nat)) (hc : c < nC ν) (hi0 : 0 ≤ i.toInt) : Wp (fX5_chained p i μ) (fun r m => m = μ ∧ ((∃ d s, Cs ν c i.toInt.toNat d s ∧ r.toInt = (d : Int)) ∨ ((¬ ∃ d s, Cs ν c i.toInt.toNat d s) ∧ r.toInt = -2))) := by
  have hn := vd_nums hv
  unfold fX5_chained
  refine wp_lp3 (fun j (l3 l4 l5 : Int32) m => m = μ ∧ ∃ k : Nat, l5.toInt = (k : Int) ∧ k ≤ 10 ∧ j = 10 - k ∧ (k : Int) ≤ i.toInt ∧ ∃ d s, Cs ν c k d s ∧ l4.toInt = (d : Int) ∧ Pv l3 s d) ax_FU ?_ 10 (by decide) ⟨rfl, 0, rfl, by omega, rfl, hi0, c, fun x => decide (x = c), ⟨rfl, rfl⟩, hp, fun _ => false, rfl, fun x _ => by simp⟩
  rintro j rc hrc l3 l4 l5 m ⟨rfl, k, hl5, hk, hj, hki, d, s, hC, hl4, hP⟩
  obtain ⟨d1, d2, d3⟩ := cs_cnt hv hc hC
  have hkn := cs_lt hv hc hC
  have hd10 : d < 10 := by omega
  unfold fX5_chained_B8 fX5_chained_K60 fX5_chained_K63
  refine wp_if (fun c1 => ?_) (fun c1 => wp_if (fun c2 => wp_ret ⟨rfl, Or.inl ⟨d, s, ?_, hl4⟩⟩) (fun c2 => wp_let ?_))
  · rw [t_le, hl5] at c1
    have c1 : (10 : Int) ≤ (k : Int) := c1
    omega
  · rw [← c2, hl5]; exact hC
  · have hne : (k : Int) < i.toInt := by
      have : ¬ (k : Int) = i.toInt := fun g => c2 (t_eq.mpr (hl5.trans g))
      omega
    rw [pv_or hP hd10 hl4]
    have no : (¬ ∃ d s, Cs ν c (k + 1) d s) → Wp (some ((-2 : Int32), m)) (fun r m2 => m2 = m ∧ ((∃ d s, Cs ν c i.toInt.toNat d s ∧ r.toInt = (d : Int)) ∨ ((¬ ∃ d s, Cs ν c i.toInt.toNat d s) ∧ r.toInt = -2))) := fun g => wp_ret ⟨rfl, Or.inr ⟨cs_after g _ (by omega), rfl⟩⟩
    refine wp_bd (wp_mono (sX5_latestPath h hv ht hb l4 d hl4 d1) ?_)
    rintro v2 m3 ⟨rfl, hL⟩
    have next : ∀ q : Nat, v2.toInt = (q : Int) → q < nP ν → ¬ (0 < k ∧ LL ν (ν 0 3) d = 0) → Wp (Option.bind (ax_rd m3 11 24 v2) (fun v4 => (if ((Int32.ofNat (bt s 10) >>> (v4 &&& 31)) &&& (1 : Int32)) = 0 then (rc (Int32.ofNat (bt s 10)) v4 (l5 + (1 : Int32)) m3) else (some ((-2 : Int32), m3))))) (fun r m2 => m2 = m3 ∧ ((∃ d s, Cs ν c i.toInt.toNat d s ∧ r.toInt = (d : Int)) ∨ ((¬ ∃ d s, Cs ν c i.toInt.toNat d s) ∧ r.toInt = -2))) := by
      intro q hq hq2 hend
      obtain ⟨a1, a2, a3, a4, a5, a6⟩ := vd_path hv q hq2
      have e := h.2.2.2.1 q hq2
      have e11 : (m3.1 11 q).toInt = (Fr ν q : Nat) := by rw [e.1, a4]
      rw [hq] at hL
      refine wp_rd q hq a1 (wp_if (fun c3 => ?_) (fun c3 => no ?_))
      · rw [pv_test (by omega) e11] at c3
        exact hrc (10 - (k + 1)) _ _ _ _ (by omega) ⟨rfl, k + 1, inc hl5 (by omega), by omega, rfl, by omega, Fr ν q, fun x => s x || decide (x = Fr ν q), ⟨d, s, hC, hend, q, hL, hq2, rfl, c3, rfl⟩, e11, s, rfl, fun _ _ => rfl⟩
      · rw [pv_test (by omega) e11] at c3
        rintro ⟨d', s', d0, s0, g1, g2, p', g3, g4, g5, g6, g7⟩
        obtain ⟨f1, f2⟩ := cs_unique hC g1
        subst f1
        subst f2
        have := ltA_unique hL g3
        have : q = p' := by omega
        subst this
        rw [g5] at g6
        exact c3 g6
    refine wp_if (fun c3 => no ?_) (fun c3 => ?_)
    · rintro ⟨d', s', d0, s0, g1, g2, p', g3, g4, -⟩
      obtain ⟨f1, f2⟩ := cs_unique hC g1
      subst f1
      have := ltA_unique hL g3
      have := qm1.mp c3
      omega
    · have c3 := mt qm1.mpr c3
      obtain ⟨q, hq1, hq2⟩ : ∃ q : Nat, v2.toInt = (q : Int) ∧ q < nP ν := by
        rcases hL with ⟨g, -⟩ | ⟨q, g1, g2, -⟩
        · exact absurd g c3
        · exact ⟨q, g2, g1⟩
      have e35 := (tok_get ht hb).1 d d1
      refine wp_if (fun c4 => next q hq1 hq2 ?_) (fun c4 => wp_rd d hl4 hd10 (wp_if (fun c5 => no ?_) (fun c5 => next q hq1 hq2 ?_)))
      · rw [t_le, hl5] at c4
        have c4 : (k : Int) ≤ 0 := c4
        omega
      · rw [t_le, hl5] at c4
        have c4 : ¬ (k : Int) ≤ 0 := c4
        rw [q0, e35] at c5
        rintro ⟨d', s', d0, s0, g1, g2, -⟩
        obtain ⟨f1, f2⟩ := cs_unique hC g1
        subst f1
        exact g2 ⟨by omega, c5⟩
      · rw [q0, e35] at c5
        exact fun g => c5 g.2
theorem sX8_chain (h : CN μ ν) (hv : Vd ν) (ht : TIn μ ν) (p i : Int32) : Wp (fX8_chain p i μ) (fun r m => AnsCn ν p.toInt i.toInt r.toInt ∧ CN m ν ∧ TIn m ν) := by
  have z0 : Int32.toInt 0 = 0 := rfl
  unfold fX8_chain fX8_chain_K15 fX8_chain_K41
  refine wp_rdf (sX1_hasCell h p) (fun r e => wp_if (fun c => wp_ret ⟨Or.inl ⟨Or.inl (not_of e c), rfl⟩, h, ht⟩) (fun c => wp_if (fun c2 => ?_) (fun c2 => wp_ret ⟨Or.inl ⟨Or.inr ?_, rfl⟩, h, ht⟩)))
  · rw [t_le, z0] at c2
    have hin := yes_of e c
    obtain ⟨k, hk, ek⟩ := in_nat (N := nC ν) hin rfl
    refine isF h hv ht (fun r m hr hb hm hT hI => ?_) (fun r m hr hb hm hI => ?_)
    · rw [if_pos hr]
      refine wp_bd (wp_mono (sX5_chained hm hv hT hb p i ek hk c2) ?_)
      rintro r5 m6 ⟨rfl, hr5⟩
      refine wp_ret ⟨Or.inr (Or.inr ⟨hin, c2, hb, ?_⟩), hm, hI⟩
      rw [ek, tn]; exact hr5
    · rw [if_neg hr]
      exact wp_ret ⟨Or.inr (Or.inl ⟨hin, c2, hb, rfl⟩), hm, hI⟩
  · rw [t_le, z0] at c2; omega
theorem ansCn_unique {p i r s : Int} (h : AnsCn ν p i r) (h2 : AnsCn ν p i s) : r = s := by
  rcases h with ⟨a1, a2⟩ | ⟨a1, a2, a3, a4⟩ | ⟨a1, a2, a3, a4⟩ <;> rcases h2 with ⟨b1, b2⟩ | ⟨b1, b2, b3, b4⟩ | ⟨b1, b2, b3, b4⟩
  · omega
  · rcases a1 with g | g
    · exact absurd b1 g
    · omega
  · rcases a1 with g | g
    · exact absurd b1 g
    · omega
  · rcases b1 with g | g
    · exact absurd a1 g
    · omega
  · omega
  · rw [a3] at b3; cases b3
  · rcases b1 with g | g
    · exact absurd a1 g
    · omega
  · rw [a3] at b3; cases b3
  · rcases a4 with ⟨d, s1, a5, a6⟩ | ⟨a5, a6⟩ <;> rcases b4 with ⟨d2, s2, b5, b6⟩ | ⟨b5, b6⟩
    · have := (cs_unique a5 b5).1
      omega
    · exact absurd ⟨d, s1, a5⟩ b5
    · exact absurd ⟨d2, s2, b5⟩ a5
    · omega
theorem sX9_laysChain (h : RN μ ν) (hv : Vd ν) (hb : bd ν (ν 0 3) = true) (hL : ∀ c, c < nC ν → (μ.2 76 c).toInt = LL ν (ν 0 3) c) (p : Int32) (hp : p.toInt = (c : Nat)) (hc : c < nC ν) : Wp (fX9_laysChain p μ) (fun _ m => ∃ k : Nat, (m.1 57 37).toInt = ((k + 1 : Nat) : Int) ∧ k < 10 ∧ (∀ j, j ≤ k → ∃ d s, Cs ν c j d s ∧ (m.1 79 j).toInt = (d : Int)) ∧ (¬ ∃ d s, Cs ν c (k + 1) d s) ∧ RN m ν) := by
  have hn := vd_nums hv
  unfold fX9_laysChain
  refine wp_let ?_
  refine wp_lp3 (fun n (l2 l3 l4 : Int32) m => RN m ν ∧ (∀ a b, m.2 a b = μ.2 a b) ∧ ((l4.toInt = 1 ∧ ∃ k d s, n = 20 - k ∧ k < 10 ∧ (m.1 57 37).toInt = (k : Int) ∧ Cs ν c k d s ∧ l2.toInt = (d : Int) ∧ Pv l3 s d ∧ ∀ j, j < k → ∃ d s, Cs ν c j d s ∧ (m.1 79 j).toInt = (d : Int)) ∨ (l4.toInt = 0 ∧ n = 0 ∧ ∃ k : Nat, (m.1 57 37).toInt = ((k + 1 : Nat) : Int) ∧ k < 10 ∧ (∀ j, j ≤ k → ∃ d s, Cs ν c j d s ∧ (m.1 79 j).toInt = (d : Int)) ∧ ¬ ∃ d s, Cs ν c (k + 1) d s))) ax_FU ?_ 20 (by decide) ⟨RN_wi57 h, fun _ _ => rfl, Or.inl ⟨rfl, 0, c, fun x => decide (x = c), rfl, by omega, by rw [wi_self]; rfl, ⟨rfl, rfl⟩, hp, ⟨fun _ => false, rfl, fun x _ => by simp⟩, fun j hj => by omega⟩⟩
  rintro n rc hrc l2 l3 l4 m ⟨hm, hm2, hst⟩
  unfold fX9_laysChain_B12
  rcases hst with ⟨h4, k, d, s, hnk, hk, h37, hC, hl2, hP, hj⟩ | ⟨h4, hn0, k, g1, g2, g3, g4⟩
  · rw [if_neg (fun g => by have := q0.mp g; omega)]
    obtain ⟨d1, d2, d3⟩ := cs_cnt hv hc hC
    have hkn := cs_lt hv hc hC
    have hd10 : d < 10 := by omega
    refine wp_wr k h37 hk (wp_let ?_)
    have e37 : ((ax_wi m 79 k l2).1 57 37).toInt = (k : Int) := by rw [wi_ne (by omega)]; exact h37
    rw [pv_or hP hd10 hl2]
    have hm3 : RN (ax_wi (ax_wi m 79 k l2) 57 37 ((ax_wi m 79 k l2).1 57 37 + 1)) ν := RN_wi57 (RN_keep hm (fun a h1 h2 => wi_ne (by omega)))
    have e37b : ((ax_wi (ax_wi m 79 k l2) 57 37 ((ax_wi m 79 k l2).1 57 37 + 1)).1 57 37).toInt = ((k + 1 : Nat) : Int) := by rw [wi_self]; exact inc e37 (by omega)
    have e79 : ∀ j, j ≤ k → ∃ d s, Cs ν c j d s ∧ ((ax_wi (ax_wi m 79 k l2) 57 37 ((ax_wi m 79 k l2).1 57 37 + 1)).1 79 j).toInt = (d : Int) := by
      intro j hjk
      rw [wi_ne (by omega)]
      by_cases ej : j = k
      · subst ej
        exact ⟨d, s, hC, by rw [wi_self]; exact hl2⟩
      · rw [wi_other ej]
        exact hj j (by omega)
    have em2 : ∀ a b, (ax_wi (ax_wi m 79 k l2) 57 37 ((ax_wi m 79 k l2).1 57 37 + 1)).2 a b = μ.2 a b := hm2
    generalize ax_wi (ax_wi m 79 k l2) 57 37 ((ax_wi m 79 k l2).1 57 37 + 1) = m3 at hm3 e37b e79 em2 ⊢
    refine wp_let (wp_bd (wp_mono (sX9_latestTo hm3 hv (fun c hc => by rw [em2]; exact hL c hc) l2 d hl2) ?_))
    rintro v5 m6 ⟨rfl, q, hLq, hv5⟩
    -- it ends here
    have stop : (¬ ∃ d s, Cs ν c (k + 1) d s) → ∀ x y : Int32, Wp (rc x y 0 m6) (fun _ m => ∃ k : Nat, (m.1 57 37).toInt = ((k + 1 : Nat) : Int) ∧ k < 10 ∧ (∀ j, j ≤ k → ∃ d s, Cs ν c j d s ∧ (m.1 79 j).toInt = (d : Int)) ∧ (¬ ∃ d s, Cs ν c (k + 1) d s) ∧ RN m ν) := fun g x y => hrc 0 _ _ _ _ (by omega) ⟨hm3, em2, Or.inr ⟨rfl, rfl, k, e37b, hk, e79, g⟩⟩
    -- no end by itself
    have on1 : ¬ (0 < k ∧ LL ν (ν 0 3) d = 0) → Wp (fX9_laysChain_K82 l2 (Int32.ofNat (bt s 10)) v5 (0 : Int32) rc m6) (fun _ m => ∃ k : Nat, (m.1 57 37).toInt = ((k + 1 : Nat) : Int) ∧ k < 10 ∧ (∀ j, j ≤ k → ∃ d s, Cs ν c j d s ∧ (m.1 79 j).toInt = (d : Int)) ∧ (¬ ∃ d s, Cs ν c (k + 1) d s) ∧ RN m ν) := by
      intro hend
      unfold fX9_laysChain_K82 fX9_laysChain_K114 fX9_laysChain_K115 fX9_laysChain_K133
      rw [if_pos rfl, if_pos rfl, if_neg (show ¬ (1 : Int32) = 0 by decide)]
      rcases id hLq with ⟨b1, b2⟩ | ⟨q', b1, b2, b3, b4, b5⟩
      · rw [if_pos (qm2.mpr (by rw [hv5, if_pos b1]))]
        refine stop ?_ _ _
        rintro ⟨d', s', d0, s0, f1, f2, p', f3, f4, -⟩
        obtain ⟨f5, f6⟩ := cs_unique hC f1
        subst f5
        have := ltA_unique hLq f3
        omega
      · have hv6 : v5.toInt = (q' : Int) := by rw [hv5, if_neg (by omega)]; exact b2
        rw [if_neg (fun g => by have := qm2.mp g; omega)]
        obtain ⟨a1, a2, a3, a4, a5, a6⟩ := vd_path hv q' b1
        have e := hm3.2.2.2 q' b1
        have e70 : (m6.1 70 q').toInt = (Fr ν q' : Nat) := by rw [e.1, a4]
        refine wp_rd q' hv6 (by omega) (wp_if (fun c3 => ?_) (fun c3 => stop ?_ _ _))
        · rw [pv_test (by omega) e70] at c3
          have hC2 : Cs ν c (k + 1) (Fr ν q') (fun x => s x || decide (x = Fr ν q')) := ⟨d, s, hC, hend, q', by rw [← b2]; exact hLq, b1, rfl, c3, rfl⟩
          have hk2 := cs_lt hv hc hC2
          refine wp_rd q' hv6 (by omega) (hrc (20 - (k + 1)) _ _ _ _ (by omega) ⟨hm3, em2, Or.inl ⟨rfl, k + 1, Fr ν q', fun x => s x || decide (x = Fr ν q'), rfl, by omega, e37b, hC2, e70, ⟨s, rfl, fun _ _ => rfl⟩, fun j hj => e79 j (by omega)⟩⟩)
        · rw [pv_test (by omega) e70] at c3
          rintro ⟨d', s', d0, s0, f1, f2, p', f3, f4, f7, f8, f9⟩
          obtain ⟨f5, f6⟩ := cs_unique hC f1
          subst f5
          subst f6
          have := ltA_unique hLq f3
          have : q' = p' := by omega
          subst this
          rw [f7] at f8
          exact c3 f8
    have end1 : (0 < k ∧ LL ν (ν 0 3) d = 0) → Wp (fX9_laysChain_K82 l2 (Int32.ofNat (bt s 10)) v5 (1 : Int32) rc m6) (fun _ m => ∃ k : Nat, (m.1 57 37).toInt = ((k + 1 : Nat) : Int) ∧ k < 10 ∧ (∀ j, j ≤ k → ∃ d s, Cs ν c j d s ∧ (m.1 79 j).toInt = (d : Int)) ∧ (¬ ∃ d s, Cs ν c (k + 1) d s) ∧ RN m ν) := by
      intro hend
      unfold fX9_laysChain_K82 fX9_laysChain_K114 fX9_laysChain_K115 fX9_laysChain_K133
      rw [if_neg (by decide), if_pos rfl]
      refine stop ?_ _ _
      rintro ⟨d', s', d0, s0, f1, f2, -⟩
      obtain ⟨f5, f6⟩ := cs_unique hC f1
      subst f5
      exact f2 hend
    unfold fX9_laysChain_K81 fX9_laysChain_K77
    refine wp_if (fun c1 => on1 ?_) (fun c1 => wp_rdf (sX9_isFlop hm3 hv l2 d hl2 d1) (fun r13 e13 => wp_if (fun c2 => wp_rl d hl2 hd10 (wp_if (fun c3 => end1 ?_) (fun c3 => on1 ?_))) (fun c2 => end1 ?_)))
    · rw [t_le, e37b] at c1
      have c1 : ((k + 1 : Nat) : Int) ≤ 1 := c1
      omega
    · rw [t_le, e37b] at c1
      have c1 : ¬ ((k + 1 : Nat) : Int) ≤ 1 := c1
      rw [cmp_eq, em2, hL d d1] at c3
      exact ⟨by omega, c3⟩
    · rw [cmp_eq, em2, hL d d1] at c3
      exact fun g => c3 g.2
    · rw [t_le, e37b] at c1
      have c1 : ¬ ((k + 1 : Nat) : Int) ≤ 1 := c1
      exact ⟨by omega, by rw [ll_cc hb d d1, if_pos (yes_of e13 c2)]⟩
  · rw [if_pos (q0.mpr h4)]
    exact wp_ret ⟨k, g1, g2, g3, g4, hm⟩
theorem sX9_chain (h0 : RN μ ν) (hv : Vd ν) (p i : Int32) : Wp (fX9_chain p i μ) (fun r m => AnsCn ν p.toInt i.toInt r.toInt ∧ RN m ν) := by
  have z0 : Int32.toInt 0 = 0 := rfl
  have h : RN (ax_wi μ 57 0 0) ν := RN_wi57 h0
  unfold fX9_chain fX9_chain_K17 fX9_chain_K57
  refine wp_let (wp_rdf (sX9_isCell h p) (fun r e => wp_if (fun c => wp_ret ⟨Or.inl ⟨Or.inl (not_of e c), rfl⟩, h⟩) (fun c => wp_if (fun c2 => ?_) (fun c2 => wp_ret ⟨Or.inl ⟨Or.inr ?_, rfl⟩, h⟩))))
  · rw [t_le, z0] at c2
    have hin := yes_of e c
    obtain ⟨k, hk, ek⟩ := in_nat (N := nC ν) hin rfl
    refine setS h hv (fun r m hr hb hm hL => ?_) (fun r m hr hb hm => ?_)
    · rw [if_pos hr]
      refine wp_bd (wp_mono (sX9_laysChain hm hv hb (fun c hc => (hL c hc).1) p ek hk) ?_)
      rintro _ m7 ⟨n, n1, n2, n3, n4, hm7⟩
      have tnk : p.toInt.toNat = k := by rw [ek]; rfl
      refine wp_if (fun c3 => wp_ret ⟨Or.inr (Or.inr ⟨hin, c2, hb, Or.inr ⟨?_, rfl⟩⟩), hm7⟩) (fun c3 => ?_)
      · rw [t_le, n1] at c3
        rw [tnk]
        exact cs_after n4 _ (by omega)
      · rw [t_le, n1] at c3
        obtain ⟨d, s, g1, g2⟩ := n3 i.toInt.toNat (by omega)
        refine wp_rd i.toInt.toNat (by omega) (by omega) (wp_ret ⟨Or.inr (Or.inr ⟨hin, c2, hb, Or.inl ⟨d, s, ?_, g2⟩⟩), hm7⟩)
        rw [tnk]; exact g1
    · rw [if_neg hr]
      exact wp_ret ⟨Or.inr (Or.inl ⟨hin, c2, hb, rfl⟩), hm⟩
  · rw [t_le, z0] at c2; omega
end CHA
