/-! leastWidth, both sides -/
def LwA (ν : Nv) (h : Nat) (r : Int) : Prop := (r = -2 ∧ ∀ v : Int, 1 ≤ v → v ≤ 63 → gd (up ν 2 h v) (ν 0 3) = false) ∨ (1 ≤ r ∧ r ≤ 63 ∧ gd (up ν 2 h r) (ν 0 3) = true ∧ ∀ v : Int, 1 ≤ v → v < r → gd (up ν 2 h v) (ν 0 3) = false)
def AnsLw (ν : Nv) (p r : Int) : Prop := (¬ (0 ≤ p ∧ p < ν 0 0) ∧ r = -1) ∨ ((0 ≤ p ∧ p < ν 0 0) ∧ LwA ν p.toNat r)
theorem lwA_unique {ν : Nv} {h : Nat} {r s : Int} (h1 : LwA ν h r) (h2 : LwA ν h s) : r = s := by
  rcases h1 with ⟨a1, a2⟩ | ⟨a1, a2, a3, a4⟩ <;> rcases h2 with ⟨b1, b2⟩ | ⟨b1, b2, b3, b4⟩
  · omega
  · have := a2 s b1 b2; rw [b3] at this; cases this
  · have := b2 r a1 a2; rw [a3] at this; cases this
  · by_cases h1 : r < s
    · have := b4 r a1 h1; rw [a3] at this; cases this
    · by_cases h2 : s < r
      · have := a4 s b1 h2; rw [b3] at this; cases this
      · omega
theorem ansLw_unique {ν : Nv} {p r s : Int} (h : AnsLw ν p r) (h2 : AnsLw ν p s) : r = s := by
  rcases h with ⟨a1, a2⟩ | ⟨a1, a2⟩ <;> rcases h2 with ⟨b1, b2⟩ | ⟨b1, b2⟩
  · omega
  · exact absurd b1 a1
  · exact absurd a1 b1
  · exact lwA_unique a2 b2
section LWD
variable {μ : ax_M} {ν : Nv} {h : Nat} {v : Int} {T : Int}
theorem jr_w (k : Nat) : Jr (up ν 2 h v) T k = Jr ν T k := by
  induction k with
  | zero => rfl
  | succ k ih =>
    funext c
    show (if Fb ν c = true then 0 else if Cm ν (fun p => Jr (up ν 2 h v) T k (Fr ν p) + Wt ν T p) c < 0 then 0 else Cm ν (fun p => Jr (up ν 2 h v) T k (Fr ν p) + Wt ν T p) c) = _
    rw [ih]
    rfl
theorem ll_w (c : Nat) : LL (up ν 2 h v) T c = LL ν T c := by
  show Jr (up ν 2 h v) T (nC ν) c = _
  rw [jr_w]
  rfl
theorem cc_w (c : Nat) : CC (up ν 2 h v) T c = CC ν T c := by
  show Cm ν (fun p => Jr (up ν 2 h v) T (nC ν) (Fr ν p) + Wt ν T p) c = _
  rw [jr_w]
  rfl
theorem bd_w : bd (up ν 2 h v) T = bd ν T := by
  show (List.range (nC ν)).all (fun c => decide (Jr (up ν 2 h v) T (nC ν + 1) c = Jr (up ν 2 h v) T (nC ν) c)) = _
  rw [jr_w, jr_w]
  rfl
/-- which cells hang on the width -/
def hw (ν : Nv) (h c : Nat) : Prop := Ph ν c = h ∧ Fb ν c = false
theorem lm_w (c : Nat) : Lm (up ν 2 h v) T c = if Fb ν c = true then 0 - 64 * ν 4 c else (if Ph ν c = h then v * T - 64 * ν 4 c else ν 2 (Ph ν c) * T - 64 * ν 4 c) := by
  show (if Fb ν c = true then 0 else up ν 2 h v 2 (Ph ν c) * T) - 64 * ν 4 c = _
  by_cases hf : Fb ν c = true
  · rw [if_pos hf, if_pos hf]
  · rw [if_neg hf, if_neg hf]
    by_cases e : Ph ν c = h
    · rw [if_pos e, e, up_at]
    · rw [if_neg e, up_ni e]
theorem gd_w : gd (up ν 2 h v) (ν 0 3) = true ↔ bd ν (ν 0 3) = true ∧ ∀ c, c < nC ν → (hw ν h c → LL ν (ν 0 3) c + 64 * ν 4 c ≤ v * ν 0 3) ∧ (¬ hw ν h c → 0 ≤ rm ν c) := by
  have e : gd (up ν 2 h v) (ν 0 3) = (bd (up ν 2 h v) (ν 0 3) && (List.range (nC ν)).all (fun c => decide (0 ≤ Lm (up ν 2 h v) (ν 0 3) c - (if Fb ν c = true then CC (up ν 2 h v) (ν 0 3) c else LL (up ν 2 h v) (ν 0 3) c)))) := rfl
  rw [e, bd_w, Bool.and_eq_true, List.all_eq_true]
  have key : ∀ c, (0 ≤ Lm (up ν 2 h v) (ν 0 3) c - (if Fb ν c = true then CC (up ν 2 h v) (ν 0 3) c else LL (up ν 2 h v) (ν 0 3) c)) ↔ ((hw ν h c → LL ν (ν 0 3) c + 64 * ν 4 c ≤ v * ν 0 3) ∧ (¬ hw ν h c → 0 ≤ rm ν c)) := by
    intro c
    rw [lm_w, ll_w, cc_w]
    unfold rm hw Lm
    by_cases hf : Fb ν c = true
    · simp only [if_pos hf]
      constructor
      · intro g
        exact ⟨fun g2 => absurd (hf.symm.trans g2.2) (by decide), fun _ => g⟩
      · intro g
        exact g.2 (fun g2 => absurd (hf.symm.trans g2.2) (by decide))
    · have hf2 : Fb ν c = false := by simpa using hf
      simp only [if_neg hf]
      by_cases e : Ph ν c = h
      · rw [if_pos e]
        constructor
        · intro g
          exact ⟨fun _ => by omega, fun g2 => absurd ⟨e, hf2⟩ g2⟩
        · intro g
          have := g.1 ⟨e, hf2⟩
          omega
      · rw [if_neg e]
        constructor
        · intro g
          exact ⟨fun g2 => absurd g2.1 e, fun _ => g⟩
        · intro g
          exact g.2 (fun g2 => e g2.1)
  constructor
  · rintro ⟨a, b⟩
    exact ⟨a, fun c hc => (key c).mp (of_decide_eq_true (b c (List.mem_range.mpr hc)))⟩
  · rintro ⟨a, b⟩
    exact ⟨a, fun c hc => decide_eq_true ((key c).mpr (b c (List.mem_range.mp hc)))⟩
theorem gd_w_no (hb : bd ν (ν 0 3) = false) : gd (up ν 2 h v) (ν 0 3) = false := by
  cases e : gd (up ν 2 h v) (ν 0 3) with
  | false => rfl
  | true => have := (gd_w.mp e).1; rw [hb] at this; cases this
theorem sX5_narrowest (hm : CN μ ν) (hv : Vd ν) (ht : TOk μ ν) (hb : bd ν (ν 0 3) = true) (p : Int32) (hp : p.toInt = (h : Nat)) : Wp (fX5_narrowest p μ) (fun r m => m = μ ∧ LwA ν h r.toInt) := by
  have h0 := hv.1
  have hn := vd_nums hv
  have hc := vd_cast hv
  have en : (μ.1 2 13).toInt = ν 0 1 := hm.1.2.1
  have eT : (μ.1 2 16).toInt = ν 0 3 := hm.1.2.2.2.1
  have z0 : Int32.toInt 0 = 0 := rfl
  have z64 : Int32.toInt 64 = 64 := rfl
  unfold fX5_narrowest
  refine wp_lp2 (fun n (l2 l3 : Int32) m => m = μ ∧ ∃ i : Nat, l3.toInt = (i : Int) ∧ i ≤ nC ν ∧ n = nC ν - i ∧ 1 ≤ l2.toInt ∧ l2.toInt ≤ 1000000 ∧ (∀ v : Int, l2.toInt ≤ v ↔ 1 ≤ v ∧ ∀ c, c < i → hw ν h c → LL ν (ν 0 3) c + 64 * ν 4 c ≤ v * ν 0 3) ∧ ∀ c, c < i → ¬ hw ν h c → 0 ≤ rm ν c) ax_FU ?_ (nC ν) (by unfold ax_FU; omega) ⟨rfl, 0, rfl, by omega, rfl, by decide, by decide, fun v => ⟨fun g => ⟨g, fun c hc => by omega⟩, fun g => g.1⟩, fun c hc => by omega⟩
  rintro n rc hrc l2 l3 m ⟨rfl, i, hl, hi, hn2, b1, b2, hW, hR⟩
  unfold fX5_narrowest_B4 fX5_narrowest_K105
  refine wp_if (fun c1 => ?_) (fun c1 => ?_)
  · rw [t_le, en, hl] at c1
    have hiC : i = nC ν := by omega
    subst hiC
    refine wp_if (fun c2 => wp_ret ⟨rfl, Or.inl ⟨rfl, fun v v1 v2 => ?_⟩⟩) (fun c2 => wp_ret ⟨rfl, Or.inr ⟨b1, ?_, ?_, fun v v1 v2 => ?_⟩⟩)
    · rw [t_le, z64] at c2
      cases e : gd (up ν 2 h v) (ν 0 3) with
      | false => rfl
      | true =>
        have := (hW v).mpr ⟨v1, fun c hc g => ((gd_w.mp e).2 c hc).1 g⟩
        omega
    · rw [t_le, z64] at c2; omega
    · have := ((hW l2.toInt).mp (Int.le_refl _)).2
      exact gd_w.mpr ⟨hb, fun c hc => ⟨this c hc, hR c hc⟩⟩
    · cases e : gd (up ν 2 h v) (ν 0 3) with
      | false => rfl
      | true =>
        have := (hW v).mpr ⟨v1, fun c hc g => ((gd_w.mp e).2 c hc).1 g⟩
        omega
  · rw [t_le, en, hl] at c1
    have hi2 : i < nC ν := by omega
    obtain ⟨b3, b4, b5, b6⟩ := vd_cell hv i hi2
    have f1 := hm.2.2.1 i hi2
    have vc := hv.2.2.1 i hi2
    have lb := (lc_bd hv i hi2).1
    have e35 := (tok_get ht hb).1 i hi2
    have inl := inc hl (i := i) (by omega)
    have other : ¬ hw ν h i → Wp (fX5_narrowest_K76 p l2 l3 rc m) (fun r m2 => m2 = m ∧ LwA ν h r.toInt) := by
      intro hno
      unfold fX5_narrowest_K76 fX5_narrowest_K87
      refine wp_rdf (sX5_roomOf hm hv ht hb l3 i hl hi2) (fun r3 e3 => wp_if (fun c2 => hrc (nC ν - (i + 1)) _ _ _ (by omega) ⟨rfl, i + 1, inl, by omega, rfl, b1, b2, fun v => ?_, fun c hc g => ?_⟩) (fun c2 => wp_ret ⟨rfl, Or.inl ⟨rfl, fun v v1 v2 => ?_⟩⟩))
      · rw [hW v]
        constructor
        · rintro ⟨g1, g2⟩
          refine ⟨g1, fun c hc g => ?_⟩
          by_cases ec : c = i
          · rw [ec] at g; exact absurd g hno
          · exact g2 c (by omega) g
        · rintro ⟨g1, g2⟩
          exact ⟨g1, fun c hc g => g2 c (by omega) g⟩
      · rw [t_le, z0, e3] at c2
        by_cases ec : c = i
        · rw [ec]; exact c2
        · exact hR c (by omega) g
      · rw [t_le, z0, e3] at c2
        cases e : gd (up ν 2 h v) (ν 0 3) with
        | false => rfl
        | true => exact absurd (((gd_w.mp e).2 i hi2).2 hno) c2
    refine wp_rd i hl b3 (wp_if (fun c2 => wp_rdf (sX1_isFlop hm hv l3 i hl hi2) (fun r6 e6 => wp_if (fun c3 => ?_) (fun c3 => other ?_))) (fun c2 => other ?_))
    · rw [t_eq, f1.2.1, b5, hp] at c2
      have hf := not_of e6 c3
      have hh : hw ν h i := ⟨by omega, by simpa using hf⟩
      have ea : (m.1 35 i + 64 * m.1 8 i).toInt = LL ν (ν 0 3) i + 64 * ν 4 i := by
        simp only [t_add, t_mul, e35, f1.2.2.1, Int32.reduceToInt]; omega
      unfold fX5_narrowest_K87
      refine wp_rd i hl b3 (wp_rd i hl b3 (wp_rdf (sX8_roundedUp _ (m.1 2 16) (by rw [ea]; omega)) (fun r10 e10 => wp_let ?_)))
      rw [ea, eT, if_neg (by omega)] at e10
      have c10 : ∀ v, r10.toInt ≤ v ↔ LL ν (ν 0 3) i + 64 * ν 4 i ≤ v * ν 0 3 := fun v => by rw [e10, cdiv_le (by omega)]
      have hbig : r10.toInt ≤ 1000000 := by
        rw [c10]
        have : (1000000 : Int) * 1 ≤ 1000000 * ν 0 3 := Int.mul_le_mul_of_nonneg_left (by omega) (by omega)
        omega
      have hmx := mx_toInt l2 r10
      refine hrc (nC ν - (i + 1)) _ _ _ (by omega) ⟨rfl, i + 1, inl, by omega, rfl, by rw [hmx]; split <;> omega, by rw [hmx]; split <;> omega, fun v => ?_, fun c hc g => ?_⟩
      · have h1 : (ax_mx l2 r10).toInt ≤ v ↔ l2.toInt ≤ v ∧ r10.toInt ≤ v := by rw [hmx]; split <;> omega
        rw [h1, hW v, c10 v]
        constructor
        · rintro ⟨⟨g1, g2⟩, g3⟩
          refine ⟨g1, fun c hc g => ?_⟩
          by_cases ec : c = i
          · rw [ec]; exact g3
          · exact g2 c (by omega) g
        · rintro ⟨g1, g2⟩
          exact ⟨⟨g1, fun c hc g => g2 c (by omega) g⟩, g2 i (by omega) hh⟩
      · by_cases ec : c = i
        · rw [ec] at g; exact absurd hh g
        · exact hR c (by omega) g
    · have hf := yes_of e6 c3
      exact fun g => absurd (hf.symm.trans g.2) (by decide)
    · rw [t_eq, f1.2.1, b5, hp] at c2
      exact fun g => c2 (by rw [g.1])
theorem sX8_leastWidth (hm : CN μ ν) (hv : Vd ν) (ht : TIn μ ν) (p : Int32) : Wp (fX8_leastWidth p μ) (fun r m => AnsLw ν p.toInt r.toInt ∧ CN m ν ∧ TIn m ν) := by
  unfold fX8_leastWidth fX8_leastWidth_K36
  refine wp_rdf (sX1_hasPhase hm p) (fun r e => wp_if (fun c => wp_ret ⟨Or.inl ⟨not_of e c, rfl⟩, hm, ht⟩) (fun c => ?_))
  have hin := yes_of e c
  obtain ⟨k, hk, ek⟩ := in_nat (N := nH ν) hin rfl
  refine isF hm hv ht (fun r m hr hb hm hT hI => ?_) (fun r m hr hb hm hI => ?_)
  · rw [if_pos hr]
    refine wp_bd (wp_mono (sX5_narrowest hm hv hT hb p ek) ?_)
    rintro r5 m6 ⟨rfl, hr5⟩
    exact wp_ret ⟨Or.inr ⟨hin, by rw [ek, tn]; exact hr5⟩, hm, hI⟩
  · rw [if_neg hr]
    exact wp_ret ⟨Or.inr ⟨hin, Or.inl ⟨rfl, fun v _ _ => gd_w_no hb⟩⟩, hm, hI⟩
theorem RN_width (h : RN μ ν) (hv : Vd ν) (k : Nat) (hk : k < nH ν) (v : Int32) : RN (ax_wi μ 74 (5 + k) v) (up ν 2 k v.toInt) := by
  have hn := vd_nums hv
  obtain ⟨⟨a1, a2, a3, a4, a5, a6⟩, hb, hc, hd⟩ := h
  refine ⟨⟨?_, ?_, ?_, ?_, ?_, ?_⟩, fun i hi => ?_, fun c hc2 => ?_, fun p hp => ?_⟩
  · rw [wi_ne (by omega)]; exact a1
  · rw [wi_ne (by omega)]; exact a2
  · rw [wi_ne (by omega)]; exact a3
  · rw [wi_other (by omega)]; exact a4
  · rw [wi_other (by omega)]; exact a5
  · rw [wi_ne (by omega)]; exact a6
  · have hi : i < nH ν := hi
    have := hb i hi
    rw [wi_ne (by omega), wi_other (show 1 + i ≠ 5 + k by omega)]
    refine ⟨this.1, this.2.1, ?_⟩
    by_cases e : i = k
    · rw [e, wi_self, up_at]
    · rw [wi_other (by omega), up_ni e]; exact this.2.2
  · have hc2 : c < nC ν := hc2
    rw [wi_ne (by omega), wi_ne (by omega), wi_ne (by omega), wi_ne (by omega), wi_ne (by omega), wi_other (by omega)]; exact hc c hc2
  · have hp : p < nP ν := hp
    rw [wi_ne (by omega), wi_ne (by omega), wi_other (by omega), wi_other (by omega)]; exact hd p hp
theorem vd_width (hv : Vd ν) (k : Nat) (z : Int) (h1 : 1 ≤ z) (h2 : z ≤ 63) : Vd (up ν 2 k z) := by
  obtain ⟨ha, hb, hc, hd, he⟩ := hv
  refine ⟨ha, fun i hi => ?_, hc, hd, he⟩
  have := hb i hi
  refine ⟨this.1, this.2.1, ?_, ?_⟩
  · by_cases e : i = k
    · rw [e, up_at]; exact h1
    · rw [up_ni e]; exact this.2.2.1
  · by_cases e : i = k
    · rw [e, up_at]; exact h2
    · rw [up_ni e]; exact this.2.2.2
theorem sX9_leastWidth (h0 : RN μ ν) (hv : Vd ν) (p : Int32) : Wp (fX9_leastWidth p μ) (fun r m => AnsLw ν p.toInt r.toInt ∧ RN m ν) := by
  have hn := vd_nums hv
  have z64 : Int32.toInt 64 = 64 := rfl
  have h : RN (ax_wi μ 57 0 0) ν := RN_wi57 h0
  unfold fX9_leastWidth
  refine wp_let (wp_rdf (sX9_isPhase h p) (fun r e => wp_if (fun c => wp_ret ⟨Or.inl ⟨not_of e c, rfl⟩, h⟩) (fun c => ?_)))
  have hin := yes_of e c
  obtain ⟨k, hk, ek⟩ := in_nat (N := nH ν) hin rfl
  have i5 : ((5 : Int32) + p).toInt = ((5 + k : Nat) : Int) := by simp only [t_add, ek, Int32.reduceToInt]; omega
  have vk := hv.2.1 k hk
  refine wp_rd (5 + k) i5 (by omega) ?_
  have e4 : ((ax_wi μ 57 0 0).1 74 (5 + k)).toInt = ν 2 k := (h.2.1 k hk).2.2
  generalize (ax_wi μ 57 0 0).1 74 (5 + k) = v4 at e4 ⊢
  have fin : ∀ (m : ax_M) (y : Int) (s : Int32), RN m (up ν 2 k y) → LwA ν k s.toInt → Wp (fX9_leastWidth_K69 p v4 s m) (fun r m => AnsLw ν p.toInt r.toInt ∧ RN m ν) := by
    intro m y s hm hs
    unfold fX9_leastWidth_K69
    refine wp_wr (5 + k) i5 (by omega) (wp_ret ⟨Or.inr ⟨hin, by rw [ek, tn]; exact hs⟩, ?_⟩)
    have hk' : k < nH (up ν 2 k y) := hk
    have hn1 : nH ν ≤ 4 := hn.1
    have : RN (ax_wi m 74 (5 + k) v4) (up (up ν 2 k y) 2 k v4.toInt) := by
      obtain ⟨⟨a1, a2, a3, a4, a5, a6⟩, hb, hc, hd⟩ := hm
      refine ⟨⟨?_, ?_, ?_, ?_, ?_, ?_⟩, fun i hi => ?_, fun c hc2 => ?_, fun p hp => ?_⟩
      · rw [wi_ne (by omega)]; exact a1
      · rw [wi_ne (by omega)]; exact a2
      · rw [wi_ne (by omega)]; exact a3
      · rw [wi_other (by omega)]; exact a4
      · rw [wi_other (by omega)]; exact a5
      · rw [wi_ne (by omega)]; exact a6
      · have hi : i < nH ν := hi
        have := hb i hi
        rw [wi_ne (by omega), wi_other (show 1 + i ≠ 5 + k by omega)]
        refine ⟨this.1, this.2.1, ?_⟩
        by_cases e : i = k
        · rw [e, wi_self, up_at]
        · rw [wi_other (by omega), up_ni e]; exact this.2.2
      · have hc2 : c < nC ν := hc2
        rw [wi_ne (by omega), wi_ne (by omega), wi_ne (by omega), wi_ne (by omega), wi_ne (by omega), wi_other (by omega)]; exact hc c hc2
      · have hp : p < nP ν := hp
        rw [wi_ne (by omega), wi_ne (by omega), wi_other (by omega), wi_other (by omega)]; exact hd p hp
    rw [up_up, e4, up_self] at this
    exact this
  refine wp_lp2 (fun j (l3 l4 : Int32) m => ∃ i : Nat, l4.toInt = ((i + 1 : Nat) : Int) ∧ i ≤ 63 ∧ j = 63 - i ∧ (∃ y : Int, 1 ≤ y ∧ y ≤ 63 ∧ RN m (up ν 2 k y)) ∧ ((l3.toInt = -2 ∧ ∀ v : Int, 1 ≤ v → v ≤ (i : Int) → gd (up ν 2 k v) (ν 0 3) = false) ∨ (1 ≤ l3.toInt ∧ LwA ν k l3.toInt))) ax_FU ?_ 63 (by unfold ax_FU; omega) ⟨0, rfl, by omega, rfl, ⟨ν 2 k, by omega, by omega, by rw [up_self]; exact h⟩, Or.inl ⟨rfl, fun v v1 v2 => by omega⟩⟩
  rintro j rc hrc l3 l4 m ⟨i, hl, hi, hj, ⟨y, y1, y2, hm⟩, hst⟩
  unfold fX9_leastWidth_B30 fX9_leastWidth_K63
  refine wp_if (fun c1 => fin m y _ hm ?_) (fun c1 => wp_if (fun c2 => ?_) (fun c2 => fin m y _ hm ?_))
  · rw [t_le, z64, hl] at c1
    rcases hst with ⟨s1, s2⟩ | ⟨-, s2⟩
    · exact Or.inl ⟨s1, fun v v1 v2 => s2 v v1 (by omega)⟩
    · exact s2
  · rw [t_le, z64, hl] at c1
    have c2 := qm2.mp c2
    have hno : ∀ v : Int, 1 ≤ v → v ≤ (i : Int) → gd (up ν 2 k v) (ν 0 3) = false := by
      rcases hst with ⟨s1, s2⟩ | ⟨s1, -⟩
      · exact s2
      · omega
    clear hst
    refine wp_wr (5 + k) i5 (by omega) ?_
    have hm6 : RN (ax_wi m 74 (5 + k) l4) (up ν 2 k l4.toInt) := by
      have := RN_width hm (vd_width hv k y y1 y2) k hk l4
      rw [up_up] at this
      exact this
    have hv6 : Vd (up ν 2 k l4.toInt) := vd_width hv k _ (by omega) (by omega)
    refine wp_bd (wp_mono (sX9_isGood hm6 hv6) ?_)
    rintro r7 m8 ⟨hm8, -, hr7⟩
    have hr7 : r7.toInt = if gd (up ν 2 k l4.toInt) (ν 0 3) = true then 1 else 0 := hr7
    have nx : (l4 + 1).toInt = ((i + 1 + 1 : Nat) : Int) := inc hl (by omega)
    refine wp_if (fun c3 => hrc (63 - (i + 1)) _ _ _ (by omega) ⟨i + 1, nx, by omega, rfl, ⟨_, by omega, by omega, hm8⟩, Or.inl ⟨c2, fun v v1 v2 => ?_⟩⟩) (fun c3 => hrc (63 - (i + 1)) _ _ _ (by omega) ⟨i + 1, nx, by omega, rfl, ⟨_, by omega, by omega, hm8⟩, Or.inr ⟨by omega, Or.inr ⟨by omega, by omega, yes_of hr7 c3, fun v v1 v2 => hno v v1 (by omega)⟩⟩⟩)
    by_cases ev : v = l4.toInt
    · rw [ev]
      have := not_of hr7 c3
      simpa using this
    · exact hno v v1 (by omega)
  · rcases hst with ⟨s1, -⟩ | ⟨-, s2⟩
    · exact absurd (qm2.mpr s1) c2
    · exact s2
end LWD
