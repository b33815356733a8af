/-! calls that change something, both sides -/
def CS (m : ax_M) (ν : Nv) (H : Nat → Nv) (c : Nat) (b : Bool) (I : Nv) : Prop := CN m ν ∧ TIn m ν ∧ LIn m ν ∧ CPI m H c b I
def RS (m : ax_M) (ν : Nv) (H : Nat → Nv) (c : Nat) (b : Bool) (I : Nv) : Prop := RN m ν ∧ RPI m H c b I
theorem st_up {ν : Nv} {a k : Nat} {z : Int} (h : a = 1 ∨ a = 2 ∨ a = 9 ∨ a = 10 ∨ a = 11) : St ν (up ν a k z) := ⟨fun b _ _ => (up_ne (by omega)).symm, fun x y h0 h1 h2 h3 h4 h5 => (up_ne (by omega)).symm⟩
theorem st_up0 {ν : Nv} {i : Nat} {z : Int} (h : i = 3 ∨ i = 4) : St ν (up ν 0 i z) := ⟨fun b h1 h2 => (up_ni (by omega)).symm, fun x y h0 _ _ _ _ _ => (up_ne h0).symm⟩
theorem st_mv {ν : Nv} {c : Nat} {n : Int} : St ν (mv ν c n) := ⟨fun b _ _ => rfl, fun a b h0 h1 h2 h3 h4 h5 => by
  show ν a b = if a = 9 ∨ a = 10 then ν a b + mb ν c n b else ν a b
  rw [if_neg (by omega)]⟩
section CHG
variable {μ : ax_M} {ν : Nv} {H : Nat → Nv} {c : Nat} {b : Bool} {I : Nv}
theorem CPI_keep {m : ax_M} (h : CPI μ H c b I) (h1 : m.1 29 = μ.1 29) (h2 : m.1 30 = μ.1 30) (h3 : m.1 31 = μ.1 31) : CPI m H c b I := by
  unfold CPI HR at *
  rw [h1, h2, h3]
  exact h
theorem RPI_keep {m : ax_M} (h : RPI μ H c b I) (h1 : m.1 57 30 = μ.1 57 30) (h2 : m.1 57 31 = μ.1 57 31) (h3 : m.1 75 = μ.1 75) : RPI m H c b I := by
  unfold RPI KR at *
  rw [h1, h2, h3]
  exact h
theorem sX8_forgetAnswers : Wp (fX8_forgetAnswers μ) (fun _ m => (m.1 32 5).toInt = 0 ∧ (m.1 41 8).toInt = 0 ∧ ∀ a, a ≠ 32 → a ≠ 41 → m.1 a = μ.1 a) := by
  unfold fX8_forgetAnswers
  refine wp_let (wp_let (wp_ret ⟨?_, by rw [wi_self]; rfl, fun a h1 h2 => by rw [wi_ne h2, wi_ne h1]⟩))
  rw [wi_ne (by omega), wi_self]; rfl
theorem sX8_beginChange (h : CN μ ν) (hv : Vd ν) (hp : CPI μ H c b I) (hh : HV ν H c b I) : Wp (fX8_beginChange μ) (fun _ m => CN m ν ∧ CPI m (psh H c ν) (pcn c) b I ∧ (m.1 32 5).toInt = 0 ∧ (m.1 41 8).toInt = 0) := by
  unfold fX8_beginChange
  refine wp_bd (wp_mono (sX2_push h hv hp hh) ?_)
  rintro _ m2 ⟨w1, w2⟩
  refine wp_bd (wp_mono (sX8_forgetAnswers (μ := m2)) ?_)
  rintro _ m4 ⟨g1, g2, g3⟩
  exact wp_ret ⟨CN_keep h (fun a h1 h2 => by rw [g3 a (by omega) (by omega), w2 a (by omega) (by omega)]), CPI_keep w1 (g3 29 (by omega) (by omega)) (g3 30 (by omega) (by omega)) (g3 31 (by omega) (by omega)), g1, g2⟩
theorem cs_new {ν2 : Nv} (h : CN μ ν2) (hp : CPI μ H c b I) (h1 : (μ.1 32 5).toInt = 0) (h2 : (μ.1 41 8).toInt = 0) : CS μ ν2 H c b I := ⟨h, Or.inl h1, Or.inl h2, hp⟩
theorem CN_f2 (h : CN μ ν) {j : Nat} (v : Int32) {i : Nat} (hj : (j = 16 ∧ i = 3) ∨ (j = 17 ∧ i = 4)) : CN (ax_wi μ 2 j v) (up ν 0 i v.toInt) := by
  obtain ⟨⟨c0, c1, c2, c3, c4, c5⟩, hH, hC, hP, hF⟩ := h
  have n1 : nH (up ν 0 i v.toInt) = nH ν := by unfold nH; rw [up_ni (by omega)]
  have n2 : nC (up ν 0 i v.toInt) = nC ν := by unfold nC; rw [up_ni (by omega)]
  have n3 : nP (up ν 0 i v.toInt) = nP ν := by unfold nP; rw [up_ni (by omega)]
  refine ⟨⟨?_, ?_, ?_, ?_, ?_, ?_⟩, fun x hx => ?_, fun x hx => ?_, fun x hx => ?_, ?_⟩
  · rw [wi_other (by omega), up_ni (by omega)]; exact c0
  · rw [wi_other (by omega), up_ni (by omega)]; exact c1
  · rw [wi_other (by omega), up_ni (by omega)]; exact c2
  · rcases hj with ⟨rfl, rfl⟩ | ⟨rfl, rfl⟩
    · rw [wi_self, up_at]
    · rw [wi_other (by omega), up_ni (by omega)]; exact c3
  · rcases hj with ⟨rfl, rfl⟩ | ⟨rfl, rfl⟩
    · rw [wi_other (by omega), up_ni (by omega)]; exact c4
    · rw [wi_self, up_at]
  · rw [wi_other (by omega), up_ni (by omega)]; exact c5
  · rw [n1] at hx
    rw [wi_ne (by omega), wi_ne (by omega), wi_ne (by omega), up_ne (by omega), up_ne (by omega), up_ne (by omega)]; exact hH x hx
  · rw [n2] at hx
    rw [wi_ne (by omega), wi_ne (by omega), wi_ne (by omega), wi_ne (by omega), wi_ne (by omega), up_ne (by omega), up_ne (by omega), up_ne (by omega), up_ne (by omega), up_ne (by omega)]; exact hC x hx
  · rw [n3] at hx
    rw [wi_ne (by omega), wi_ne (by omega), wi_ne (by omega), wi_ne (by omega), up_ne (by omega), up_ne (by omega), up_ne (by omega), up_ne (by omega)]; exact hP x hx
  · rw [wi_other (by omega), n2]
    have : Fb (up ν 0 i v.toInt) = Fb ν := by funext x; unfold Fb; rw [up_ne (by omega)]
    rw [this]; exact hF
theorem CN_ph (h : CN μ ν) {a k : Nat} (v : Int32) {i : Nat} (hj : (a = 4 ∧ i = 1) ∨ (a = 5 ∧ i = 2)) : CN (ax_wi μ a k v) (up ν i k v.toInt) := by
  obtain ⟨⟨c0, c1, c2, c3, c4, c5⟩, hH, hC, hP, hF⟩ := h
  have n1 : nH (up ν i k v.toInt) = nH ν := by unfold nH; rw [up_ne (by omega)]
  have n2 : nC (up ν i k v.toInt) = nC ν := by unfold nC; rw [up_ne (by omega)]
  have n3 : nP (up ν i k v.toInt) = nP ν := by unfold nP; rw [up_ne (by omega)]
  refine ⟨?_, fun x hx => ?_, fun x hx => ?_, fun x hx => ?_, ?_⟩
  · rw [wi_ne (by omega), up_ne (by omega), up_ne (by omega), up_ne (by omega), up_ne (by omega), up_ne (by omega), up_ne (by omega)]; exact ⟨c0, c1, c2, c3, c4, c5⟩
  · rw [n1] at hx
    have g := hH x hx
    rcases hj with ⟨rfl, rfl⟩ | ⟨rfl, rfl⟩
    · rw [wi_ne (show 3 ≠ 4 by omega), wi_ne (show 5 ≠ 4 by omega), up_ne (show 12 ≠ 1 by omega), up_ne (show 2 ≠ 1 by omega)]
      refine ⟨g.1, ?_, g.2.2⟩
      by_cases e : x = k
      · rw [e, wi_self, up_at]
      · rw [wi_other e, up_ni e]; exact g.2.1
    · rw [wi_ne (show 3 ≠ 5 by omega), wi_ne (show 4 ≠ 5 by omega), up_ne (show 12 ≠ 2 by omega), up_ne (show 1 ≠ 2 by omega)]
      refine ⟨g.1, g.2.1, ?_⟩
      by_cases e : x = k
      · rw [e, wi_self, up_at]
      · rw [wi_other e, up_ni e]; exact g.2.2
  · rw [n2] at hx
    rw [wi_ne (by omega), wi_ne (by omega), wi_ne (by omega), wi_ne (by omega), wi_ne (by omega), up_ne (by omega), up_ne (by omega), up_ne (by omega), up_ne (by omega), up_ne (by omega)]; exact hC x hx
  · rw [n3] at hx
    rw [wi_ne (by omega), wi_ne (by omega), wi_ne (by omega), wi_ne (by omega), up_ne (by omega), up_ne (by omega), up_ne (by omega), up_ne (by omega)]; exact hP x hx
  · rw [wi_ne (by omega), n2]
    have : Fb (up ν i k v.toInt) = Fb ν := by funext x; unfold Fb; rw [up_ne (by omega)]
    rw [this]; exact hF
theorem CN_least (h : CN μ ν) (k : Nat) (v : Int32) : CN (ax_wi μ 14 k v) (up ν 10 k v.toInt) := by
  obtain ⟨a, hb, hc, hd, he⟩ := h
  refine ⟨?_, fun i hi => ?_, fun c hc2 => ?_, fun p hp => ?_, ?_⟩
  · rw [wi_ne (by omega)]; exact a
  · rw [wi_ne (by omega), wi_ne (by omega), wi_ne (by omega)]; exact hb i hi
  · rw [wi_ne (by omega), wi_ne (by omega), wi_ne (by omega), wi_ne (by omega), wi_ne (by omega)]; exact hc c hc2
  · rw [wi_ne (show 11 ≠ 14 by omega), wi_ne (show 12 ≠ 14 by omega), wi_ne (show 13 ≠ 14 by omega)]
    have := hd p hp
    refine ⟨this.1, this.2.1, this.2.2.1, ?_⟩
    by_cases e : p = k
    · rw [e, wi_self, up_at]
    · rw [wi_other e, up_ni e]; exact this.2.2.2
  · rw [wi_ne (by omega)]; exact he
theorem RN_least (h : RN μ ν) (hv : Vd ν) (k : Nat) (hk : k < nP ν) (v : Int32) : RN (ax_wi μ 74 (43 + k) v) (up ν 10 k v.toInt) := by
  have hn := vd_nums hv
  obtain ⟨⟨a1, a2, a3, a4, a5, a6⟩, hb, hc, hd⟩ := h
  refine ⟨⟨?_, ?_, ?_, ?_, ?_, ?_⟩, fun i hi => ?_, fun c hc2 => ?_, fun p hp => ?_⟩
  · rw [wi_ne (by omega)]; exact a1
  · rw [wi_ne (by omega)]; exact a2
  · rw [wi_ne (by omega)]; exact a3
  · rw [wi_other (by omega)]; exact a4
  · rw [wi_other (by omega)]; exact a5
  · rw [wi_ne (by omega)]; exact a6
  · have hi : i < nH ν := hi
    rw [wi_ne (by omega), wi_other (by omega), wi_other (by omega)]; exact hb i hi
  · have hc2 : c < nC ν := hc2
    rw [wi_ne (by omega), wi_ne (by omega), wi_ne (by omega), wi_ne (by omega), wi_ne (by omega), wi_other (by omega)]; exact hc c hc2
  · have hp : p < nP ν := hp
    have := hd p hp
    rw [wi_ne (by omega), wi_ne (by omega), wi_other (show 19 + p ≠ 43 + k by omega)]
    refine ⟨this.1, this.2.1, this.2.2.1, ?_⟩
    by_cases e : p = k
    · rw [e, wi_self, up_at]
    · rw [wi_other (by omega), up_ni e]; exact this.2.2.2
theorem RN_skew (h : RN μ ν) (hv : Vd ν) (v : Int32) : RN (ax_wi μ 74 67 v) (up ν 0 4 v.toInt) := by
  have hn := vd_nums hv
  obtain ⟨⟨a1, a2, a3, a4, a5, a6⟩, hb, hc, hd⟩ := h
  refine ⟨⟨?_, ?_, ?_, ?_, ?_, ?_⟩, fun i hi => ?_, fun c hc2 => ?_, fun p hp => ?_⟩
  · rw [wi_ne (by omega)]; exact a1
  · rw [wi_ne (by omega)]; exact a2
  · rw [wi_ne (by omega)]; exact a3
  · rw [wi_other (by omega)]; exact a4
  · rw [wi_self]; rfl
  · rw [wi_ne (by omega)]; exact a6
  · have hi : i < nH ν := hi
    rw [wi_ne (by omega), wi_other (by omega), wi_other (by omega)]; exact hb i hi
  · have hc2 : c < nC ν := hc2
    rw [wi_ne (by omega), wi_ne (by omega), wi_ne (by omega), wi_ne (by omega), wi_ne (by omega), wi_other (by omega)]; exact hc c hc2
  · have hp : p < nP ν := hp
    rw [wi_ne (by omega), wi_ne (by omega), wi_other (by omega), wi_other (by omega)]; exact hd p hp
/-- the answer and the new net of a change -/
def Chg (ok : Prop) (rb rg : Int) (ν ν2 : Nv) (S : Nv → (Nat → Nv) → Nat → Prop) (H : Nat → Nv) (c : Nat) (r : Int) : Prop := (¬ ok ∧ r = rb ∧ S ν H c) ∨ (ok ∧ r = rg ∧ S ν2 (psh H c ν) (pcn c))
theorem sX8_period (h : CS μ ν H c b I) (hv : Vd ν) (hh : HV ν H c b I) (n : Int32) : Wp (fX8_period n μ) (fun r m => Chg (1 ≤ n.toInt ∧ n.toInt ≤ 9999) (-1) (ν 0 3) ν (up ν 0 3 n.toInt) (fun ν H c => CS m ν H c b I) H c r.toInt) := by
  have z1 : Int32.toInt 1 = 1 := rfl
  have z9 : Int32.toInt 9999 = 9999 := rfl
  unfold fX8_period fX8_period_K12
  refine wp_if (fun c1 => wp_ret (Or.inl ⟨?_, rfl, h⟩)) (fun c1 => wp_if (fun c2 => wp_let ?_) (fun c2 => wp_ret (Or.inl ⟨?_, rfl, h⟩)))
  · rw [t_lt, z1] at c1; omega
  · rw [t_lt, z1] at c1
    rw [t_le, z9] at c2
    refine wp_bd (wp_mono (sX8_beginChange h.1 hv h.2.2.2 hh) ?_)
    rintro _ m3 ⟨w1, w2, w3, w4⟩
    refine wp_let (wp_ret (Or.inr ⟨by omega, h.1.1.2.2.2.1, cs_new (CN_f2 w1 n (Or.inl ⟨rfl, rfl⟩)) (CPI_keep w2 (wi_ne (by omega)) (wi_ne (by omega)) (wi_ne (by omega))) ?_ ?_⟩))
    · rw [wi_ne (by omega)]; exact w3
    · rw [wi_ne (by omega)]; exact w4
  · rw [t_le, z9] at c2; omega
theorem sX8_skew (h : CS μ ν H c b I) (hv : Vd ν) (hh : HV ν H c b I) (n : Int32) : Wp (fX8_skew n μ) (fun r m => Chg (0 ≤ n.toInt ∧ n.toInt ≤ 99) (-1) (ν 0 4) ν (up ν 0 4 n.toInt) (fun ν H c => CS m ν H c b I) H c r.toInt) := by
  have z1 : Int32.toInt 0 = 0 := rfl
  have z9 : Int32.toInt 99 = 99 := rfl
  unfold fX8_skew fX8_skew_K10
  refine wp_if (fun c1 => wp_ret (Or.inl ⟨?_, rfl, h⟩)) (fun c1 => wp_if (fun c2 => wp_let ?_) (fun c2 => wp_ret (Or.inl ⟨?_, rfl, h⟩)))
  · rw [t_lt, z1] at c1; omega
  · rw [t_lt, z1] at c1
    rw [t_le, z9] at c2
    refine wp_bd (wp_mono (sX8_beginChange h.1 hv h.2.2.2 hh) ?_)
    rintro _ m3 ⟨w1, w2, w3, w4⟩
    refine wp_let (wp_ret (Or.inr ⟨by omega, h.1.1.2.2.2.2.1, cs_new (CN_f2 w1 n (Or.inr ⟨rfl, rfl⟩)) (CPI_keep w2 (wi_ne (by omega)) (wi_ne (by omega)) (wi_ne (by omega))) ?_ ?_⟩))
    · rw [wi_ne (by omega)]; exact w3
    · rw [wi_ne (by omega)]; exact w4
  · rw [t_le, z9] at c2; omega
def phN (ν : Nv) (p o w : Int) : Nv := up (up ν 1 p.toNat o) 2 p.toNat w
def dlN (ν : Nv) (p x y : Int) : Nv := up (up ν 9 p.toNat x) 10 p.toNat y
def phOk (ν : Nv) (p o w : Int) : Prop := (0 ≤ p ∧ p < ν 0 0) ∧ 0 ≤ o ∧ o ≤ 63 ∧ 1 ≤ w ∧ w ≤ 63
def dlOk (ν : Nv) (p x y : Int) : Prop := (0 ≤ p ∧ p < ν 0 2) ∧ x ≤ 999 ∧ 0 ≤ y ∧ y ≤ x
theorem sX8_phase (h : CS μ ν H c b I) (hv : Vd ν) (hh : HV ν H c b I) (p o w : Int32) : Wp (fX8_phase p o w μ) (fun r m => Chg (phOk ν p.toInt o.toInt w.toInt) 0 1 ν (phN ν p.toInt o.toInt w.toInt) (fun ν H c => CS m ν H c b I) H c r.toInt) := by
  have hn := vd_nums hv
  have z0 : Int32.toInt 0 = 0 := rfl
  have z1 : Int32.toInt 1 = 1 := rfl
  have z64 : Int32.toInt 64 = 64 := rfl
  have no : ¬ phOk ν p.toInt o.toInt w.toInt → Wp (some ((0 : Int32), μ)) (fun r m => Chg (phOk ν p.toInt o.toInt w.toInt) 0 1 ν (phN ν p.toInt o.toInt w.toInt) (fun ν H c => CS m ν H c b I) H c r.toInt) := fun g => wp_ret (Or.inl ⟨g, rfl, h⟩)
  unfold fX8_phase fX8_phase_K32
  refine wp_rdf (sX1_hasPhase h.1 p) (fun r e => wp_if (fun c1 => no ?_) (fun c1 => wp_if (fun c2 => no ?_) (fun c2 => wp_if (fun c3 => no ?_) (fun c3 => wp_if (fun c4 => no ?_) (fun c4 => wp_if (fun c5 => ?_) (fun c5 => no ?_))))))
  · exact fun g => not_of e c1 g.1
  · rw [t_lt, z0] at c2; exact fun g => by have := g.2; omega
  · rw [t_le, z64] at c3; exact fun g => by have := g.2; omega
  · rw [t_lt, z1] at c4; exact fun g => by have := g.2; omega
  · rw [t_lt, z0] at c2
    rw [t_le, z64] at c3
    rw [t_lt, z1] at c4
    rw [t_lt, z64] at c5
    have hin := yes_of e c1
    obtain ⟨k, hk, ek⟩ := in_nat (N := nH ν) hin rfl
    refine wp_bd (wp_mono (sX8_beginChange h.1 hv h.2.2.2 hh) ?_)
    rintro _ m4 ⟨w1, w2, w3, w4⟩
    refine wp_wr k ek (by omega) (wp_wr k ek (by omega) (wp_ret (Or.inr ⟨⟨hin, by omega⟩, rfl, cs_new ?_ (CPI_keep w2 ?_ ?_ ?_) ?_ ?_⟩)))
    · unfold phN
      rw [ek, tn]
      exact CN_ph (CN_ph w1 o (Or.inl ⟨rfl, rfl⟩)) w (Or.inr ⟨rfl, rfl⟩)
    · rw [wi_ne (by omega), wi_ne (by omega)]
    · rw [wi_ne (by omega), wi_ne (by omega)]
    · rw [wi_ne (by omega), wi_ne (by omega)]
    · rw [wi_ne (by omega), wi_ne (by omega)]; exact w3
    · rw [wi_ne (by omega), wi_ne (by omega)]; exact w4
  · rw [t_lt, z64] at c5; exact fun g => by have := g.2; omega
theorem sX8_delay (h : CS μ ν H c b I) (hv : Vd ν) (hh : HV ν H c b I) (p x y : Int32) : Wp (fX8_delay p x y μ) (fun r m => Chg (dlOk ν p.toInt x.toInt y.toInt) 0 1 ν (dlN ν p.toInt x.toInt y.toInt) (fun ν H c => CS m ν H c b I) H c r.toInt) := by
  have hn := vd_nums hv
  have z0 : Int32.toInt 0 = 0 := rfl
  have z9 : Int32.toInt 999 = 999 := rfl
  have no : ¬ dlOk ν p.toInt x.toInt y.toInt → Wp (some ((0 : Int32), μ)) (fun r m => Chg (dlOk ν p.toInt x.toInt y.toInt) 0 1 ν (dlN ν p.toInt x.toInt y.toInt) (fun ν H c => CS m ν H c b I) H c r.toInt) := fun g => wp_ret (Or.inl ⟨g, rfl, h⟩)
  unfold fX8_delay fX8_delay_K27
  refine wp_rdf (sX1_hasPath h.1 p) (fun r e => wp_if (fun c1 => no ?_) (fun c1 => wp_if (fun c2 => no ?_) (fun c2 => wp_if (fun c3 => no ?_) (fun c3 => wp_if (fun c4 => ?_) (fun c4 => no ?_)))))
  · exact fun g => not_of e c1 g.1
  · rw [t_lt, z9] at c2; exact fun g => by have := g.2; omega
  · rw [t_lt, z0] at c3; exact fun g => by have := g.2; omega
  · rw [t_lt, z9] at c2
    rw [t_lt, z0] at c3
    rw [t_le] at c4
    have hin := yes_of e c1
    obtain ⟨k, hk, ek⟩ := in_nat (N := nP ν) hin rfl
    refine wp_bd (wp_mono (sX8_beginChange h.1 hv h.2.2.2 hh) ?_)
    rintro _ m4 ⟨w1, w2, w3, w4⟩
    refine wp_wr k ek (by omega) (wp_wr k ek (by omega) (wp_ret (Or.inr ⟨⟨hin, by omega⟩, rfl, cs_new ?_ (CPI_keep w2 ?_ ?_ ?_) ?_ ?_⟩)))
    · unfold dlN
      rw [ek, tn]
      exact CN_least (CN_most w1 k x) k y
    · rw [wi_ne (by omega), wi_ne (by omega)]
    · rw [wi_ne (by omega), wi_ne (by omega)]
    · rw [wi_ne (by omega), wi_ne (by omega)]
    · rw [wi_ne (by omega), wi_ne (by omega)]; exact w3
    · rw [wi_ne (by omega), wi_ne (by omega)]; exact w4
  · rw [t_le] at c4; exact fun g => by have := g.2; omega
def mvOk (ν : Nv) (p n : Int) : Prop := (0 ≤ p ∧ p < ν 0 1) ∧ -999 ≤ n ∧ n ≤ 999 ∧ Cmv ν p.toNat n
theorem sX8_move (h : CS μ ν H c b I) (hv : Vd ν) (hh : HV ν H c b I) (p n : Int32) : Wp (fX8_move p n μ) (fun r m => Chg (mvOk ν p.toInt n.toInt) 0 1 ν (mv ν p.toInt.toNat n.toInt) (fun ν H c => CS m ν H c b I) H c r.toInt) := by
  have no : ¬ mvOk ν p.toInt n.toInt → Wp (some ((0 : Int32), μ)) (fun r m => Chg (mvOk ν p.toInt n.toInt) 0 1 ν (mv ν p.toInt.toNat n.toInt) (fun ν H c => CS m ν H c b I) H c r.toInt) := fun g => wp_ret (Or.inl ⟨g, rfl, h⟩)
  unfold fX8_move fX8_move_K35
  refine wp_rdf (sX1_hasCell h.1 p) (fun r e => wp_if (fun c1 => no (fun g => not_of e c1 g.1)) (fun c1 => ?_))
  have hin := yes_of e c1
  obtain ⟨k, hk, ek⟩ := in_nat (N := nC ν) hin rfl
  have tk : p.toInt.toNat = k := by rw [ek]; rfl
  refine wp_bd (wp_mono (sX1_leastMove h.1 hv p k ek) ?_)
  rintro v3 m4 ⟨rfl, a1, a2, a3⟩
  refine wp_if (fun c2 => no (fun g => ?_)) (fun c2 => ?_)
  · rw [t_lt] at c2
    obtain ⟨g1, g2, g3, g4⟩ := g
    rw [tk, cmv_iff hv] at g4
    have := (a3 n.toInt).mpr ⟨g2, fun q hq => (g4 q hq).1⟩
    omega
  · rw [t_lt] at c2
    have lo := (a3 n.toInt).mp (by omega)
    refine wp_bd (wp_mono (sX1_greatestMove h.1 hv p k ek) ?_)
    rintro v5 m6 ⟨rfl, b1, b2, b3⟩
    refine wp_if (fun c3 => ?_) (fun c3 => no (fun g => ?_))
    · rw [t_le] at c3
      have hi := (b3 n.toInt).mp c3
      have hok : mvOk ν p.toInt n.toInt := ⟨hin, lo.1, hi.1, by rw [tk, cmv_iff hv]; exact fun q hq => ⟨lo.2 q hq, hi.2 q hq⟩⟩
      refine wp_bd (wp_mono (sX8_beginChange h.1 hv h.2.2.2 hh) ?_)
      rintro _ m8 ⟨w1, w2, w3, w4⟩
      refine wp_bd (wp_mono (wp_keep (sX1_moveWork w1 hv (fun q hq => by have := hv.2.2.2.1 q hq; omega) p n k ek (by omega) (by omega)) (kf_X1_moveWork p n m8)) ?_)
      rintro _ m10 ⟨w5, w6⟩
      refine wp_ret (Or.inr ⟨hok, rfl, cs_new (by rw [tk]; exact w5) (CPI_keep w2 (w6 29 (by decide)).1 (w6 30 (by decide)).1 (w6 31 (by decide)).1) ?_ ?_⟩)
      · rw [(w6 32 (by decide)).1]; exact w3
      · rw [(w6 41 (by decide)).1]; exact w4
    · rw [t_le] at c3
      obtain ⟨g1, g2, g3, g4⟩ := g
      rw [tk, cmv_iff hv] at g4
      have := (b3 n.toInt).mpr ⟨g3, fun q hq => (g4 q hq).2⟩
      omega
end CHG
