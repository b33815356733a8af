/-! flop; the reference's changes; undo, keep, back -/
def flN (ν : Nv) (p : Int) : Nv := up ν 11 p.toNat (1 - ν 11 p.toNat)
theorem xor_bits (a b : Nat) : (Int32.ofNat a ^^^ Int32.ofNat b) = Int32.ofNat (a ^^^ b) := by
  refine Int32.toBitVec_inj.mp (BitVec.eq_of_getLsbD_eq (fun i hi => ?_))
  simp only [Int32.toBitVec_xor, BitVec.getLsbD_xor, ofN_bit, hi, decide_true, Bool.true_and, Nat.testBit_xor]
section CHQ
variable {μ : ax_M} {ν : Nv} {H : Nat → Nv} {c : Nat} {b : Bool} {I : Nv}
theorem fb_fl (hv : Vd ν) {k : Nat} (hk : k < nC ν) (x : Nat) : Fb (up ν 11 k (1 - ν 11 k)) x = if x = k then !Fb ν x else Fb ν x := by
  have h := (hv.2.2.1 k hk).2.2.2.2.2.2.2.2
  unfold Fb
  by_cases e : x = k
  · subst e
    rw [if_pos rfl, up_at]
    rcases h with h | h <;> rw [h] <;> rfl
  · rw [if_neg e, up_ni e]
theorem vd_fl (hv : Vd ν) {k : Nat} (hk : k < nC ν) : Vd (up ν 11 k (1 - ν 11 k)) := by
  have h := (hv.2.2.1 k hk).2.2.2.2.2.2.2.2
  obtain ⟨ha, hb, hc, hd, he⟩ := hv
  refine ⟨ha, hb, fun x hx => ?_, hd, he⟩
  have := hc x hx
  refine ⟨this.1, this.2.1, this.2.2.1, this.2.2.2.1, this.2.2.2.2.1, this.2.2.2.2.2.1, this.2.2.2.2.2.2.1, this.2.2.2.2.2.2.2.1, ?_⟩
  by_cases e : x = k
  · subst e
    rw [up_at]; omega
  · rw [up_ni e]; exact this.2.2.2.2.2.2.2.2
theorem sX8_flop (h : CS μ ν H c b I) (hv : Vd ν) (hh : HV ν H c b I) (p : Int32) : Wp (fX8_flop p μ) (fun r m => Chg (0 ≤ p.toInt ∧ p.toInt < ν 0 1) (-1) (1 - ν 11 p.toInt.toNat) ν (flN ν p.toInt) (fun ν H c => CS m ν H c b I) H c r.toInt) := by
  have hn := vd_nums hv
  unfold fX8_flop fX8_flop_K48
  refine wp_rdf (sX1_hasCell h.1 p) (fun r e => wp_if (fun c1 => wp_ret (Or.inl ⟨not_of e c1, rfl, h⟩)) (fun c1 => ?_))
  have hin := yes_of e c1
  obtain ⟨k, hk, ek⟩ := in_nat (N := nC ν) hin rfl
  have tk : p.toInt.toNat = k := by rw [ek]; rfl
  refine wp_bd (wp_mono (sX8_beginChange h.1 hv h.2.2.2 hh) ?_)
  rintro _ m4 ⟨w1, w2, w3, w4⟩
  refine wp_let ?_
  have h01 := (hv.2.2.1 k hk).2.2.2.2.2.2.2.2
  have hfb := fb_num hv k hk
  have hm5 : CN (ax_wi m4 2 15 (m4.1 2 15 ^^^ ((1 : Int32) <<< (p &&& 31)))) (up ν 11 k (1 - ν 11 k)) := by
    obtain ⟨⟨c0, c1, c2, c3, c4, c5⟩, hH, hC, hP, hF⟩ := w1
    refine ⟨⟨?_, ?_, ?_, ?_, ?_, ?_⟩, fun x hx => ?_, fun x hx => ?_, fun x hx => ?_, ?_⟩
    · rw [wi_other (by omega)]; exact c0
    · rw [wi_other (by omega)]; exact c1
    · rw [wi_other (by omega)]; exact c2
    · rw [wi_other (by omega)]; exact c3
    · rw [wi_other (by omega)]; exact c4
    · rw [wi_other (by omega)]; exact c5
    · rw [wi_ne (by omega), wi_ne (by omega), wi_ne (by omega)]; exact hH x hx
    · rw [wi_ne (by omega), wi_ne (by omega), wi_ne (by omega), wi_ne (by omega), wi_ne (by omega)]; exact hC x hx
    · rw [wi_ne (by omega), wi_ne (by omega), wi_ne (by omega), wi_ne (by omega)]; exact hP x hx
    · rw [wi_self, i_nat hF, i_nat ek, b_shl1 k (by omega), xor_bits]
      have : bt (Fb ν) (nC ν) ^^^ 2 ^ k = bt (Fb (up ν 11 k (1 - ν 11 k))) (nC ν) := by
        refine Nat.eq_of_testBit_eq (fun x => ?_)
        rw [Nat.testBit_xor, bt_test, bt_test, Nat.testBit_two_pow, fb_fl hv hk]
        by_cases ex : x = k
        · subst ex; simp [hk]
        · simp [ex, Ne.symm ex]
      rw [this]
      exact nat_toInt (by have := bt_10 (Fb (up ν 11 k (1 - ν 11 k))) hn.2.1; omega)
  have fin : ∀ s : Int32, s.toInt = 1 - ν 11 k → Chg (0 ≤ p.toInt ∧ p.toInt < ν 0 1) (-1) (1 - ν 11 p.toInt.toNat) ν (flN ν p.toInt) (fun ν H c => CS (ax_wi m4 2 15 (m4.1 2 15 ^^^ ((1 : Int32) <<< (p &&& 31)))) ν H c b I) H c s.toInt := by
    intro s hs
    refine Or.inr ⟨hin, by rw [tk]; exact hs, cs_new (by unfold flN; rw [tk]; exact hm5) (CPI_keep w2 (wi_ne (by omega)) (wi_ne (by omega)) (wi_ne (by omega))) ?_ ?_⟩
    · rw [wi_ne (by omega)]; exact w3
    · rw [wi_ne (by omega)]; exact w4
  refine wp_rdf (sX1_isFlop hm5 (vd_fl hv hk) p k ek hk) (fun r6 e6 => wp_if (fun c2 => wp_ret (fin _ ?_)) (fun c2 => wp_ret (fin _ ?_)))
  · have := not_of e6 c2
    rw [fb_fl hv hk, if_pos rfl] at this
    have : Fb ν k = true := by simpa using this
    rw [this, if_pos rfl] at hfb
    rw [hfb]; rfl
  · have := yes_of e6 c2
    rw [fb_fl hv hk, if_pos rfl] at this
    have : Fb ν k = false := by simpa using this
    rw [this] at hfb
    rw [hfb]; rfl
/-! the reference -/
theorem RS_z (h : RS μ ν H c b I) : RS (ax_wi μ 57 0 0) ν H c b I := ⟨RN_wi57 h.1, RPI_keep h.2 (wi_other (by omega)) (wi_other (by omega)) (wi_ne (by omega))⟩
theorem rem9 (h : RS μ ν H c b I) (hv : Vd ν) (hh : HV ν H c b I) : Wp (fX9_remembers μ) (fun _ m => RN m ν ∧ RPI m (psh H c ν) (pcn c) b I) := by
  refine wp_mono (sX9_remembers h.1 hv h.2 hh) ?_
  rintro _ m ⟨w1, w2, w3⟩
  exact ⟨RN_keep h.1 (fun a h1 h2 => w2 a (by omega) (by omega)), w1⟩
theorem sX9_period (h0 : RS μ ν H c b I) (hv : Vd ν) (hh : HV ν H c b I) (n : Int32) : Wp (fX9_period n μ) (fun r m => Chg (1 ≤ n.toInt ∧ n.toInt ≤ 9999) (-1) (ν 0 3) ν (up ν 0 3 n.toInt) (fun ν H c => RS m ν H c b I) H c r.toInt) := by
  have z1 : Int32.toInt 1 = 1 := rfl
  have z9 : Int32.toInt 9999 = 9999 := rfl
  have h := RS_z h0
  unfold fX9_period fX9_period_K17
  refine wp_let (wp_if (fun c1 => wp_ret (Or.inl ⟨?_, rfl, h⟩)) (fun c1 => wp_if (fun c2 => wp_rd 0 rfl (by omega) ?_) (fun c2 => wp_ret (Or.inl ⟨?_, rfl, h⟩))))
  · rw [t_lt, z1] at c1; omega
  · rw [t_lt, z1] at c1
    rw [t_le, z9] at c2
    refine wp_bd (wp_mono (rem9 h hv hh) ?_)
    rintro _ m4 ⟨w1, w2⟩
    exact wp_wr 0 rfl (by omega) (wp_ret (Or.inr ⟨by omega, h.1.1.2.2.2.1, RN_period w1 n, RPI_keep w2 (by rw [wi_ne (by omega)]) (by rw [wi_ne (by omega)]) (wi_ne (by omega))⟩))
  · rw [t_le, z9] at c2; omega
theorem sX9_skew (h0 : RS μ ν H c b I) (hv : Vd ν) (hh : HV ν H c b I) (n : Int32) : Wp (fX9_skew n μ) (fun r m => Chg (0 ≤ n.toInt ∧ n.toInt ≤ 99) (-1) (ν 0 4) ν (up ν 0 4 n.toInt) (fun ν H c => RS m ν H c b I) H c r.toInt) := by
  have z1 : Int32.toInt 0 = 0 := rfl
  have z9 : Int32.toInt 99 = 99 := rfl
  have h := RS_z h0
  unfold fX9_skew fX9_skew_K15
  refine wp_let (wp_if (fun c1 => wp_ret (Or.inl ⟨?_, rfl, h⟩)) (fun c1 => wp_if (fun c2 => wp_rd 67 rfl (by omega) ?_) (fun c2 => wp_ret (Or.inl ⟨?_, rfl, h⟩))))
  · rw [t_lt, z1] at c1; omega
  · rw [t_lt, z1] at c1
    rw [t_le, z9] at c2
    refine wp_bd (wp_mono (rem9 h hv hh) ?_)
    rintro _ m4 ⟨w1, w2⟩
    exact wp_wr 67 rfl (by omega) (wp_ret (Or.inr ⟨by omega, h.1.1.2.2.2.2.1, RN_skew w1 hv n, RPI_keep w2 (by rw [wi_ne (by omega)]) (by rw [wi_ne (by omega)]) (wi_ne (by omega))⟩))
  · rw [t_le, z9] at c2; omega
theorem sX9_phase (h0 : RS μ ν H c b I) (hv : Vd ν) (hh : HV ν H c b I) (p o w : Int32) : Wp (fX9_phase p o w μ) (fun r m => Chg (phOk ν p.toInt o.toInt w.toInt) 0 1 ν (phN ν p.toInt o.toInt w.toInt) (fun ν H c => RS m ν H c b I) H c r.toInt) := by
  have hn := vd_nums hv
  have z0 : Int32.toInt 0 = 0 := rfl
  have z1 : Int32.toInt 1 = 1 := rfl
  have z63 : Int32.toInt 63 = 63 := rfl
  have h := RS_z h0
  have no : ¬ phOk ν p.toInt o.toInt w.toInt → Wp (some ((0 : Int32), ax_wi μ 57 0 0)) (fun r m => Chg (phOk ν p.toInt o.toInt w.toInt) 0 1 ν (phN ν p.toInt o.toInt w.toInt) (fun ν H c => RS m ν H c b I) H c r.toInt) := fun g => wp_ret (Or.inl ⟨g, rfl, h⟩)
  unfold fX9_phase fX9_phase_K34
  refine wp_let (wp_rdf (sX9_isPhase h.1 p) (fun r e => wp_if (fun c1 => no ?_) (fun c1 => wp_if (fun c2 => no ?_) (fun c2 => wp_if (fun c3 => no ?_) (fun c3 => wp_if (fun c4 => no ?_) (fun c4 => wp_if (fun c5 => ?_) (fun c5 => no ?_)))))))
  · exact fun g => not_of e c1 g.1
  · rw [t_lt, z0] at c2; exact fun g => by have := g.2; omega
  · rw [t_lt, z63] at c3; exact fun g => by have := g.2; omega
  · rw [t_lt, z1] at c4; exact fun g => by have := g.2; omega
  · rw [t_lt, z0] at c2
    rw [t_lt, z63] at c3
    rw [t_lt, z1] at c4
    rw [t_le, z63] at c5
    have hin := yes_of e c1
    obtain ⟨k, hk, ek⟩ := in_nat (N := nH ν) hin rfl
    have i1 : ((1 : Int32) + p).toInt = ((1 + k : Nat) : Int) := by rw [t_add, ek, z1]; omega
    have i5 : ((5 : Int32) + p).toInt = ((5 + k : Nat) : Int) := by rw [t_add, ek, show Int32.toInt 5 = 5 from rfl]; omega
    refine wp_bd (wp_mono (rem9 h hv hh) ?_)
    rintro _ m5 ⟨w1, w2⟩
    refine wp_wr (1 + k) i1 (by omega) (wp_wr (5 + k) i5 (by omega) (wp_ret (Or.inr ⟨⟨hin, by omega⟩, rfl, ?_, RPI_keep w2 ?_ ?_ ?_⟩)))
    · unfold phN
      rw [ek, tn]
      have hv1 : Vd (up ν 1 k o.toInt) := by
        obtain ⟨ha, hb, hc, hd, he⟩ := hv
        refine ⟨ha, fun i hi => ?_, hc, hd, he⟩
        have := hb i hi
        refine ⟨?_, ?_, this.2.2⟩
        · by_cases ei : i = k
          · rw [ei, up_at]; omega
          · rw [up_ni ei]; exact this.1
        · by_cases ei : i = k
          · rw [ei, up_at]; omega
          · rw [up_ni ei]; exact this.2.1
      exact RN_width (RN_open w1 hv k hk o) hv1 k hk w
    · rw [wi_ne (by omega), wi_ne (by omega)]
    · rw [wi_ne (by omega), wi_ne (by omega)]
    · rw [wi_ne (by omega), wi_ne (by omega)]
  · rw [t_le, z63] at c5; exact fun g => by have := g.2; omega
theorem RN_least2 (h : RN μ ν) (hn : nH ν ≤ 4 ∧ nC ν ≤ 10 ∧ nP ν ≤ 24) (k : Nat) (hk : k < nP ν) (v : Int32) : RN (ax_wi μ 74 (43 + k) v) (up ν 10 k v.toInt) := by
  obtain ⟨⟨a1, a2, a3, a4, a5, a6⟩, hb, hc, hd⟩ := h
  refine ⟨⟨?_, ?_, ?_, ?_, ?_, ?_⟩, fun i hi => ?_, fun c hc2 => ?_, fun p hp => ?_⟩
  · rw [wi_ne (by omega)]; exact a1
  · rw [wi_ne (by omega)]; exact a2
  · rw [wi_ne (by omega)]; exact a3
  · rw [wi_other (by omega)]; exact a4
  · rw [wi_other (by omega)]; exact a5
  · rw [wi_ne (by omega)]; exact a6
  · have hi : i < nH ν := hi
    rw [wi_ne (by omega), wi_other (by omega), wi_other (by omega)]; exact hb i hi
  · have hc2 : c < nC ν := hc2
    rw [wi_ne (by omega), wi_ne (by omega), wi_ne (by omega), wi_ne (by omega), wi_ne (by omega), wi_other (by omega)]; exact hc c hc2
  · have hp : p < nP ν := hp
    have := hd p hp
    rw [wi_ne (by omega), wi_ne (by omega), wi_other (show 19 + p ≠ 43 + k by omega)]
    refine ⟨this.1, this.2.1, this.2.2.1, ?_⟩
    by_cases e : p = k
    · rw [e, wi_self, up_at]
    · rw [wi_other (by omega), up_ni e]; exact this.2.2.2
theorem sX9_delay (h0 : RS μ ν H c b I) (hv : Vd ν) (hh : HV ν H c b I) (p x y : Int32) : Wp (fX9_delay p x y μ) (fun r m => Chg (dlOk ν p.toInt x.toInt y.toInt) 0 1 ν (dlN ν p.toInt x.toInt y.toInt) (fun ν H c => RS m ν H c b I) H c r.toInt) := by
  have hn := vd_nums hv
  have z0 : Int32.toInt 0 = 0 := rfl
  have z9 : Int32.toInt 999 = 999 := rfl
  have h := RS_z h0
  have no : ¬ dlOk ν p.toInt x.toInt y.toInt → Wp (some ((0 : Int32), ax_wi μ 57 0 0)) (fun r m => Chg (dlOk ν p.toInt x.toInt y.toInt) 0 1 ν (dlN ν p.toInt x.toInt y.toInt) (fun ν H c => RS m ν H c b I) H c r.toInt) := fun g => wp_ret (Or.inl ⟨g, rfl, h⟩)
  unfold fX9_delay fX9_delay_K33
  refine wp_let (wp_rdf (sX9_isPath h.1 p) (fun r e => wp_if (fun c1 => no ?_) (fun c1 => wp_if (fun c2 => no ?_) (fun c2 => wp_if (fun c3 => no ?_) (fun c3 => wp_if (fun c4 => no ?_) (fun c4 => wp_if (fun c5 => ?_) (fun c5 => no ?_)))))))
  · exact fun g => not_of e c1 g.1
  · rw [t_lt, z0] at c2; exact fun g => by have := g.2; omega
  · rw [t_lt, z9] at c3; exact fun g => by have := g.2; omega
  · rw [t_lt, z0] at c4; exact fun g => by have := g.2; omega
  · rw [t_lt, z0] at c2
    rw [t_lt, z9] at c3
    rw [t_lt, z0] at c4
    rw [t_le] at c5
    have hin := yes_of e c1
    obtain ⟨k, hk, ek⟩ := in_nat (N := nP ν) hin rfl
    have i19 : ((19 : Int32) + p).toInt = ((19 + k : Nat) : Int) := by rw [t_add, ek, show Int32.toInt 19 = 19 from rfl]; omega
    have i43 : ((43 : Int32) + p).toInt = ((43 + k : Nat) : Int) := by rw [t_add, ek, show Int32.toInt 43 = 43 from rfl]; omega
    refine wp_bd (wp_mono (rem9 h hv hh) ?_)
    rintro _ m5 ⟨w1, w2⟩
    refine wp_wr (19 + k) i19 (by omega) (wp_wr (43 + k) i43 (by omega) (wp_ret (Or.inr ⟨⟨hin, by omega⟩, rfl, ?_, RPI_keep w2 ?_ ?_ ?_⟩)))
    · unfold dlN
      rw [ek, tn]
      exact RN_least2 (RN_most w1 hv k hk x) hn k hk y
    · rw [wi_ne (by omega), wi_ne (by omega)]
    · rw [wi_ne (by omega), wi_ne (by omega)]
    · rw [wi_ne (by omega), wi_ne (by omega)]
  · rw [t_le] at c5; exact fun g => by have := g.2; omega
theorem sX9_flop (h0 : RS μ ν H c b I) (hv : Vd ν) (hh : HV ν H c b I) (p : Int32) : Wp (fX9_flop p μ) (fun r m => Chg (0 ≤ p.toInt ∧ p.toInt < ν 0 1) (-1) (1 - ν 11 p.toInt.toNat) ν (flN ν p.toInt) (fun ν H c => RS m ν H c b I) H c r.toInt) := by
  have hn := vd_nums hv
  have h := RS_z h0
  unfold fX9_flop
  refine wp_let (wp_rdf (sX9_isCell h.1 p) (fun r e => wp_if (fun c1 => wp_ret (Or.inl ⟨not_of e c1, rfl, h⟩)) (fun c1 => ?_)))
  have hin := yes_of e c1
  obtain ⟨k, hk, ek⟩ := in_nat (N := nC ν) hin rfl
  have tk : p.toInt.toNat = k := by rw [ek]; rfl
  have i9 : ((9 : Int32) + p).toInt = ((9 + k : Nat) : Int) := by rw [t_add, ek, show Int32.toInt 9 = 9 from rfl]; omega
  have h01 := (hv.2.2.1 k hk).2.2.2.2.2.2.2.2
  refine wp_bd (wp_mono (rem9 h hv hh) ?_)
  rintro _ m5 ⟨w1, w2⟩
  have e6 := (w1.2.2.1 k hk).2.2.2.2.2
  have ev : ((1 : Int32) - m5.1 74 (9 + k)).toInt = 1 - ν 11 k := by rw [t_sub, e6, show Int32.toInt 1 = 1 from rfl]; omega
  refine wp_rd (9 + k) i9 (by omega) (wp_wr (9 + k) i9 (by omega) (wp_rd (9 + k) i9 (by omega) (wp_ret (Or.inr ⟨hin, ?_, ?_, RPI_keep w2 ?_ ?_ ?_⟩))))
  · rw [wi_self, ev, tk]
  · unfold flN
    rw [tk]
    have g := RN_fl (g := fun x => if x = k then 1 - ν 11 k else ν 11 x) w1 hv (m := ax_wi m5 74 (9 + k) (1 - m5.1 74 (9 + k))) (fun a ha => wi_ne ha) (fun j hj => wi_other (by omega)) (fun x hx => by
      by_cases ex : x = k
      · rw [ex, wi_self, ev]; simp
      · rw [wi_other (by omega), if_neg ex]; exact (w1.2.2.1 x hx).2.2.2.2.2)
    have e2 : fl ν (fun x => if x = k then 1 - ν 11 k else ν 11 x) = up ν 11 k (1 - ν 11 k) := by
      funext a x
      show (if a = 11 then (if x = k then 1 - ν 11 k else ν 11 x) else ν a x) = if a = 11 ∧ x = k then 1 - ν 11 k else ν a x
      by_cases ea : a = 11
      · subst ea
        by_cases ex : x = k
        · rw [if_pos rfl, if_pos ex, if_pos ⟨rfl, ex⟩]
        · rw [if_pos rfl, if_neg ex, if_neg (fun g => ex g.2)]
      · rw [if_neg ea, if_neg (fun g => ea g.1)]
    rw [e2] at g
    exact g
  · rw [wi_ne (by omega)]
  · rw [wi_ne (by omega)]
  · rw [wi_ne (by omega)]
theorem sX9_move (h0 : RS μ ν H c b I) (hv : Vd ν) (hh : HV ν H c b I) (p n : Int32) : Wp (fX9_move p n μ) (fun r m => Chg (mvOk ν p.toInt n.toInt) 0 1 ν (mv ν p.toInt.toNat n.toInt) (fun ν H c => RS m ν H c b I) H c r.toInt) := by
  have z1 : Int32.toInt (-999) = -999 := rfl
  have z9 : Int32.toInt 999 = 999 := rfl
  have h := RS_z h0
  have no : ¬ mvOk ν p.toInt n.toInt → Wp (some ((0 : Int32), ax_wi μ 57 0 0)) (fun r m => Chg (mvOk ν p.toInt n.toInt) 0 1 ν (mv ν p.toInt.toNat n.toInt) (fun ν H c => RS m ν H c b I) H c r.toInt) := fun g => wp_ret (Or.inl ⟨g, rfl, h⟩)
  unfold fX9_move fX9_move_K36
  refine wp_let (wp_rdf (sX9_isCell h.1 p) (fun r e => wp_if (fun c1 => no (fun g => not_of e c1 g.1)) (fun c1 => wp_if (fun c2 => no ?_) (fun c2 => wp_if (fun c3 => no ?_) (fun c3 => ?_)))))
  · rw [t_lt, z1] at c2; exact fun g => by have := g.2.1; omega
  · rw [t_lt, z9] at c3; exact fun g => by have := g.2.2.1; omega
  · rw [t_lt, z1] at c2
    rw [t_lt, z9] at c3
    clear z1
    have hin := yes_of e c1
    obtain ⟨k, hk, ek⟩ := in_nat (N := nC ν) hin rfl
    have tk : p.toInt.toNat = k := by rw [ek]; rfl
    refine wp_bd (wp_mono (sX9_canMove h.1 hv p n k ek (by omega) (by omega)) ?_)
    rintro v4 m5 ⟨rfl, h4⟩
    rcases h4 with ⟨h4, hc⟩ | ⟨h4, hc⟩
    · rw [if_neg (fun g => by have := q0.mp g; omega)]
      have hok : mvOk ν p.toInt n.toInt := ⟨hin, by omega, by omega, by rw [tk]; exact hc⟩
      refine wp_bd (wp_mono (rem9 h hv hh) ?_)
      rintro _ m7 ⟨w1, w2⟩
      refine wp_bd (wp_mono (wp_keep (sX9_moves w1 hv (fun q hq => by have := hv.2.2.2.1 q hq; omega) p n k ek (by omega) (by omega)) (kf_X9_moves p n m7)) ?_)
      rintro _ m9 ⟨w5, w6⟩
      refine wp_ret (Or.inr ⟨hok, rfl, by rw [tk]; exact w5, RPI_keep w2 ?_ ?_ (w6 75 (by decide)).1⟩)
      · rw [(w6 57 (by decide)).1]
      · rw [(w6 57 (by decide)).1]
    · rw [if_pos (q0.mpr h4)]
      exact no (fun g => hc (by have := g.2.2.2; rw [tk] at this; exact this))
/-! undo, keep, back -/
def Und (ν : Nv) (S : Nv → (Nat → Nv) → Nat → Prop) (H : Nat → Nv) (c : Nat) (r : Int) : Prop := (c = 0 ∧ r = -1 ∧ S ν H 0) ∨ ∃ d, c = d + 1 ∧ r = (d : Int) ∧ S (H d) H d
theorem sX8_undo (h : CS μ ν H c b I) (hh : HV ν H c b I) : Wp (fX8_undo μ) (fun r m => Und ν (fun ν H c => CS m ν H c b I) H c r.toInt) := by
  have n3 : (μ.1 29 3).toInt = (c : Int) := by
    obtain ⟨nxt, n1, n2, n3, -⟩ := h.2.2.2
    exact n3
  unfold fX8_undo
  refine wp_if (fun c1 => ?_) (fun c1 => ?_)
  · rw [q0, n3] at c1
    have ec : c = 0 := by omega
    subst ec
    exact wp_ret (Or.inl ⟨rfl, rfl, h⟩)
  · rw [q0, n3] at c1
    obtain ⟨d, rfl⟩ : ∃ d, c = d + 1 := ⟨c - 1, by omega⟩
    refine wp_bd (wp_mono (sX2_pop h.1 h.2.2.2 hh) ?_)
    rintro _ m2 ⟨w1, w2⟩
    refine wp_bd (wp_mono (sX8_forgetAnswers (μ := m2)) ?_)
    rintro _ m4 ⟨g1, g2, g3⟩
    have w2b := CPI_keep w2 (g3 29 (by omega) (by omega)) (g3 30 (by omega) (by omega)) (g3 31 (by omega) (by omega))
    refine wp_ret (Or.inr ⟨d, rfl, ?_, cs_new (CN_keep w1 (fun a h1 h2 => g3 a (by omega) (by omega))) w2b g1 g2⟩)
    obtain ⟨nxt, -, -, n5, -⟩ := w2b
    exact n5
theorem sX9_undo (h0 : RS μ ν H c b I) (hh : HV ν H c b I) : Wp (fX9_undo μ) (fun r m => Und ν (fun ν H c => RS m ν H c b I) H c r.toInt) := by
  have h := RS_z h0
  obtain ⟨n1, n2, n3, n4⟩ := id h.2
  obtain ⟨v1, v2, v3⟩ := id hh
  unfold fX9_undo
  refine wp_let (wp_if (fun c1 => ?_) (fun c1 => wp_let ?_))
  · rw [q0, n1] at c1
    have ec : c = 0 := by omega
    subst ec
    exact wp_ret (Or.inl ⟨rfl, rfl, h⟩)
  · rw [q0, n1] at c1
    obtain ⟨d, rfl⟩ : ∃ d, c = d + 1 := ⟨c - 1, by omega⟩
    have e30 : ((ax_wi (ax_wi μ 57 0 0) 57 30 ((ax_wi μ 57 0 0).1 57 30 - 1)).1 57 30).toInt = (d : Int) := by
      rw [wi_self, t_sub, n1, show Int32.toInt 1 = 1 from rfl]; omega
    have k := v2 d (by omega)
    have hm2 : RN (ax_wi (ax_wi μ 57 0 0) 57 30 ((ax_wi μ 57 0 0).1 57 30 - 1)) ν := RN_wi57 h.1
    have hK : ∀ j, j < d + 1 → KR (ax_wi (ax_wi μ 57 0 0) 57 30 ((ax_wi μ 57 0 0).1 57 30 - 1)) j (H j) := fun j hj => KR_keep (v2 j hj).1 (n3 j hj) (fun x _ => by rw [wi_ne (by omega)])
    have hI : b = true → KR (ax_wi (ax_wi μ 57 0 0) 57 30 ((ax_wi μ 57 0 0).1 57 30 - 1)) 20 I := fun hb => KR_keep (v3 hb).1 (n4 hb) (fun x _ => by rw [wi_ne (by omega)])
    have e31 : ((ax_wi (ax_wi μ 57 0 0) 57 30 ((ax_wi μ 57 0 0).1 57 30 - 1)).1 57 31).toInt = if b = true then 1 else 0 := by rw [wi_other (by omega)]; exact n2
    generalize ax_wi (ax_wi μ 57 0 0) 57 30 ((ax_wi μ 57 0 0).1 57 30 - 1) = m2 at e30 hm2 hK hI e31 ⊢
    refine wp_bd (wp_mono (sX9_laysBack _ d e30 (by omega)) ?_)
    rintro _ m4 ⟨w1, w2⟩
    refine wp_ret (Or.inr ⟨d, rfl, by rw [w1 57 (by omega)]; exact e30, RN_of hm2 k.2 k.1 (hK d (by omega)) w1 w2, by rw [w1 57 (by omega)]; exact e30, by rw [w1 57 (by omega)]; exact e31, fun j hj => KR_keep (v2 j (by omega)).1 (hK j (by omega)) (fun x _ => by rw [w1 75 (by omega)]), fun hb => KR_keep (v3 hb).1 (hI hb) (fun x _ => by rw [w1 75 (by omega)])⟩)
theorem LIn_keep {m : ax_M} (h : LIn μ ν) (h1 : m.1 41 = μ.1 41) (h2 : m.1 45 = μ.1 45) (h3 : m.2 41 = μ.2 41) : LIn m ν := by
  unfold LIn LOk at *
  rw [h1, h2, h3]
  exact h
theorem TIn_keep {m : ax_M} (h : TIn μ ν) (h1 : m.1 32 = μ.1 32) (h2 : m.1 33 = μ.1 33) (h3 : m.1 35 = μ.1 35) (h4 : m.1 36 = μ.1 36) : TIn m ν := by
  unfold TIn TOk at *
  rw [h1, h2, h3, h4]
  exact h
theorem sX8_keep (h : CS μ ν H c b I) (hv : Vd ν) (hh : HV ν H c b I) : Wp (fX8_keep μ) (fun r m => r.toInt = ν 0 3 ∧ CS m ν H c true ν) := by
  unfold fX8_keep fX2_keepImage
  refine wp_bd (wp_bd (wp_mono (wp_keep (sX1_writeTo_1 h.1 hv 0 0 rfl (by omega)) (kf_X1_writeTo_1 0 μ)) ?_))
  rintro _ m2 ⟨⟨w1, w2, w3⟩, w4⟩
  obtain ⟨nxt, n1, n2, n3, n4, n5, n6⟩ := h.2.2.2
  have hm : CN (ax_wi m2 29 4 1) ν := CN_wi (CN_keep h.1 (fun a h1 h2 => w2 a (by omega))) (by omega)
  have kx : ∀ a, a ≠ 29 → a ≠ 31 → (ax_wi m2 29 4 1).1 a = μ.1 a := fun a h1 h2 => by rw [wi_ne h1]; exact w2 a h2
  refine wp_let (wp_ret (wp_ret ⟨?_, hm, ?_, ?_, nxt, n1, ?_, ?_, ?_, fun j hj => ?_, fun _ => ?_⟩))
  · exact hm.1.2.2.2.1
  · rcases h.2.1 with g | ⟨g1, g2⟩
    · exact Or.inl (by rw [kx 32 (by omega) (by omega)]; exact g)
    · exact Or.inr ⟨by rw [kx 32 (by omega) (by omega)]; exact g1, TOk_keep g2 (by rw [kx 32 (by omega) (by omega)]) (kx 35 (by omega) (by omega)) (kx 36 (by omega) (by omega)) (kx 33 (by omega) (by omega))⟩
  · exact LIn_keep h.2.2.1 (kx 41 (by omega) (by omega)) (kx 45 (by omega) (by omega)) (w4 41 (by decide)).2
  · rw [wi_other (by omega), w2 29 (by omega)]; exact n2
  · rw [wi_other (by omega), w2 29 (by omega)]; exact n3
  · rw [wi_self]; rfl
  · exact HR_keep (hh.2.1 j hj).1 (n5 j hj) (fun x _ _ => by rw [kx 30 (by omega) (by omega)])
  · exact HR_keep hv w1 (fun x _ _ => by rw [wi_ne (by omega)])
theorem sX9_keep (h0 : RS μ ν H c b I) (hv : Vd ν) (hh : HV ν H c b I) : Wp (fX9_keep μ) (fun r m => r.toInt = ν 0 3 ∧ RS m ν H c true ν) := by
  have h := RS_z h0
  obtain ⟨n1, n2, n3, n4⟩ := id h.2
  unfold fX9_keep
  refine wp_let (wp_bd (wp_mono (sX9_lays 20 20 rfl (by omega)) ?_))
  rintro _ m3 ⟨w1, w2, w3⟩
  have hm3 : RN m3 ν := RN_keep h.1 (fun a h1 h2 => w1 a (by omega))
  have hm4 : RN (ax_wi m3 57 31 1) ν := RN_wi57 hm3
  refine wp_let (wp_rd 0 rfl (by omega) (wp_ret ⟨hm4.1.2.2.2.1, hm4, ?_, by rw [wi_self]; rfl, fun j hj => ?_, fun _ => ?_⟩))
  · rw [wi_other (by omega), w1 57 (by omega)]; exact n1
  · refine KR_keep (hh.2.1 j hj).1 (n3 j hj) (fun x hx => ?_)
    have := hh.1
    rw [wi_ne (by omega)]
    exact w3 _ (by omega)
  · exact KR_keep hv (KR_of h.1 hv w2) (fun x _ => by rw [wi_ne (by omega)])
def Bck (ν : Nv) (S : Nv → Nat → Prop) (c : Nat) (b : Bool) (I : Nv) (r : Int) : Prop := (b = false ∧ r = -1 ∧ S ν c) ∨ (b = true ∧ r = I 0 3 ∧ S I 0)
theorem sX8_back (h : CS μ ν H c b I) (hh : HV ν H c b I) : Wp (fX8_back μ) (fun r m => Bck ν (fun ν c => CS m ν H c b I) c b I r.toInt) := by
  obtain ⟨nxt, n1, n2, n3, n4, n5, n6⟩ := id h.2.2.2
  unfold fX8_back
  refine wp_if (fun c1 => wp_ret (Or.inl ⟨?_, rfl, h⟩)) (fun c1 => ?_)
  · rw [q0, n4] at c1
    cases hb : b with
    | false => rfl
    | true => rw [hb] at c1; exact absurd c1 (by decide)
  · have hb : b = true := by
      cases hb : b with
      | true => rfl
      | false => rw [hb] at n4; exact absurd (q0.mpr n4) c1
    have k := hh.2.2 hb
    unfold fX2_restoreImage fX2_forgetAll
    refine wp_bd (wp_bd (wp_mono (wp_keep (sX1_readFrom_1 h.1 k.2 k.1 0 0 rfl (by omega) (n6 hb)) (kf_X1_readFrom_1 0 μ)) ?_))
    rintro _ m2 ⟨w1, w2⟩
    refine wp_ret (wp_bd (wp_let (wp_ret (wp_bd (wp_mono (sX8_forgetAnswers (μ := ax_wi m2 29 3 0)) ?_)))))
    rintro _ m6 ⟨g1, g2, g3⟩
    have hm6 : CN m6 I := CN_keep (CN_wi w1 (show 15 ≤ 29 by omega)) (fun a h1 h2 => g3 a (by omega) (by omega))
    refine wp_ret (Or.inr ⟨hb, hm6.1.2.2.2.1, cs_new hm6 ⟨nxt, n1, ?_, ?_, ?_, fun j hj => by omega, fun _ => ?_⟩ g1 g2⟩)
    · rw [g3 29 (by omega) (by omega), wi_other (by omega), (w2 29 (by decide)).1]; exact n2
    · rw [g3 29 (by omega) (by omega), wi_self]; rfl
    · rw [g3 29 (by omega) (by omega), wi_other (by omega), (w2 29 (by decide)).1]; exact n4
    · exact HR_keep k.1 (n6 hb) (fun x _ _ => by rw [g3 31 (by omega) (by omega), wi_ne (by omega), (w2 31 (by decide)).1])
theorem sX9_back (h0 : RS μ ν H c b I) (hh : HV ν H c b I) : Wp (fX9_back μ) (fun r m => Bck ν (fun ν c => RS m ν H c b I) c b I r.toInt) := by
  have h := RS_z h0
  obtain ⟨n1, n2, n3, n4⟩ := id h.2
  unfold fX9_back
  refine wp_let (wp_if (fun c1 => wp_ret (Or.inl ⟨?_, rfl, h⟩)) (fun c1 => ?_))
  · rw [q0, n2] at c1
    cases hb : b with
    | false => rfl
    | true => rw [hb] at c1; exact absurd c1 (by decide)
  · have hb : b = true := by
      cases hb : b with
      | true => rfl
      | false => rw [hb] at n2; exact absurd (q0.mpr n2) c1
    have k := hh.2.2 hb
    refine wp_bd (wp_mono (sX9_laysBack 20 20 rfl (by omega)) ?_)
    rintro _ m3 ⟨w1, w2⟩
    have hm3 : RN m3 I := RN_of h.1 k.2 k.1 (n4 hb) w1 w2
    have hm4 : RN (ax_wi m3 57 30 0) I := RN_wi57 hm3
    refine wp_let (wp_rd 0 rfl (by omega) (wp_ret (Or.inr ⟨hb, hm4.1.2.2.2.1, hm4, by rw [wi_self]; rfl, ?_, fun j hj => by omega, fun hb => ?_⟩)))
    · rw [wi_other (by omega), w1 57 (by omega)]; exact n2
    · exact KR_keep k.1 (n4 hb) (fun x _ => by rw [wi_ne (by omega), w1 75 (by omega)])
end CHQ
