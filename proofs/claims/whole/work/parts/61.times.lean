/-! leaves, comes, room, which, good, near, nearest, from: both sides -/
theorem b_or : ∀ c, c < 10 → ∀ b, b < 1024 → b < 2 ^ c → (Int32.ofNat b ||| ((1 : Int32) <<< (Int32.ofNat c &&& 31))) = Int32.ofNat (b + 2 ^ c) := by decide +kernel
theorem or0 (a : Int32) : a ||| 0 = a := Int32.toBitVec_inj.mp (by simp)
def lvv (ν : Nv) (p : Int) : Int := if 0 ≤ p ∧ p < ν 0 1 then (if bd ν (ν 0 3) = true then LL ν (ν 0 3) p.toNat else -2) else -1
def cmv (ν : Nv) (p : Int) : Int := if (0 ≤ p ∧ p < ν 0 1) ∧ bd ν (ν 0 3) = true then CC ν (ν 0 3) p.toNat else -9223372036854775808
def rm (ν : Nv) (c : Nat) : Int := Lm ν (ν 0 3) c - (if Fb ν c = true then CC ν (ν 0 3) c else LL ν (ν 0 3) c)
def rmv (ν : Nv) (p : Int) : Int := if (0 ≤ p ∧ p < ν 0 1) ∧ bd ν (ν 0 3) = true then rm ν p.toNat else -9223372036854775808
def vv (ν : Nv) (p : Nat) : Int := LL ν (ν 0 3) (Fr ν p) + Wt ν (ν 0 3) p
def nr (ν : Nv) (p : Nat) : Int := Lm ν (ν 0 3) (To ν p) - (if Fb ν (To ν p) = true then vv ν p else if vv ν p < 0 then 0 else vv ν p)
def nrv (ν : Nv) (p : Int) : Int := if (0 ≤ p ∧ p < ν 0 2) ∧ bd ν (ν 0 3) = true then nr ν p.toNat else -9223372036854775808
def bor (ν : Nv) (c : Nat) : Bool := decide (0 < LL ν (ν 0 3) c)
def unm (ν : Nv) (c : Nat) : Bool := decide (rm ν c < 0)
def whv (ν : Nv) (w : Int) : Int := if 0 ≤ w ∧ w ≤ 1 then (if bd ν (ν 0 3) = true then (bt (if w = 0 then bor ν else unm ν) (nC ν) : Nat) else -2) else -1
def gdv (ν : Nv) : Int := if bd ν (ν 0 3) = true then (if gd ν (ν 0 3) = true then 2 else 1) else 0
section TMS
variable {μ : ax_M} {ν : Nv}
theorem bt_10 (f : Nat → Bool) {n : Nat} (hn : n ≤ 10) : bt f n < 1024 := Nat.lt_of_lt_of_le (bt_lt f n) (Nat.pow_le_pow_right (by omega) hn)
theorem lp_bits {α : Type} {Q : α → ax_M → Prop} {B : (Int32 → Int32 → ax_M → Option (α × ax_M)) → Int32 → Int32 → ax_M → Option (α × ax_M)} (N : Nat) (f : Nat → Bool) (hN : N ≤ 10)
    (hstep : ∀ (rc : Int32 → Int32 → ax_M → Option (α × ax_M)) (a l : Int32) (i : Nat), l.toInt = (i : Int) → i < N → (∀ a2 l2 : Int32, a2 = (if f i = true then a ||| ((1 : Int32) <<< (l &&& 31)) else a) → l2.toInt = ((i + 1 : Nat) : Int) → Wp (rc a2 l2 μ) Q) → Wp (B rc a l μ) Q)
    (hend : ∀ (rc : Int32 → Int32 → ax_M → Option (α × ax_M)) (a l : Int32), l.toInt = (N : Int) → a = Int32.ofNat (bt f N) → Wp (B rc a l μ) Q) : Wp (ax_lp2 B ax_FU 0 0 μ) Q := by
  refine wp_lp2 (fun k (a l : Int32) m => m = μ ∧ ∃ i : Nat, l.toInt = (i : Int) ∧ i ≤ N ∧ k = N - i ∧ a = Int32.ofNat (bt f i)) ax_FU ?_ N (by unfold ax_FU; omega) ⟨rfl, 0, rfl, by omega, rfl, rfl⟩
  rintro k rc hrc a l m ⟨rfl, i, hl, hi, hk, ha⟩
  by_cases hiN : i = N
  · subst hiN
    exact hend rc a l hl ha
  · refine hstep rc a l i hl (by omega) (fun a2 l2 h1 h2 => hrc (N - (i + 1)) a2 l2 m (by omega) ⟨rfl, i + 1, h2, by omega, rfl, ?_⟩)
    rw [h1, ha]
    simp only [bt]
    split
    · rw [i_nat hl, b_or i (by omega) _ (bt_10 f (by omega)) (bt_lt f i)]
    · rfl
theorem bt_toInt (f : Nat → Bool) {n : Nat} (hn : n ≤ 10) : (Int32.ofNat (bt f n)).toInt = (bt f n : Nat) := nat_toInt (by have := bt_10 f hn; omega)
theorem isF (h : CN μ ν) (hv : Vd ν) (ht : TIn μ ν) {α : Type} {Q : α → ax_M → Prop} {f : Int32 → ax_M → Option (α × ax_M)} (h1 : ∀ r m, r = 0 → bd ν (ν 0 3) = true → CN m ν → TOk m ν → TIn m ν → Wp (f r m) Q) (h2 : ∀ r m, ¬ r = 0 → bd ν (ν 0 3) = false → CN m ν → TIn m ν → Wp (f r m) Q) : Wp (ax_bd (fX5_isForever μ) f) Q := by
  refine wp_bd (wp_mono (sX5_isForever h hv ht) ?_)
  rintro r m ⟨a, b, c, d⟩
  cases e : bd ν (ν 0 3) with
  | true =>
    rw [e, if_pos rfl] at d
    exact h1 r m (q0.mpr d) e a b (Or.inr ⟨c, b⟩)
  | false =>
    rw [e] at d
    have d : r.toInt = 1 := d
    exact h2 r m (fun h => by have := q0.mp h; omega) e a (Or.inr ⟨c, b⟩)
theorem setS (h0 : RN μ ν) (hv : Vd ν) {α : Type} {Q : α → ax_M → Prop} {f : Unit → ax_M → Option (α × ax_M)} (h1 : ∀ r m, m.1 57 35 = 0 → bd ν (ν 0 3) = true → RN m ν → (∀ c, c < nC ν → (m.2 76 c).toInt = LL ν (ν 0 3) c ∧ (m.2 77 c).toInt = CC ν (ν 0 3) c) → Wp (f r m) Q) (h2 : ∀ r m, ¬ m.1 57 35 = 0 → bd ν (ν 0 3) = false → RN m ν → Wp (f r m) Q) : Wp (ax_bd (fX9_settles μ) f) Q := by
  refine wp_bd (wp_mono (sX9_settles h0 hv) ?_)
  rintro r m ⟨a, b⟩
  rcases b with ⟨b1, b2⟩ | ⟨b1, b2, b3⟩
  · exact h2 r m (fun h => by have := q0.mp h; omega) b2 a
  · exact h1 r m (q0.mpr b1) b2 a b3
theorem tok_get (ht : TOk μ ν) (hb : bd ν (ν 0 3) = true) : (∀ c, c < nC ν → (μ.1 35 c).toInt = LL ν (ν 0 3) c) ∧ (∀ c, c < nC ν → (μ.1 36 c).toInt = CC ν (ν 0 3) c) ∧ ∀ p, p < nP ν → (μ.1 33 p).toInt = Wt ν (ν 0 3) p := by
  rcases ht with ⟨-, b⟩ | ⟨-, -, h⟩
  · rw [hb] at b; cases b
  · exact h
theorem sX8_leaves (h : CN μ ν) (hv : Vd ν) (ht : TIn μ ν) (p : Int32) : Wp (fX8_leaves p μ) (fun r m => r.toInt = lvv ν p.toInt ∧ CN m ν ∧ TIn m ν) := by
  unfold fX8_leaves fX8_leaves_K41
  refine wp_rdf (sX1_hasCell h p) (fun r e => wp_if (fun c => wp_ret ⟨?_, h, ht⟩) (fun c => ?_))
  · unfold lvv; rw [if_neg (not_of e c)]; rfl
  · have hin := yes_of e c
    obtain ⟨k, hk, ek⟩ := in_nat (N := nC ν) hin rfl
    refine isF h hv ht (fun r m hr hb hm hT hI => ?_) (fun r m hr hb hm hI => ?_)
    · rw [if_pos hr]
      refine wp_rd k ek (vd_cell hv k hk).1 (wp_ret ⟨?_, hm, hI⟩)
      rw [t_64, (tok_get hT hb).1 k hk]
      unfold lvv; rw [if_pos hin, if_pos hb, ek, tn]
    · rw [if_neg hr]
      refine wp_ret ⟨?_, hm, hI⟩
      unfold lvv; rw [if_pos hin, hb]; rfl
theorem sX9_leaves (h0 : RN μ ν) (hv : Vd ν) (p : Int32) : Wp (fX9_leaves p μ) (fun r m => r.toInt = lvv ν p.toInt ∧ RN m ν) := by
  have h : RN (ax_wi μ 57 0 0) ν := RN_wi57 h0
  unfold fX9_leaves fX9_leaves_K40
  refine wp_let (wp_rdf (sX9_isCell h p) (fun r e => wp_if (fun c => wp_ret ⟨?_, h⟩) (fun c => ?_)))
  · unfold lvv; rw [if_neg (not_of e c)]; rfl
  · have hin := yes_of e c
    obtain ⟨k, hk, ek⟩ := in_nat (N := nC ν) hin rfl
    refine setS h hv (fun r m hr hb hm hL => ?_) (fun r m hr hb hm => ?_)
    · rw [if_pos hr]
      refine wp_rl k ek (vd_cell hv k hk).1 (wp_ret ⟨?_, hm⟩)
      rw [(hL k hk).1]
      unfold lvv; rw [if_pos hin, if_pos hb, ek, tn]
    · rw [if_neg hr]
      refine wp_ret ⟨?_, hm⟩
      unfold lvv; rw [if_pos hin, hb]; rfl
theorem sX8_comes (h : CN μ ν) (hv : Vd ν) (ht : TIn μ ν) (p : Int32) : Wp (fX8_comes p μ) (fun r m => r.toInt = cmv ν p.toInt ∧ CN m ν ∧ TIn m ν) := by
  unfold fX8_comes fX8_comes_K21
  refine wp_rdf (sX1_hasCell h p) (fun r e => wp_if (fun c => wp_ret ⟨?_, h, ht⟩) (fun c => ?_))
  · unfold cmv; rw [if_neg (fun g => not_of e c g.1)]; rfl
  · have hin := yes_of e c
    obtain ⟨k, hk, ek⟩ := in_nat (N := nC ν) hin rfl
    refine isF h hv ht (fun r m hr hb hm hT hI => ?_) (fun r m hr hb hm hI => ?_)
    · rw [if_pos hr]
      refine wp_rd k ek (vd_cell hv k hk).1 (wp_ret ⟨?_, hm, hI⟩)
      rw [t_64, (tok_get hT hb).2.1 k hk]
      unfold cmv; rw [if_pos ⟨hin, hb⟩, ek, tn]
    · rw [if_neg hr]
      refine wp_ret ⟨?_, hm, hI⟩
      unfold cmv; rw [if_neg (fun g => by have := g.2; rw [hb] at this; cases this)]; rfl
theorem sX9_comes (h0 : RN μ ν) (hv : Vd ν) (p : Int32) : Wp (fX9_comes p μ) (fun r m => r.toInt = cmv ν p.toInt ∧ RN m ν) := by
  have h : RN (ax_wi μ 57 0 0) ν := RN_wi57 h0
  unfold fX9_comes fX9_comes_K40
  refine wp_let (wp_rdf (sX9_isCell h p) (fun r e => wp_if (fun c => wp_ret ⟨?_, h⟩) (fun c => ?_)))
  · unfold cmv; rw [if_neg (fun g => not_of e c g.1)]; rfl
  · have hin := yes_of e c
    obtain ⟨k, hk, ek⟩ := in_nat (N := nC ν) hin rfl
    refine setS h hv (fun r m hr hb hm hL => ?_) (fun r m hr hb hm => ?_)
    · rw [if_pos hr]
      refine wp_rl k ek (vd_cell hv k hk).1 (wp_ret ⟨?_, hm⟩)
      rw [(hL k hk).2]
      unfold cmv; rw [if_pos ⟨hin, hb⟩, ek, tn]
    · rw [if_neg hr]
      refine wp_ret ⟨?_, hm⟩
      unfold cmv; rw [if_neg (fun g => by have := g.2; rw [hb] at this; cases this)]; rfl
theorem sX8_room (h : CN μ ν) (hv : Vd ν) (ht : TIn μ ν) (p : Int32) : Wp (fX8_room p μ) (fun r m => r.toInt = rmv ν p.toInt ∧ CN m ν ∧ TIn m ν) := by
  unfold fX8_room fX8_room_K21
  refine wp_rdf (sX1_hasCell h p) (fun r e => wp_if (fun c => wp_ret ⟨?_, h, ht⟩) (fun c => ?_))
  · unfold rmv; rw [if_neg (fun g => not_of e c g.1)]; rfl
  · have hin := yes_of e c
    obtain ⟨k, hk, ek⟩ := in_nat (N := nC ν) hin rfl
    refine isF h hv ht (fun r m hr hb hm hT hI => ?_) (fun r m hr hb hm hI => ?_)
    · rw [if_pos hr]
      refine wp_rdf (sX5_roomOf hm hv hT hb p k ek hk) (fun r1 e1 => wp_ret ⟨?_, hm, hI⟩)
      rw [t_64, e1]
      have hh : (0 ≤ p.toInt ∧ p.toInt < ν 0 1) ∧ bd ν (ν 0 3) = true := ⟨hin, hb⟩
      unfold rmv; rw [if_pos hh, ek, tn]; rfl
    · rw [if_neg hr]
      refine wp_ret ⟨?_, hm, hI⟩
      unfold rmv; rw [if_neg (fun g => by have := g.2; rw [hb] at this; cases this)]; rfl
theorem lc_bd (hv : Vd ν) (c : Nat) (hc : c < nC ν) : (0 ≤ LL ν (ν 0 3) c ∧ LL ν (ν 0 3) c ≤ 766080) ∧ -700000 ≤ CC ν (ν 0 3) c ∧ CC ν (ν 0 3) c ≤ 900000 := by
  have h0 := hv.1
  exact ⟨ll_bd hv (by omega) (by omega) c, cc_bd hv (by omega) (by omega) c hc⟩
theorem sX9_room (h0 : RN μ ν) (hv : Vd ν) (p : Int32) : Wp (fX9_room p μ) (fun r m => r.toInt = rmv ν p.toInt ∧ RN m ν) := by
  have h : RN (ax_wi μ 57 0 0) ν := RN_wi57 h0
  unfold fX9_room fX9_room_K51
  refine wp_let (wp_rdf (sX9_isCell h p) (fun r e => wp_if (fun c => wp_ret ⟨?_, h⟩) (fun c => ?_)))
  · unfold rmv; rw [if_neg (fun g => not_of e c g.1)]; rfl
  · have hin := yes_of e c
    obtain ⟨k, hk, ek⟩ := in_nat (N := nC ν) hin rfl
    have b := lc_bd hv k hk
    refine setS h hv (fun r m hr hb hm hL => ?_) (fun r m hr hb hm => ?_)
    · rw [if_pos hr]
      have hLk := hL k hk
      refine wp_rl k ek (vd_cell hv k hk).1 (wp_rl k ek (vd_cell hv k hk).1 (wp_rd6f (sX9_roomOf hm hv p _ _ k ek hk (by omega) (by omega) (by omega) (by omega)) (fun r1 e1 => wp_ret ⟨?_, hm⟩)))
      rw [e1, hLk.1, hLk.2]
      have hh : (0 ≤ p.toInt ∧ p.toInt < ν 0 1) ∧ bd ν (ν 0 3) = true := ⟨hin, hb⟩
      unfold rmv; rw [if_pos hh, ek, tn]; rfl
    · rw [if_neg hr]
      refine wp_ret ⟨?_, hm⟩
      unfold rmv; rw [if_neg (fun g => by have := g.2; rw [hb] at this; cases this)]; rfl
theorem sX5_unmet (h : CN μ ν) (hv : Vd ν) (ht : TOk μ ν) (hb : bd ν (ν 0 3) = true) : Wp (fX5_unmet μ) (fun r m => m = μ ∧ r = Int32.ofNat (bt (unm ν) (nC ν))) := by
  have hn := vd_nums hv
  have hc := vd_cast hv
  have en : (μ.1 2 13).toInt = ν 0 1 := h.1.2.1
  refine lp_bits (nC ν) (unm ν) (by omega) (fun rc a l i hl hi hgo => ?_) (fun rc a l hl ha => ?_)
  · unfold fX5_unmet_B4 fX5_unmet_K31
    rw [if_neg (by rw [t_le, en, hl]; omega)]
    refine wp_rdf (sX5_roomOf h hv ht hb l i hl hi) (fun r e => wp_if (fun c => wp_let (hgo _ _ ?_ (inc hl (by omega)))) (fun c => wp_let (hgo _ _ ?_ (inc hl (by omega)))))
    · rw [t_le, e] at c
      have c : 0 ≤ rm ν i := c
      rw [if_neg (by unfold unm; simp; omega), or0]
    · rw [t_le, e] at c
      have c : ¬ 0 ≤ rm ν i := c
      rw [if_pos (by unfold unm; simp; omega)]
  · unfold fX5_unmet_B4
    rw [if_pos (by rw [t_le, en, hl]; omega)]
    exact wp_ret ⟨rfl, ha⟩
theorem sX5_borrowing (h : CN μ ν) (hv : Vd ν) (ht : TOk μ ν) (hb : bd ν (ν 0 3) = true) : Wp (fX5_borrowing μ) (fun r m => m = μ ∧ r = Int32.ofNat (bt (bor ν) (nC ν))) := by
  have hn := vd_nums hv
  have hc := vd_cast hv
  have en : (μ.1 2 13).toInt = ν 0 1 := h.1.2.1
  refine lp_bits (nC ν) (bor ν) (by omega) (fun rc a l i hl hi hgo => ?_) (fun rc a l hl ha => ?_)
  · unfold fX5_borrowing_B4 fX5_borrowing_K32
    rw [if_neg (by rw [t_le, en, hl]; omega)]
    have e := (tok_get ht hb).1 i hi
    refine wp_rd i hl (by omega) (wp_if (fun c => wp_let (hgo _ _ ?_ (inc hl (by omega)))) (fun c => wp_let (hgo _ _ ?_ (inc hl (by omega)))))
    · rw [t_le, e] at c
      have c : LL ν (ν 0 3) i ≤ 0 := c
      rw [if_neg (by unfold bor; simp; omega), or0]
    · rw [t_le, e] at c
      have c : ¬ LL ν (ν 0 3) i ≤ 0 := c
      rw [if_pos (by unfold bor; simp; omega)]
  · unfold fX5_borrowing_B4
    rw [if_pos (by rw [t_le, en, hl]; omega)]
    exact wp_ret ⟨rfl, ha⟩
theorem sX8_which (h : CN μ ν) (hv : Vd ν) (ht : TIn μ ν) (w : Int32) : Wp (fX8_which w μ) (fun r m => r.toInt = whv ν w.toInt ∧ CN m ν ∧ TIn m ν) := by
  have hn := vd_nums hv
  unfold fX8_which fX8_which_K9 fX8_which_K45
  refine wp_if (fun c => wp_ret ⟨?_, h, ht⟩) (fun c => wp_if (fun c2 => ?_) (fun c2 => wp_ret ⟨?_, h, ht⟩))
  · rw [t_lt] at c
    have c : w.toInt < 0 := c
    unfold whv; rw [if_neg (by omega)]; rfl
  · rw [t_lt] at c
    rw [t_le] at c2
    have c : ¬ w.toInt < 0 := c
    have c2 : w.toInt ≤ 1 := c2
    refine isF h hv ht (fun r m hr hb hm hT hI => ?_) (fun r m hr hb hm hI => ?_)
    · rw [if_pos hr]
      refine wp_if (fun c3 => ?_) (fun c3 => ?_)
      · refine wp_bd (wp_mono (sX5_borrowing hm hv hT hb) ?_)
        rintro r5 m6 ⟨rfl, hr5⟩
        refine wp_ret ⟨?_, hm, hI⟩
        rw [hr5, bt_toInt _ hn.2.1]
        unfold whv; rw [if_pos (by omega), if_pos hb, if_pos (q0.mp c3)]
      · refine wp_bd (wp_mono (sX5_unmet hm hv hT hb) ?_)
        rintro r5 m6 ⟨rfl, hr5⟩
        refine wp_ret ⟨?_, hm, hI⟩
        rw [hr5, bt_toInt _ hn.2.1]
        unfold whv; rw [if_pos (by omega), if_pos hb, if_neg (mt q0.mpr c3)]
    · rw [if_neg hr]
      refine wp_ret ⟨?_, hm, hI⟩
      unfold whv; rw [if_pos (by omega), hb]; rfl
  · rw [t_le] at c2
    have c2 : ¬ w.toInt ≤ 1 := c2
    unfold whv; rw [if_neg (by omega)]; rfl
theorem sX9_which (h0 : RN μ ν) (hv : Vd ν) (w : Int32) : Wp (fX9_which w μ) (fun r m => r.toInt = whv ν w.toInt ∧ RN m ν) := by
  have hn := vd_nums hv
  have hc := vd_cast hv
  have h : RN (ax_wi μ 57 0 0) ν := RN_wi57 h0
  unfold fX9_which fX9_which_K14
  refine wp_let (wp_if (fun c => wp_ret ⟨?_, h⟩) (fun c => wp_if (fun c2 => ?_) (fun c2 => wp_ret ⟨?_, h⟩)))
  · rw [t_lt] at c
    have c : w.toInt < 0 := c
    unfold whv; rw [if_neg (by omega)]; rfl
  · rw [t_lt] at c
    rw [t_le] at c2
    have c : ¬ w.toInt < 0 := c
    have c2 : w.toInt ≤ 1 := c2
    refine setS h hv (fun r m hr hb hm hL => ?_) (fun r m hr hb hm => ?_)
    · rw [if_pos hr]
      refine lp_bits (nC ν) (if w.toInt = 0 then bor ν else unm ν) (by omega) (fun rc a l i hl hi hgo => ?_) (fun rc a l hl ha => ?_)
      · unfold fX9_which_B34 fX9_which_K69 fX9_which_K100 fX9_which_K113
        have hLi := hL i hi
        have b := lc_bd hv i hi
        refine wp_rdf (sX9_cells hm) (fun r4 e4 => ?_)
        rw [if_neg (by rw [t_le, e4, hl]; omega)]
        refine wp_if (fun c3 => ?_) (fun c3 => ?_)
        · rw [if_pos (q0.mp c3)] at hgo
          refine wp_rdf (sX9_isFlop hm hv l i hl hi) (fun r13 e13 => wp_if (fun c4 => wp_rl i hl (by omega) (wp_if (fun c5 => ?_) (fun c5 => ?_))) (fun c4 => ?_))
          · rw [cmp_le, hLi.1] at c5
            have c5 : LL ν (ν 0 3) i ≤ 0 := c5
            rw [if_pos rfl]
            exact hgo _ _ (by rw [if_neg (by unfold bor; simp; omega)]) (inc hl (by omega))
          · rw [cmp_le, hLi.1] at c5
            have c5 : ¬ LL ν (ν 0 3) i ≤ 0 := c5
            rw [if_neg (by decide)]
            exact wp_let (hgo _ _ (by rw [if_pos (by unfold bor; simp; omega)]) (inc hl (by omega)))
          · have hf := yes_of e13 c4
            have hz : LL ν (ν 0 3) i = 0 := by rw [ll_cc hb i hi, if_pos hf]
            rw [if_pos rfl]
            exact hgo _ _ (by rw [if_neg (by unfold bor; simp; omega)]) (inc hl (by omega))
        · rw [if_neg (mt q0.mpr c3)] at hgo
          refine wp_rl i hl (by omega) (wp_rl i hl (by omega) (wp_rd6f (sX9_roomOf hm hv l _ _ i hl hi (by omega) (by omega) (by omega) (by omega)) (fun r8 e8 => wp_if (fun c5 => ?_) (fun c5 => ?_))))
          · rw [cmp_ge, e8, hLi.1, hLi.2] at c5
            have c5 : 0 ≤ rm ν i := c5
            rw [if_pos rfl]
            exact hgo _ _ (by rw [if_neg (by unfold unm; simp; omega)]) (inc hl (by omega))
          · rw [cmp_ge, e8, hLi.1, hLi.2] at c5
            have c5 : ¬ 0 ≤ rm ν i := c5
            rw [if_neg (by decide)]
            exact wp_let (hgo _ _ (by rw [if_pos (by unfold unm; simp; omega)]) (inc hl (by omega)))
      · unfold fX9_which_B34
        refine wp_rdf (sX9_cells hm) (fun r4 e4 => ?_)
        rw [if_pos (by rw [t_le, e4, hl]; omega)]
        refine wp_ret ⟨?_, hm⟩
        have hw : 0 ≤ w.toInt ∧ w.toInt ≤ 1 := ⟨by omega, c2⟩
        rw [ha, bt_toInt _ hn.2.1]
        unfold whv; rw [if_pos hw, if_pos hb]
    · rw [if_neg hr]
      refine wp_ret ⟨?_, hm⟩
      unfold whv; rw [if_pos (by omega), hb]; rfl
  · rw [t_le] at c2
    have c2 : ¬ w.toInt ≤ 1 := c2
    unfold whv; rw [if_neg (by omega)]; rfl
theorem bt_zero {f : Nat → Bool} {n : Nat} : bt f n = 0 ↔ ∀ c, c < n → f c = false := by
  induction n with
  | zero => exact ⟨fun _ c hc => by omega, fun _ => rfl⟩
  | succ n ih =>
    simp only [bt]
    have hp : 0 < 2 ^ n := Nat.two_pow_pos n
    constructor
    · intro h c hc
      by_cases e : f n = true
      · rw [if_pos e] at h; omega
      · rw [if_neg e] at h
        by_cases e2 : c = n
        · rw [e2]; simpa using e
        · exact ih.mp h c (by omega)
    · intro h
      rw [ih.mpr (fun c hc => h c (by omega)), if_neg (by rw [h n (by omega)]; decide)]
theorem unm_gd (hb : bd ν (ν 0 3) = true) : bt (unm ν) (nC ν) = 0 ↔ gd ν (ν 0 3) = true := by
  rw [bt_zero]
  unfold gd
  rw [hb, Bool.true_and, List.all_eq_true]
  constructor
  · intro h c hc
    have := h c (List.mem_range.mp hc)
    unfold unm at this
    refine decide_eq_true ?_
    have := of_decide_eq_false this
    unfold rm at this
    omega
  · intro h c hc
    have := of_decide_eq_true (h c (List.mem_range.mpr hc))
    unfold unm rm
    exact decide_eq_false (by omega)
theorem unm0 (hv : Vd ν) (hb : bd ν (ν 0 3) = true) : Int32.ofNat (bt (unm ν) (nC ν)) = 0 ↔ gd ν (ν 0 3) = true := by
  have hn := vd_nums hv
  rw [q0, bt_toInt _ hn.2.1, ← unm_gd hb]
  omega
theorem sX8_good (h : CN μ ν) (hv : Vd ν) (ht : TIn μ ν) : Wp (fX8_good μ) (fun r m => r.toInt = gdv ν ∧ CN m ν ∧ TIn m ν) := by
  unfold fX8_good fX8_good_K27
  refine isF h hv ht (fun r m hr hb hm hT hI => ?_) (fun r m hr hb hm hI => ?_)
  · rw [if_pos hr]
    refine wp_bd (wp_mono (sX5_unmet hm hv hT hb) ?_)
    rintro r3 m4 ⟨rfl, hr3⟩
    refine wp_if (fun c => wp_ret ⟨?_, hm, hI⟩) (fun c => wp_ret ⟨?_, hm, hI⟩)
    · rw [hr3, unm0 hv hb] at c
      unfold gdv; rw [if_pos hb, if_pos c]; rfl
    · rw [hr3, unm0 hv hb] at c
      unfold gdv; rw [if_pos hb, if_neg c]; rfl
  · rw [if_neg hr]
    refine wp_ret ⟨?_, hm, hI⟩
    unfold gdv; rw [hb]; rfl
theorem sX9_good (h0 : RN μ ν) (hv : Vd ν) : Wp (fX9_good μ) (fun r m => r.toInt = gdv ν ∧ RN m ν) := by
  have h : RN (ax_wi μ 57 0 0) ν := RN_wi57 h0
  unfold fX9_good fX9_good_K30
  refine wp_let (wp_bd (wp_mono (sX9_isGood h hv) ?_))
  rintro r m ⟨hm, hO, er⟩
  rcases hO with ⟨o1, o2⟩ | ⟨o1, o2, -⟩
  · rw [if_neg (fun h => by have := q0.mp h; omega)]
    refine wp_ret ⟨?_, hm⟩
    unfold gdv; rw [o2]; rfl
  · rw [if_pos (q0.mpr o1)]
    refine wp_if (fun c => wp_ret ⟨?_, hm⟩) (fun c => wp_ret ⟨?_, hm⟩)
    · unfold gdv; rw [if_pos o2, if_neg (not_of er c)]; rfl
    · unfold gdv; rw [if_pos o2, if_pos (yes_of er c)]; rfl
end TMS
