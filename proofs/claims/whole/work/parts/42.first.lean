/-! a good trial leaves the cut as it was -/
def Kr (S : List Nat) (t : Option (Int32 × ax_M)) (μ : ax_M) : Prop := ∀ r μ2, t = some (r, μ2) → r ≠ 0 → ∀ a, a ∉ S → μ2.1 a = μ.1 a
section KR
variable {α : Type} {S : List Nat} {μ : ax_M}
theorem kr_kp {t : Option (Int32 × ax_M)} (h : Kp S t μ) : Kr S t μ := fun r μ2 e _ a ha => (h r μ2 e a ha).1
theorem kr_zero {t : Option (α × ax_M)} : Kr S (ax_bd t (fun _ m => some (0, m))) μ := by
  intro r μ2 e hr
  cases t with
  | none => cases e
  | some q => cases e; exact absurd rfl hr
theorem kr_zero2 {β : Type} {t : Option (α × ax_M)} {g : ax_M → Option (β × ax_M)} : Kr S (ax_bd t (fun _ m => ax_bd (g m) (fun _ m => some (0, m)))) μ := by
  intro r μ2 e hr
  cases t with
  | none => cases e
  | some q =>
    have e : ax_bd (g q.2) (fun _ m => some (0, m)) = some (r, μ2) := e
    cases h : g q.2 with
    | none => rw [h] at e; cases e
    | some q2 => rw [h] at e; cases e; exact absurd rfl hr
theorem kr_if {c : Prop} [Decidable c] {t e : Option (Int32 × ax_M)} (h1 : Kr S t μ) (h2 : Kr S e μ) : Kr S (if c then t else e) μ := by
  split
  · exact h1
  · exact h2
theorem kr_bd {S2 : List Nat} {t : Option (α × ax_M)} {f : α → ax_M → Option (Int32 × ax_M)} (h : Kp S2 t μ) (hs : S2.all (fun a => S.elem a) = true) (hf : ∀ r m, Kr S (f r m) m) : Kr S (ax_bd t f) μ := by
  intro r μ2 e hr a ha
  cases ht : t with
  | none => rw [ht] at e; cases e
  | some q =>
    rw [ht] at e
    exact (hf q.1 q.2 r μ2 e hr a ha).trans (kp_sub h hs q.1 q.2 ht a ha).1
theorem kr_bind {γ : Type} {o : Option γ} {f : γ → Option (Int32 × ax_M)} (h : ∀ v, Kr S (f v) μ) : Kr S (Option.bind o f) μ := by
  cases o with
  | none => intro r μ2 e; cases e
  | some v => exact h v
theorem kr_let {γ : Type} {e : γ} {f : γ → Option (Int32 × ax_M)} (h : ∀ v, Kr S (f v) μ) : Kr S (ax_let e f) μ := h e
theorem kr_wr {i n : Nat} {x v : Int32} {f : ax_M → Option (Int32 × ax_M)} (hs : S.elem i = true) (h : ∀ m, Kr S (f m) m) : Kr S (Option.bind (ax_wr μ i n x v) f) μ := by
  unfold ax_wr
  split
  · intro r μ2 e hr a ha
    have hne : a ≠ i := fun h => ha (h ▸ List.elem_iff.mp hs)
    exact (h _ r μ2 e hr a ha).trans (wi_ne hne)
  · intro r μ2 e; cases e
theorem kr_lp1 {t0 : Type} {B : (t0 → ax_M → Option (Int32 × ax_M)) → t0 → ax_M → Option (Int32 × ax_M)} {n : Nat} {a0 : t0} (h : ∀ rc : t0 → ax_M → Option (Int32 × ax_M), (∀ a0 μ, Kr S (rc a0 μ) μ) → ∀ a0 μ, Kr S (B rc a0 μ) μ) : Kr S (ax_lp1 B n a0 μ) μ := rf_lp1 (P := fun _ μ t => Kr S t μ) (fun _ _ r μ2 e => by cases e) h n a0 μ
theorem kr_lp2 {t0 t1 : Type} {B : (t0 → t1 → ax_M → Option (Int32 × ax_M)) → t0 → t1 → ax_M → Option (Int32 × ax_M)} {n : Nat} {a0 : t0} {a1 : t1} (h : ∀ rc : t0 → t1 → ax_M → Option (Int32 × ax_M), (∀ a0 a1 μ, Kr S (rc a0 a1 μ) μ) → ∀ a0 a1 μ, Kr S (B rc a0 a1 μ) μ) : Kr S (ax_lp2 B n a0 a1 μ) μ := rf_lp2 (P := fun _ _ μ t => Kr S t μ) (fun _ _ _ r μ2 e => by cases e) h n a0 a1 μ
end KR
abbrev krS : List Nat := [52, 53, 54, 55]
theorem kr_begin (t : Int32) (μ : ax_M) : Kr krS (fX6_begin t μ) μ := by
  unfold fX6_begin
  refine kr_lp1 (fun rc hrc l m => ?_)
  unfold fX6_begin_B2
  refine kr_if (kr_lp1 (fun rc2 hrc2 l2 m2 => ?_)) (kr_bind (fun _ => kr_bind (fun _ => kr_wr rfl (fun _ => hrc _ _))))
  unfold fX6_begin_B42 fX6_begin_K113
  refine kr_if (kr_kp kp_ret) (kr_wr rfl (fun _ => kr_wr rfl (fun _ => kr_bd (kf_X1_limitOf _ _ _) rfl (fun _ _ => kr_wr rfl (fun _ => kr_bind (fun _ => kr_if (hrc2 _ _) (kr_bd (kf_X1_isFlop _ _) rfl (fun _ _ => kr_if kr_zero2 (hrc2 _ _)))))))))
theorem kr_holds (t : Int32) (μ : ax_M) : Kr krS (fX6_holds t μ) μ := by
  intro r μ2 e hr
  unfold fX6_holds at e
  cases h1 : fX6_begin t μ with
  | none => rw [h1] at e; cases e
  | some q =>
    rw [h1] at e
    have e : (if q.1 = 0 then some (0, q.2) else ax_lp2 fX6_holds_B14 ax_FU (-1) 0 q.2) = some (r, μ2) := e
    by_cases hq : q.1 = 0
    · rw [if_pos hq] at e; cases e; exact absurd rfl hr
    · rw [if_neg hq] at e
      have hb := kr_begin t μ q.1 q.2 h1 hq
      have hl : Kr krS (ax_lp2 fX6_holds_B14 ax_FU (-1) 0 q.2) q.2 := by
        refine kr_lp2 (fun rc hrc l2 l3 m => ?_)
        unfold fX6_holds_B14
        refine kr_if kr_zero (kr_lp2 (fun rc2 hrc2 l4 l5 m2 => ?_))
        unfold fX6_holds_B30 fX6_holds_K132
        refine kr_if (kr_if (kr_kp kp_ret) (hrc _ _ _)) (kr_bind (fun _ => kr_bind (fun _ => kr_bind (fun _ => kr_bind (fun _ => kr_let (fun _ => kr_bind (fun _ => kr_if (kr_bind (fun _ => kr_if (hrc2 _ _ _) (kr_wr rfl (fun _ => kr_wr rfl (fun _ => hrc2 _ _ _))))) kr_zero)))))))
      intro a ha
      exact (hl r μ2 e hr a ha).trans (hb a ha)
/-! division, rounded up -/
def cdiv (a b : Int) : Int := -((-a) / b)
theorem cdiv_le {a b t : Int} (hb : 0 < b) : cdiv a b ≤ t ↔ a ≤ t * b := by
  unfold cdiv
  rw [show (-(-a / b) ≤ t) ↔ (-t ≤ -a / b) by omega, Int.le_ediv_iff_mul_le hb, Int.neg_mul]
  omega
theorem x_sign (x y : Int32) : 0 ≤ (x ^^^ y).toInt ↔ (x.toInt < 0 ↔ y.toInt < 0) := by
  have h : (x ^^^ y).toBitVec.msb = (x.toBitVec.msb ^^ y.toBitVec.msb) := by rw [Int32.toBitVec_xor, BitVec.msb_xor]
  have hx : x.toBitVec.msb = decide (x.toInt < 0) := BitVec.msb_eq_toInt
  have hy : y.toBitVec.msb = decide (y.toInt < 0) := BitVec.msb_eq_toInt
  have hz : (x ^^^ y).toBitVec.msb = decide ((x ^^^ y).toInt < 0) := BitVec.msb_eq_toInt
  rw [hx, hy, hz] at h
  by_cases a : x.toInt < 0 <;> by_cases b : y.toInt < 0 <;> simp [a, b] at h <;> simp [a, b] <;> omega
theorem sJ9_floorDiv {μ : ax_M} (x y : Int32) (hy : 0 < y.toInt) (hx : -2147483648 < x.toInt) : Rd (fJ9_floorDiv_7cf53 x y μ) μ (x.toInt / y.toInt) := by
  have hx1 := t_lo x
  have hx2 := t_hi x
  have hy2 := t_hi y
  have hle : x.toInt.natAbs / y.toInt.natAbs ≤ x.toInt.natAbs := Nat.div_le_self _ _
  have htd : (x.toInt.tdiv y.toInt).natAbs ≤ x.toInt.natAbs := by rw [Int.natAbs_tdiv]; exact hle
  have hv : (x / y).toInt = x.toInt.tdiv y.toInt := by
    rw [Int32.toInt_div, t_bmod]
    omega
  have htt := Int.tdiv_eq_ediv (a := x.toInt) (b := y.toInt)
  have hsg : y.toInt.sign = 1 := Int.sign_eq_one_of_pos hy
  unfold fJ9_floorDiv_7cf53 fJ9_floorDiv_7cf53_K21 ax_dv
  rw [if_neg (by rw [t_eq]; simp only [Int32.reduceToInt]; omega)]
  refine rd_wp ?_
  show Wp (if 0 ≤ x ^^^ y then some (x / y, μ) else if x / y * y = x then some (x / y, μ) else some (x / y - 1, μ)) _
  refine wp_if (fun c => wp_ret ⟨?_, rfl⟩) (fun c => wp_if (fun c2 => wp_ret ⟨?_, rfl⟩) (fun c2 => wp_ret ⟨?_, rfl⟩))
  · rw [t_le] at c
    have c := (x_sign x y).mp c
    rw [hv, htt, if_pos (Or.inl (by omega))]
    omega
  · rw [t_le] at c
    have hneg : x.toInt < 0 := by
      have := mt (x_sign x y).mpr c
      omega
    have hdv : y.toInt ∣ x.toInt := by
      have h3 := congrArg Int32.toInt c2
      rw [t_mul, hv] at h3
      have h4 : x.toInt.tdiv y.toInt * y.toInt = x.toInt - x.toInt.tmod y.toInt := by have := Int.tmod_add_tdiv_mul x.toInt y.toInt; omega
      have h5 := Int.lt_tmod_of_pos x.toInt hy
      have h6 := Int.tmod_lt_of_pos x.toInt hy
      rw [h4] at h3
      have h7 : x.toInt.tmod y.toInt = 0 := by omega
      exact Int.dvd_of_tmod_eq_zero h7
    rw [hv, htt, if_pos (Or.inr hdv)]
    omega
  · rw [t_le] at c
    have hneg : x.toInt < 0 := by
      have := mt (x_sign x y).mpr c
      omega
    have hnd : ¬ y.toInt ∣ x.toInt := by
      intro hdv
      refine c2 (t_eq.mpr ?_)
      rw [t_mul, hv, Int.tdiv_mul_cancel hdv]
      omega
    rw [t_sub, hv, htt, if_neg (by rintro (h1 | h1); omega; exact hnd h1), hsg]
    simp only [Int32.reduceToInt]
    have h5 : x.toInt.tdiv y.toInt = x.toInt / y.toInt + 1 := by rw [htt, if_neg (by rintro (h1 | h1); omega; exact hnd h1), hsg]
    omega
theorem sX8_roundedUp {μ : ax_M} (a b : Int32) (ha : -2147483648 < a.toInt) : Rd (fX8_roundedUp a b μ) μ (cdiv a.toInt (if b.toInt < 1 then 1 else b.toInt)) := by
  have h1 := t_hi a
  have hmx := mx_toInt b 1
  simp only [Int32.reduceToInt] at hmx
  have hn : (-a).toInt = -a.toInt := by rw [t_neg]; omega
  unfold fX8_roundedUp
  have hp : 0 < (ax_mx b 1).toInt := by rw [hmx]; split <;> omega
  refine rd_wp (wp_rdf (sJ9_floorDiv (-a) (ax_mx b 1) hp (by omega)) (fun r e => wp_ret ⟨?_, rfl⟩))
  rw [hn, hmx] at e
  unfold cdiv
  rw [t_neg, e]
  have hb : 0 < (if b.toInt < 1 then (1 : Int) else b.toInt) := by split <;> omega
  have h2 : -2147483647 ≤ -a.toInt / (if b.toInt < 1 then (1 : Int) else b.toInt) := by
    rw [Int.le_ediv_iff_mul_le hb]
    have : -2147483647 * (if b.toInt < 1 then (1 : Int) else b.toInt) ≤ -2147483647 * 1 := Int.mul_le_mul_of_nonpos_left (by omega) (by omega)
    omega
  have h3 : -a.toInt / (if b.toInt < 1 then (1 : Int) else b.toInt) ≤ 2147483647 := by
    have : -a.toInt / (if b.toInt < 1 then (1 : Int) else b.toInt) < 2147483648 := by
      rw [Int.ediv_lt_iff_lt_mul hb]
      have : 2147483648 * 1 ≤ 2147483648 * (if b.toInt < 1 then (1 : Int) else b.toInt) := Int.mul_le_mul_of_nonneg_left (by omega) (by omega)
      omega
    omega
  omega
