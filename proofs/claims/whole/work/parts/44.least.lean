/-! the least period, both sides -/
def up (ν : Nv) (k i : Nat) (z : Int) : Nv := fun a b => if a = k ∧ b = i then z else ν a b
theorem up_self (ν : Nv) (k i : Nat) : up ν k i (ν k i) = ν := by
  funext a b
  show (if a = k ∧ b = i then ν k i else ν a b) = ν a b
  split
  · rename_i h; rw [h.1, h.2]
  · rfl
theorem up_up (ν : Nv) (k i : Nat) (y z : Int) : up (up ν k i y) k i z = up ν k i z := by
  funext a b
  show (if a = k ∧ b = i then z else if a = k ∧ b = i then y else ν a b) = if a = k ∧ b = i then z else ν a b
  split <;> rfl
theorem up_at (ν : Nv) (k i : Nat) (z : Int) : up ν k i z k i = z := by
  show (if k = k ∧ i = i then z else ν k i) = z
  rw [if_pos ⟨rfl, rfl⟩]
theorem up_ne {ν : Nv} {k i : Nat} {z : Int} {a b : Nat} (h : a ≠ k) : up ν k i z a b = ν a b := by
  show (if a = k ∧ b = i then z else ν a b) = ν a b
  rw [if_neg (fun h2 => h h2.1)]
theorem up_ni {ν : Nv} {k i : Nat} {z : Int} {a b : Nat} (h : b ≠ i) : up ν k i z a b = ν a b := by
  show (if a = k ∧ b = i then z else ν a b) = ν a b
  rw [if_neg (fun h2 => h h2.2)]
section LST
variable {μ : ax_M} {ν ν2 : Nv} {T : Int}
/-- good is the same where nothing is worse -/
theorem gd_imp (hv : Vd ν) (hv2 : Vd ν2) {T2 : Int} (hC : nC ν2 = nC ν) (hP : nP ν2 = nP ν) (hF : ∀ p, p < nP ν → Fr ν2 p = Fr ν p ∧ To ν2 p = To ν p ∧ Wt ν2 T2 p ≤ Wt ν T p) (hB : ∀ c, c < nC ν → Fb ν2 c = Fb ν c ∧ Lm ν T c ≤ Lm ν2 T2 c) (h : gd ν T = true) : gd ν2 T2 = true := by
  obtain ⟨U, hU, h1, h2⟩ := (gd_iff hv).mp h
  refine (gd_iff hv2).mpr ⟨U, ⟨fun c hc => ?_, fun p hp hf => ?_⟩, fun c hc hf => ?_, fun p hp hf => ?_⟩
  · rw [hC] at hc
    rw [(hB c hc).1]
    exact hU.1 c hc
  · rw [hP] at hp
    obtain ⟨a, b, d⟩ := hF p hp
    rw [a, b]
    rw [b, (hB _ (vd_rng hv p hp).2).1] at hf
    have := hU.2 p hp hf
    omega
  · rw [hC] at hc
    rw [(hB c hc).1] at hf
    have := h1 c hc hf
    have := (hB c hc).2
    omega
  · rw [hP] at hp
    obtain ⟨a, b, d⟩ := hF p hp
    rw [a, b]
    have hr := vd_rng hv p hp
    rw [b, (hB _ hr.2).1] at hf
    have := h2 p hp hf
    have := (hB _ hr.2).2
    omega
theorem gd_up (hv : Vd ν) {T2 : Int} (h1 : T ≤ T2) (h : gd ν T = true) : gd ν T2 = true := by
  refine gd_imp hv hv rfl rfl (fun p hp => ⟨rfl, rfl, ?_⟩) (fun c hc => ⟨rfl, ?_⟩) h
  · have a := sh_bd hv p hp
    have : Sh ν p * T ≤ Sh ν p * T2 := Int.mul_le_mul_of_nonneg_left h1 (by omega)
    unfold Wt
    omega
  · obtain ⟨b1, b2, b3, b4⟩ := vd_cell hv c hc
    have v1 := hv.2.1 _ b2
    have : ν 2 (Ph ν c) * T ≤ ν 2 (Ph ν c) * T2 := Int.mul_le_mul_of_nonneg_left h1 (by omega)
    unfold Lm
    split <;> omega
theorem vd_period (hv : Vd ν) (z : Int) (h1 : 1 ≤ z) (h2 : z ≤ 9999) : Vd (up ν 0 3 z) := by
  obtain ⟨⟨a1, a2, a3, a4, a5, a6, a7, a8, a9⟩, hb, hc, hd, he⟩ := hv
  exact ⟨⟨a1, a2, a3, a4, a5, a6, h1, h2, a9⟩, hb, hc, hd, he⟩
theorem gd_period (hv : Vd ν) (z : Int) (h1 : 1 ≤ z) (h2 : z ≤ 9999) : gd (up ν 0 3 z) T = gd ν T := by
  have hv2 := vd_period hv z h1 h2
  cases e : gd ν T with
  | true => exact gd_imp hv hv2 rfl rfl (fun p hp => ⟨rfl, rfl, Int.le_refl _⟩) (fun c hc => ⟨rfl, Int.le_refl _⟩) e
  | false =>
    cases e2 : gd (up ν 0 3 z) T with
    | false => rfl
    | true =>
      have := gd_imp (T := T) (T2 := T) hv2 hv rfl rfl (fun p hp => ⟨rfl, rfl, Int.le_refl _⟩) (fun c hc => ⟨rfl, Int.le_refl _⟩) e2
      rw [e] at this; cases this
/-- the least good period 1 .. n, or -1 -/
def Lst (ν : Nv) (n : Nat) (r : Int) : Prop := (r = -1 ∧ ∀ T : Int, 1 ≤ T → T ≤ (n : Int) → gd ν T = false) ∨ (1 ≤ r ∧ r ≤ (n : Int) ∧ gd ν r = true ∧ ∀ T : Int, 1 ≤ T → T < r → gd ν T = false)
theorem lst_unique {n : Nat} {r s : Int} (h : Lst ν n r) (h2 : Lst ν n s) : r = s := by
  rcases h with ⟨a1, a2⟩ | ⟨a1, a2, a3, a4⟩ <;> rcases h2 with ⟨b1, b2⟩ | ⟨b1, b2, b3, b4⟩
  · omega
  · have := a2 s b1 b2; rw [b3] at this; cases this
  · have := b2 r a1 a2; rw [a3] at this; cases this
  · by_cases h1 : r < s
    · have := b4 r a1 h1; rw [a3] at this; cases this
    · by_cases h2 : s < r
      · have := a4 s b1 h2; rw [b3] at this; cases this
      · omega
theorem sX4_shortestPeriod (h : CN μ ν) (hv : Vd ν) : Wp (fX4_shortestPeriod μ) (fun r m => Lst ν 9999 r.toInt ∧ CN m ν ∧ ∀ a, a ∉ [49, 50, 51, 52, 53, 54, 55, 56] → m.1 a = μ.1 a ∧ m.2 a = μ.2 a) := by
  have hk := kf_X4_shortestPeriod μ
  refine wp_mono (wp_keep (Q := fun r m => Lst ν 9999 r.toInt ∧ CN m ν) ?_ hk) (fun r m hq => ⟨hq.1.1, hq.1.2, hq.2⟩)
  unfold fX4_shortestPeriod
  refine wp_bd (wp_mono (sX6_load h hv) ?_)
  rintro _ m1 ⟨hm1, ht1⟩
  refine wp_bd (wp_mono (sX6_firstGood hm1 hv ht1 1 9999 (by decide) (by decide) (by decide)) ?_)
  rintro r m2 ⟨hm2, -, -, hr, -⟩
  refine wp_ret ⟨?_, hm2⟩
  rcases hr with ⟨a, b⟩ | ⟨a, b, d, e⟩
  · exact Or.inl ⟨a, fun T h1 h2 => b T h1 h2⟩
  · exact Or.inr ⟨a, b, d, fun T h1 h2 => e T h1 h2⟩
theorem RN_period (h : RN μ ν) (v : Int32) : RN (ax_wi μ 74 0 v) (up ν 0 3 v.toInt) := by
  obtain ⟨⟨a1, a2, a3, a4, a5, a6⟩, hb, hc, hd⟩ := h
  refine ⟨⟨?_, ?_, ?_, ?_, ?_, ?_⟩, fun i hi => ?_, fun c hc2 => ?_, fun p hp => ?_⟩
  · rw [wi_ne (by omega)]; exact a1
  · rw [wi_ne (by omega)]; exact a2
  · rw [wi_ne (by omega)]; exact a3
  · rw [wi_self]; rfl
  · rw [wi_other (by omega)]; exact a5
  · rw [wi_ne (by omega)]; exact a6
  · have := hb i hi
    rw [wi_ne (by omega), wi_other (by omega), wi_other (by omega)]; exact this
  · have := hc c hc2
    rw [wi_ne (by omega), wi_ne (by omega), wi_ne (by omega), wi_ne (by omega), wi_ne (by omega), wi_other (by omega)]; exact this
  · have := hd p hp
    rw [wi_ne (by omega), wi_ne (by omega), wi_other (by omega), wi_other (by omega)]; exact this
theorem wp_some {α γ : Type} {Q : α → ax_M → Prop} {x : γ} {f : γ → Option (α × ax_M)} (h : Wp (f x) Q) : Wp (Option.bind (some x) f) Q := h
theorem dv2 {x : Int32} (h0 : 0 ≤ x.toInt) : ax_dv x 2 = some (x / 2) ∧ (x / 2).toInt = x.toInt / 2 := by
  have h1 := t_hi x
  refine ⟨by unfold ax_dv; rw [if_neg (by decide)], ?_⟩
  rw [Int32.toInt_div, t_bmod]
  have : x.toInt.tdiv (Int32.toInt 2) = x.toInt / 2 := by
    rw [show Int32.toInt 2 = 2 from rfl, Int.tdiv_eq_ediv_of_nonneg h0]
  rw [this]
  omega
theorem sX9_leastNow (h : RN μ ν) (hv : Vd ν) : Wp (fX9_leastNow μ) (fun r m => (∃ z, Lst ν 9999 z ∧ r.toInt = if z = -1 then -2 else z) ∧ RN m ν) := by
  have h0 := hv.1
  unfold fX9_leastNow
  refine wp_rd 0 rfl (by omega) ?_
  have e0 := h.1.2.2.2.1
  refine wp_lp2 (fun k (l2 l3 : Int32) m => k = (l3.toInt - l2.toInt).toNat ∧ 0 ≤ l2.toInt ∧ l2.toInt < l3.toInt ∧ l3.toInt ≤ 10000 ∧ (∃ z, 1 ≤ z ∧ z ≤ 9999 ∧ RN m (up ν 0 3 z)) ∧ (∀ T, 1 ≤ T → T ≤ l2.toInt → gd ν T = false) ∧ (l3.toInt ≤ 9999 → gd ν l3.toInt = true)) ax_FU ?_ 10000 (by unfold ax_FU; omega) ⟨rfl, by decide, by decide, by decide, ⟨ν 0 3, by omega, by omega, by rw [up_self]; exact h⟩, fun T h1 h2 => by have : Int32.toInt 0 = 0 := rfl; omega, fun h9 => absurd h9 (by decide)⟩
  rintro k rc hrc l2 l3 m ⟨hk, hl2, hlt, hl3, ⟨z, hz1, hz2, hm⟩, hno, hyes⟩
  unfold fX9_leastNow_B13 fX9_leastNow_K51 fX9_leastNow_K74
  refine wp_if (fun c => ?_) (fun c => ?_)
  · have c : l3.toInt - l2.toInt ≤ 1 := by rw [t_le, t_sub] at c; simp only [Int32.reduceToInt] at c; omega
    refine wp_wr 0 rfl (by omega) ?_
    have hm2 := RN_period hm (μ.1 74 0)
    rw [up_up, e0, up_self] at hm2
    refine wp_if (fun c2 => wp_ret ⟨?_, hm2⟩) (fun c2 => wp_ret ⟨?_, hm2⟩)
    · simp only [t_le, Int32.reduceToInt] at c2
      exact ⟨l3.toInt, Or.inr ⟨by omega, by omega, hyes c2, fun T a b => hno T a (by omega)⟩, by rw [if_neg (by omega)]⟩
    · simp only [t_le, Int32.reduceToInt] at c2
      exact ⟨-1, Or.inl ⟨rfl, fun T a b => hno T a (by omega)⟩, by rw [if_pos rfl]; rfl⟩
  · have c : ¬ l3.toInt - l2.toInt ≤ 1 := by rw [t_le, t_sub] at c; simp only [Int32.reduceToInt] at c; omega
    have hs : (l2 + l3).toInt = l2.toInt + l3.toInt := by rw [t_add]; omega
    have hd := dv2 (x := l2 + l3) (by omega)
    rw [hs] at hd
    rw [hd.1]
    refine wp_some (wp_wr 0 rfl (by omega) ?_)
    have hm2 := RN_period hm ((l2 + l3) / 2)
    rw [up_up, hd.2] at hm2
    refine wp_bd (wp_mono (sX9_isGood hm2 (vd_period hv _ (by omega) (by omega))) ?_)
    rintro r m7 ⟨hm7, -, hr⟩
    rw [up_at, gd_period hv _ (by omega) (by omega)] at hr
    refine wp_if (fun c2 => ?_) (fun c2 => ?_)
    · rw [t_eq, hr] at c2
      have hg : gd ν ((l2.toInt + l3.toInt) / 2) = false := by
        cases e : gd ν ((l2.toInt + l3.toInt) / 2) with
        | false => rfl
        | true => rw [e] at c2; exact absurd c2 (by decide)
      refine hrc (l3.toInt - (l2.toInt + l3.toInt) / 2).toNat _ _ _ (by omega) ⟨by rw [hd.2], by omega, by omega, hl3, ⟨_, by omega, by omega, hm7⟩, fun T a b => ?_, hyes⟩
      rw [hd.2] at b
      cases e : gd ν T with
      | false => rfl
      | true =>
        have := gd_up hv b e
        rw [hg] at this; cases this
    · rw [t_eq, hr] at c2
      have hg : gd ν ((l2.toInt + l3.toInt) / 2) = true := by
        cases e : gd ν ((l2.toInt + l3.toInt) / 2) with
        | true => rfl
        | false => rw [e] at c2; exact absurd rfl c2
      exact hrc ((l2.toInt + l3.toInt) / 2 - l2.toInt).toNat _ _ _ (by omega) ⟨by rw [hd.2], by omega, by omega, by omega, ⟨_, by omega, by omega, hm7⟩, hno, fun _ => by rw [hd.2]; exact hg⟩
end LST
