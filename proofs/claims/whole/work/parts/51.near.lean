/-! the move nearest to 0 by which it is good -/
section NRZ
variable {μ : ax_M} {ν : Nv} {T : Int}
theorem sX1_greatestMove (h : CN μ ν) (hv : Vd ν) (p1 : Int32) (c : Nat) (hp1 : p1.toInt = (c : Nat)) : Wp (fX1_greatestMove p1 μ) (fun r m => m = μ ∧ -999 ≤ r.toInt ∧ r.toInt ≤ 999 ∧ ∀ n, n ≤ r.toInt ↔ (n ≤ 999 ∧ ∀ p, p < nP ν → Hi ν c n p)) := by
  have h0 := hv.1
  have hnP : ν 0 2 = (nP ν : Nat) := by unfold nP; omega
  unfold fX1_greatestMove
  refine wp_lp2 (fun k (l2 l3 : Int32) m => m = μ ∧ ∃ i : Nat, l3.toInt = (i : Int) ∧ i ≤ nP ν ∧ k = nP ν - i ∧ -999 ≤ l2.toInt ∧ l2.toInt ≤ 999 ∧ ∀ n, n ≤ l2.toInt ↔ (n ≤ 999 ∧ ∀ p, p < i → Hi ν c n p)) ax_FU ?_ (nP ν) (by unfold ax_FU; omega) ⟨rfl, 0, rfl, by omega, rfl, by decide, by decide, fun n => ⟨fun h2 => ⟨h2, fun p hp => by omega⟩, fun h2 => h2.1⟩⟩
  rintro k rc hrc l2 l3 m ⟨rfl, i, hl3, hi, hk, hl2, hl2b, hb⟩
  unfold fX1_greatestMove_B6 fX1_greatestMove_K57 fX1_greatestMove_K93
  have en := h.1.2.2.1
  refine wp_if (fun c1 => wp_ret ⟨rfl, hl2, hl2b, ?_⟩) (fun c1 => ?_)
  · rw [t_le, en, hl3] at c1
    rw [show i = nP ν by omega] at hb
    exact hb
  · rw [t_le, en, hl3] at c1
    have hi2 : i < nP ν := by omega
    obtain ⟨a1, a2, a3, a4, a5, a6⟩ := vd_path hv i hi2
    have e := h.2.2.2.1 i hi2
    have e12 : (m.1 12 i).toInt = (To ν i : Nat) := by rw [e.2.1, a5]
    have e11 : (m.1 11 i).toInt = (Fr ν i : Nat) := by rw [e.1, a4]
    have vd4 := hv.2.2.2.1 i hi2
    have go : ∀ x : Int32, -999 ≤ x.toInt → x.toInt ≤ 999 → (∀ n, n ≤ x.toInt ↔ (n ≤ l2.toInt ∧ Hi ν c n i)) → Wp (rc x (l3 + 1) m) (fun r m2 => m2 = m ∧ -999 ≤ r.toInt ∧ r.toInt ≤ 999 ∧ ∀ n, n ≤ r.toInt ↔ (n ≤ 999 ∧ ∀ p, p < nP ν → Hi ν c n p)) := by
      intro x x1 x2 hx
      refine hrc (nP ν - (i + 1)) _ _ _ (by omega) ⟨rfl, i + 1, by simp only [t_add, hl3, Int32.reduceToInt]; omega, by omega, rfl, x1, x2, fun n => ?_⟩
      rw [hx n, hb n]
      constructor
      · rintro ⟨⟨q1, q2⟩, q3⟩
        refine ⟨q1, fun p hp => ?_⟩
        by_cases ep : p = i
        · rw [ep]; exact q3
        · exact q2 p (by omega)
      · rintro ⟨q1, q2⟩
        exact ⟨⟨q1, fun p hp => q2 p (by omega)⟩, q2 i (by omega)⟩
    have same : (Fr ν i = To ν i ∨ (To ν i ≠ c ∧ Fr ν i ≠ c)) → Wp (rc l2 (l3 + 1) m) (fun r m2 => m2 = m ∧ -999 ≤ r.toInt ∧ r.toInt ≤ 999 ∧ ∀ n, n ≤ r.toInt ↔ (n ≤ 999 ∧ ∀ p, p < nP ν → Hi ν c n p)) := by
      intro hs
      refine go l2 hl2 hl2b (fun n => ⟨fun q => ⟨q, fun hne => ?_⟩, fun q => q.1⟩)
      rcases hs with hs | ⟨hs1, hs2⟩
      · exact absurd hs hne
      · exact ⟨fun e => absurd e hs1, fun e => absurd e hs2⟩
    refine wp_rd i hl3 a1 (wp_rd i hl3 a1 (wp_if (fun c2 => ?_) (fun c2 => wp_rd i hl3 a1 (wp_if (fun c3 => ?_) (fun c3 => ?_)))))
    · rw [t_eq, e11, e12] at c2
      refine wp_rd i hl3 a1 (wp_rd i hl3 a1 (wp_if (fun _ => same (Or.inl (by omega))) (fun c3 => absurd (t_eq.mpr (by rw [e11, e12]; exact c2)) c3)))
    · rw [t_eq, e11, e12] at c2
      rw [t_eq, e12, hp1] at c3
      have hto : To ν i = c := by omega
      have hfr : Fr ν i ≠ c := by omega
      have hmx := mn_toInt l2 (999 - (m.1 13 i))
      have hneg : (999 - (m.1 13 i)).toInt = 999 - ν 9 i := by rw [t_sub, e.2.2.1]; simp only [Int32.reduceToInt]; omega
      rw [hneg] at hmx
      refine wp_rd i hl3 a1 (wp_let (go _ (by rw [hmx]; split <;> omega) (by rw [hmx]; split <;> omega) (fun n => ?_)))
      rw [hmx]
      constructor
      · intro q
        refine ⟨by split at q <;> omega, fun _ => ⟨fun _ => by split at q <;> omega, fun e9 => absurd e9 hfr⟩⟩
      · rintro ⟨q1, q2⟩
        have := (q2 (by omega)).1 hto
        split <;> omega
    · rw [t_eq, e11, e12] at c2
      rw [t_eq, e12, hp1] at c3
      have hto : To ν i ≠ c := by omega
      refine wp_rd i hl3 a1 (wp_rd i hl3 a1 (wp_if (fun c4 => ?_) (fun c4 => wp_rd i hl3 a1 (wp_if (fun c5 => ?_) (fun c5 => ?_)))))
      · rw [t_eq, e11, e12] at c4
        exact absurd c4 c2
      · rw [t_eq, e11, hp1] at c5
        have hfr : Fr ν i = c := by omega
        have hmx := mn_toInt l2 (m.1 14 i)
        rw [e.2.2.2] at hmx
        refine wp_rd i hl3 a1 (wp_let (go _ (by rw [hmx]; split <;> omega) (by rw [hmx]; split <;> omega) (fun n => ?_)))
        rw [hmx]
        constructor
        · intro q
          refine ⟨by split at q <;> omega, fun _ => ⟨fun e9 => absurd e9 hto, fun _ => by split at q <;> omega⟩⟩
        · rintro ⟨q1, q2⟩
          have := (q2 (by omega)).2 hfr
          split <;> omega
      · rw [t_eq, e11, hp1] at c5
        exact same (Or.inr ⟨hto, by omega⟩)
def tl (c x : Nat) : Int := if x = c then 1 else 0
def sl (ν : Nv) (c n : Nat) (q : Nat → Nat) : Int := if n = 0 then 0 else tl c (To ν (q 0)) - tl c (Fr ν (q (n - 1)))
theorem mb_tl (c : Nat) (n : Int) (p : Nat) : mb ν c n p = n * (tl c (To ν p) - tl c (Fr ν p)) := by
  unfold mb tl
  split <;> split <;> simp
theorem row_tl {n : Nat} {q : Nat → Nat} (h : Row ν n q) (c : Nat) : sm (fun i => tl c (To ν (q i)) - tl c (Fr ν (q i))) n = sl ν c n q := by
  induction n with
  | zero => rfl
  | succ n ih =>
    have hr : Row ν n q := ⟨fun i hi => h.1 i (by omega), fun i hi => h.2 i (by omega)⟩
    simp only [sm]
    rw [ih hr]
    unfold sl
    rw [if_neg (show ¬ n + 1 = 0 by omega), show n + 1 - 1 = n by omega]
    cases n with
    | zero => rw [if_pos rfl]; omega
    | succ n =>
      rw [if_neg (show ¬ n + 1 = 0 by omega), show n + 1 - 1 = n by omega, (h.2 n (by omega)).1]
      omega
theorem sm_mul (f : Nat → Int) (k : Int) (n : Nat) : sm (fun i => k * f i) n = k * sm f n := by
  induction n with
  | zero => simp [sm]
  | succ n ih => simp only [sm]; rw [ih, Int.mul_add]
/-- the same cut, where more work has gone over a cell -/
theorem cut_mv {n : Nat} {q : Nat → Nat} {N w : Int} (c : Nat) (x y : Int) (h : Cut (mv ν c x) n q N w) : Cut (mv ν c y) n q (N + 64 * (y - x) * sl ν c n q) w := by
  obtain ⟨hr, hd, hk⟩ := h
  have hr0 : Row ν n q := hr
  have e : sm (fun i => Dl (mv ν c y) (q i)) n = sm (fun i => Dl (mv ν c x) (q i)) n + 64 * (y - x) * sl ν c n q := by
    rw [← row_tl hr0 c, ← sm_mul, ← sm_add]
    refine sm_congr (fun i _ => ?_)
    show 64 * (ν 6 (Fr ν (q i)) + (ν 9 (q i) + mb ν c y (q i)) + ν 0 4) = 64 * (ν 6 (Fr ν (q i)) + (ν 9 (q i) + mb ν c x (q i)) + ν 0 4) + 64 * (y - x) * (tl c (To ν (q i)) - tl c (Fr ν (q i)))
    rw [mb_tl, mb_tl, Int.mul_assoc 64 (y - x), Int.sub_mul]
    omega
  refine ⟨hr, hd, ?_⟩
  rcases hk with ⟨g, hg, hg0, hg1, hN, hw⟩ | ⟨hn, hc, hf, hN, hw⟩ | ⟨hn, hN, hw⟩
  · have hN : N = sm (fun i => Dl (mv ν c x) (q i)) n + 64 * ν 4 g := hN
    exact Or.inl ⟨g, hg, hg0, hg1, by show _ = _ + 64 * ν 4 g; rw [e, hN]; omega, hw⟩
  · exact Or.inr (Or.inl ⟨hn, hc, hf, by rw [e, hN], hw⟩)
  · subst hn
    refine Or.inr (Or.inr ⟨rfl, ?_, hw⟩)
    rw [hN]
    unfold sl
    rw [if_pos rfl, Int.mul_zero]
    rfl
theorem sl_bd (c n : Nat) (q : Nat → Nat) : sl ν c n q = 0 ∨ sl ν c n q = 1 ∨ sl ν c n q = -1 := by
  unfold sl tl
  split
  · exact Or.inl rfl
  · split <;> split <;> omega
theorem sX6_cutSlope (h : CN μ ν) (hv : Vd ν) {n : Nat} {q : Nat → Nat} (hn : (μ.1 49 8).toInt = (n : Int)) (hn2 : n ≤ 11) (hq : ∀ i, i < n → (μ.1 56 i).toInt = (q i : Nat)) (hp : ∀ i, i < n → q i < nP ν) (p1 : Int32) (c : Nat) (hp1 : p1.toInt = (c : Nat)) : Rd (fX6_cutSlope p1 μ) μ (sl ν c n q) := by
  unfold fX6_cutSlope fX6_cutSlope_K32 fX6_cutSlope_K61
  refine rd_wp (wp_if (fun c1 => wp_ret ⟨?_, rfl⟩) (fun c1 => ?_))
  · rw [t_eq, hn] at c1
    simp only [Int32.reduceToInt] at c1
    unfold sl
    rw [if_pos (by omega)]; rfl
  · rw [t_eq, hn] at c1
    simp only [Int32.reduceToInt] at c1
    have hn0 : 0 < n := by omega
    have p0 := hp 0 hn0
    have pl := hp (n - 1) (by omega)
    obtain ⟨a1, a2, a3, a4, a5, a6⟩ := vd_path hv _ p0
    obtain ⟨b1, b2, b3, b4, b5, b6⟩ := vd_path hv _ pl
    have e0 := (h.2.2.2.1 _ p0).2.1
    have el := (h.2.2.2.1 _ pl).1
    have key : ∀ s0 : Int32, s0.toInt = tl c (To ν (q 0)) → Wp (Option.bind (ax_rd μ 56 11 (μ.1 49 8 - 1)) (fun v3 => Option.bind (ax_rd μ 11 24 v3) (fun v4 => if v4 = p1 then some (s0 - 1, μ) else some (s0 - 0, μ)))) (fun r m => r.toInt = sl ν c n q ∧ m = μ) := by
      intro s0 hs
      have hs01 : s0.toInt = 0 ∨ s0.toInt = 1 := by rw [hs]; unfold tl; split <;> omega
      refine wp_rd (n - 1) (by rw [t_sub, hn]; simp only [Int32.reduceToInt]; omega) (by omega) (wp_rd (q (n - 1)) (hq (n - 1) (by omega)) b1 (wp_if (fun c3 => wp_ret ⟨?_, rfl⟩) (fun c3 => wp_ret ⟨?_, rfl⟩)))
      · rw [t_eq, el, b4, hp1] at c3
        unfold sl
        rw [if_neg (by omega), t_sub, hs]
        have : tl c (Fr ν (q (n - 1))) = 1 := by unfold tl; rw [if_pos (by omega)]
        rw [this, ← hs]
        simp only [Int32.reduceToInt]
        omega
      · rw [t_eq, el, b4, hp1] at c3
        unfold sl
        rw [if_neg (by omega), t_sub, hs]
        have : tl c (Fr ν (q (n - 1))) = 0 := by unfold tl; rw [if_neg (by omega)]
        rw [this, ← hs]
        simp only [Int32.reduceToInt]
        omega
    refine wp_rd 0 rfl (by omega) (wp_rd (q 0) (hq 0 hn0) a1 (wp_if (fun c2 => key 1 ?_) (fun c2 => key 0 ?_)))
    · rw [t_eq, e0, a5, hp1] at c2
      unfold tl
      rw [if_pos (by omega)]; rfl
    · rw [t_eq, e0, a5, hp1] at c2
      unfold tl
      rw [if_neg (by omega)]; rfl
end NRZ
