/-! feed and fault, both sides -/
def byt (x : Int32) (j : Nat) : Int32 := (x >>> (((24 : Int32) - ((8 : Int32) * Int32.ofNat j)) &&& 31)) &&& (255 : Int32)
theorem b255 : ∀ i, i < 32 → ¬ i < 8 → (255#32).getLsbD i = false := by decide
theorem us_lit (x : Int32) (s : Nat) (hs : s + 8 ≤ 32) : ((x.toBitVec >>> s) &&& 255#32) = ((x.toBitVec.sshiftRight s) &&& 255#32) := by
  refine BitVec.eq_of_getLsbD_eq (fun i hi => ?_)
  rw [BitVec.getLsbD_and, BitVec.getLsbD_and, BitVec.getLsbD_ushiftRight, BitVec.getLsbD_sshiftRight]
  by_cases h8 : i < 8
  · rw [if_pos (by omega)]
    have : ¬ 32 ≤ i := by omega
    simp [this]
  · rw [b255 i hi h8]
    simp
theorem us_byt {x l : Int32} {j : Nat} (hl : l.toInt = 24 - 8 * (j : Int)) (hj : j < 4) : (ax_us x l) &&& (255 : Int32) = byt x j := by
  have hj' : j = 0 ∨ j = 1 ∨ j = 2 ∨ j = 3 := by omega
  refine Int32.toBitVec_inj.mp ?_
  rcases hj' with rfl | rfl | rfl | rfl
  · have e : l = 24 := t_eq.mpr hl
    subst e
    exact us_lit x 24 (by omega)
  · have e : l = 16 := t_eq.mpr hl
    subst e
    exact us_lit x 16 (by omega)
  · have e : l = 8 := t_eq.mpr hl
    subst e
    exact us_lit x 8 (by omega)
  · have e : l = 0 := t_eq.mpr hl
    subst e
    exact us_lit x 0 (by omega)
theorem a255 (z : Int32) : 0 ≤ (z &&& 255).toInt ∧ (z &&& 255).toInt ≤ 255 := by
  have h : (z &&& 255).toBitVec.toNat ≤ 255 := by
    show (z.toBitVec &&& 255#32).toNat ≤ 255
    rw [BitVec.toNat_and]
    exact Nat.and_le_right
  have h2 : (2 : Nat) ^ 32 = 4294967296 := by decide
  have e : (z &&& 255).toInt = (((z &&& 255).toBitVec.toNat : Nat) : Int) := BitVec.toInt_eq_toNat_of_lt (by omega)
  omega
def ft (p : Nat → Int32) (N : Nat) (T : Nat → Int) : Nat → Int := fun i => if N ≤ i ∧ i < N + 20 then (byt (p ((i - N) / 4)) ((i - N) % 4)).toInt else T i
theorem ft_Tp {p : Nat → Int32} {N : Nat} {T : Nat → Int} (h : Tp T) : Tp (ft p N T) := by
  intro i hi
  unfold ft
  split
  · exact a255 _
  · exact h i hi
theorem ft_in {p : Nat → Int32} {N : Nat} {T : Nat → Int} (q j : Nat) (hq : q < 5) (hj : j < 4) : ft p N T (N + 4 * q + j) = (byt (p q) j).toInt := by
  unfold ft
  rw [if_pos (by omega), show (N + 4 * q + j - N) / 4 = q by omega, show (N + 4 * q + j - N) % 4 = j by omega]
theorem ft_out {p : Nat → Int32} {N : Nat} {T : Nat → Int} {i : Nat} (h : i < N ∨ N + 20 ≤ i) : ft p N T i = T i := by
  unfold ft
  rw [if_neg (by omega)]
def p5 (a b c d e : Int32) : Nat → Int32
  | 0 => a
  | 1 => b
  | 2 => c
  | 3 => d
  | _ => e
section FEED
variable {m : ax_M} {T : Nat → Int}
theorem dm8 {l : Int32} {z : Int} (h : l.toInt = z) (h1 : -10000 ≤ z) (h2 : z ≤ 100) : (l + -8).toInt = z - 8 := by
  rw [t_add, h, show Int32.toInt (-8) = -8 from rfl]
  omega
theorem c_put (x : Int32) (N : Nat) (hN : (m.1 0 1).toInt = (N : Int)) (h7 : N + 4 ≤ 700) : Wp (fX8_putFour x m) (fun _ m2 => (m2.1 0 1).toInt = ((N + 4 : Nat) : Int) ∧ (∀ j, j < 4 → m2.1 1 (N + j) = byt x j) ∧ ∀ i, i < N ∨ N + 4 ≤ i → m2.1 1 i = m.1 1 i) := by
  unfold fX8_putFour
  refine wp_lp1 (fun k (l : Int32) μ => ∃ j : Nat, j ≤ 4 ∧ k = 4 - j ∧ l.toInt = 24 - 8 * (j : Int) ∧ (μ.1 0 1).toInt = ((N + j : Nat) : Int) ∧ (∀ i, i < j → μ.1 1 (N + i) = byt x i) ∧ ∀ i, i < N ∨ N + 4 ≤ i → μ.1 1 i = m.1 1 i) ax_FU ?_ 4 (by unfold ax_FU; omega) ⟨0, by omega, rfl, rfl, hN, fun i hi => by omega, fun _ _ => rfl⟩
  rintro k rc hrc l μ ⟨j, h1, h2, h3, h4, h5, h6⟩
  unfold fX8_putFour_B3
  refine wp_if (fun c => wp_ret ?_) (fun c => ?_)
  · have c : l.toInt < 0 := t_lt.mp c
    have e : j = 4 := by omega
    rw [e] at h4 h5
    exact ⟨h4, h5, h6⟩
  · have c : ¬ l.toInt < 0 := fun g => c (t_lt.mpr g)
    have hj : j < 4 := by omega
    refine wp_wr (N + j) h4 (by omega) (wp_let (hrc (4 - (j + 1)) _ _ (by omega) ⟨j + 1, by omega, rfl, ?_, ?_, fun i hi => ?_, fun i hi => ?_⟩))
    · rw [dm8 h3 (by omega) (by omega)]
      omega
    · rw [wi_self, wi_ne (by decide)]
      rw [show N + (j + 1) = N + j + 1 by omega]
      exact inc (i := N + j) h4 (by omega)
    · rw [wi_ne (by decide)]
      by_cases e : i = j
      · rw [e, wi_self]; exact us_byt h3 hj
      · rw [wi_other (by omega)]; exact h5 i (by omega)
    · rw [wi_ne (by decide), wi_other (by omega)]; exact h6 i hi
theorem c_feed (h1 : ∀ i, i < 700 → (m.1 1 i).toInt = T i) (N : Nat) (hN : (m.1 0 1).toInt = (N : Int)) (hN7 : N ≤ 700) (a b c d e : Int32) : Wp (fX8_feed a b c d e m) (fun r m2 => (¬ N + 20 ≤ 700 → r.toInt = -1 ∧ m2 = m) ∧ (N + 20 ≤ 700 → r.toInt = ((N + 20 : Nat) : Int) ∧ (m2.1 0 1).toInt = ((N + 20 : Nat) : Int) ∧ ∀ i, i < 700 → (m2.1 1 i).toInt = ft (p5 a b c d e) N T i)) := by
  unfold fX8_feed
  have e20 : ((m.1 0 1) + (20 : Int32)).toInt = (N : Int) + 20 := by
    rw [t_add, hN, show Int32.toInt 20 = 20 from rfl]
    omega
  have e700 : Int32.toInt 700 = 700 := rfl
  refine wp_if (fun g => ?_) (fun g => wp_ret ⟨fun _ => ⟨rfl, rfl⟩, fun hx => ?_⟩)
  · rw [t_le, e20, e700] at g
    refine wp_bd (wp_mono (c_put a N hN (by omega)) ?_)
    rintro _ m2 ⟨a1, a2, a3⟩
    refine wp_bd (wp_mono (c_put b (N + 4) a1 (by omega)) ?_)
    rintro _ m4 ⟨b1, b2, b3⟩
    refine wp_bd (wp_mono (c_put c (N + 4 + 4) b1 (by omega)) ?_)
    rintro _ m6 ⟨c1, c2, c3⟩
    refine wp_bd (wp_mono (c_put d (N + 4 + 4 + 4) c1 (by omega)) ?_)
    rintro _ m8 ⟨d1, d2, d3⟩
    refine wp_bd (wp_mono (c_put e (N + 4 + 4 + 4 + 4) d1 (by omega)) ?_)
    rintro _ m10 ⟨f1, f2, f3⟩
    refine wp_ret ⟨fun hx => absurd (by omega) hx, fun _ => ⟨f1, f1, fun i hi => ?_⟩⟩
    have hc : (i < N ∨ N + 20 ≤ i) ∨ (∃ j, j < 4 ∧ i = N + 4 * 0 + j) ∨ (∃ j, j < 4 ∧ i = N + 4 * 1 + j) ∨ (∃ j, j < 4 ∧ i = N + 4 * 2 + j) ∨ (∃ j, j < 4 ∧ i = N + 4 * 3 + j) ∨ ∃ j, j < 4 ∧ i = N + 4 * 4 + j := by
      by_cases x0 : i < N ∨ N + 20 ≤ i
      · exact Or.inl x0
      · by_cases x1 : i < N + 4
        · exact Or.inr (Or.inl ⟨i - N, by omega, by omega⟩)
        · by_cases x2 : i < N + 8
          · exact Or.inr (Or.inr (Or.inl ⟨i - N - 4, by omega, by omega⟩))
          · by_cases x3 : i < N + 12
            · exact Or.inr (Or.inr (Or.inr (Or.inl ⟨i - N - 8, by omega, by omega⟩)))
            · by_cases x4 : i < N + 16
              · exact Or.inr (Or.inr (Or.inr (Or.inr (Or.inl ⟨i - N - 12, by omega, by omega⟩))))
              · exact Or.inr (Or.inr (Or.inr (Or.inr (Or.inr ⟨i - N - 16, by omega, by omega⟩))))
    rcases hc with x0 | ⟨j, hj, hi2⟩ | ⟨j, hj, hi2⟩ | ⟨j, hj, hi2⟩ | ⟨j, hj, hi2⟩ | ⟨j, hj, hi2⟩
    · rw [ft_out x0, f3 i (by omega), d3 i (by omega), c3 i (by omega), b3 i (by omega), a3 i (by omega)]
      exact h1 i hi
    · rw [f3 i (by omega), d3 i (by omega), c3 i (by omega), b3 i (by omega), hi2, ft_in 0 j (by omega) hj, show N + 4 * 0 + j = N + j by omega, a2 j hj]
      rfl
    · rw [f3 i (by omega), d3 i (by omega), c3 i (by omega), hi2, ft_in 1 j (by omega) hj, show N + 4 * 1 + j = N + 4 + j by omega, b2 j hj]
      rfl
    · rw [f3 i (by omega), d3 i (by omega), hi2, ft_in 2 j (by omega) hj, show N + 4 * 2 + j = N + 4 + 4 + j by omega, c2 j hj]
      rfl
    · rw [f3 i (by omega), hi2, ft_in 3 j (by omega) hj, show N + 4 * 3 + j = N + 4 + 4 + 4 + j by omega, d2 j hj]
      rfl
    · rw [hi2, ft_in 4 j (by omega) hj, show N + 4 * 4 + j = N + 4 + 4 + 4 + 4 + j by omega, f2 j hj]
      rfl
  · rw [t_le, e20, e700] at g
    omega
theorem r_feed (h1 : ∀ i, i < 700 → (m.1 58 i).toInt = T i) (N : Nat) (hN : (m.1 57 2).toInt = (N : Int)) (hN7 : N ≤ 700) (a b c d e : Int32) : Wp (fX9_feed a b c d e m) (fun r m2 => (¬ N + 20 ≤ 700 → r.toInt = -1 ∧ m2 = ax_wi m 57 0 0) ∧ (N + 20 ≤ 700 → r.toInt = ((N + 20 : Nat) : Int) ∧ (m2.1 57 2).toInt = ((N + 20 : Nat) : Int) ∧ ∀ i, i < 700 → (m2.1 58 i).toInt = ft (p5 a b c d e) N T i)) := by
  unfold fX9_feed
  have e680 : Int32.toInt 680 = 680 := rfl
  refine wp_let (wp_if (fun g => ?_) (fun g => wp_ret ⟨fun _ => ⟨rfl, rfl⟩, fun hx => ?_⟩))
  · rw [t_le, wi_other (by decide), hN, e680] at g
    refine lp_idx 20 (fun i μ => μ.1 57 = (ax_wi m 57 0 0).1 57 ∧ (∀ j, j < i → (μ.1 58 (N + j)).toInt = ft (p5 a b c d e) N T (N + j)) ∧ ∀ j, j < N ∨ N + 20 ≤ j → μ.1 58 j = m.1 58 j) (by omega) ⟨rfl, fun j hj => by omega, fun j hj => by rw [wi_ne (by decide)]⟩ (fun rc l i μ hl hi hJ hgo => ?_) (fun rc l μ hl hJ => ?_)
    · have e2 : (μ.1 57 2).toInt = (N : Int) := by rw [hJ.1, wi_other (by decide)]; exact hN
      have q4 : i / 4 * 4 + i % 4 = i := by omega
      have go : ∀ s0 : Int32, s0 = p5 a b c d e (i / 4) → Wp (fX9_feed_K73 a b c d e l s0 rc μ) (fun r m2 => (¬ N + 20 ≤ 700 → r.toInt = -1 ∧ m2 = ax_wi m 57 0 0) ∧ (N + 20 ≤ 700 → r.toInt = ((N + 20 : Nat) : Int) ∧ (m2.1 57 2).toInt = ((N + 20 : Nat) : Int) ∧ ∀ i, i < 700 → (m2.1 58 i).toInt = ft (p5 a b c d e) N T i)) := by
        intro s0 hs0
        unfold fX9_feed_K73
        obtain ⟨_, _, r1, r2⟩ := dv_ok (x := l) (y := 4) (by omega) (by decide)
        rw [r1]
        have ev : l - l / 4 * 4 = Int32.ofNat (i % 4) := by
          refine i_nat ?_
          rw [r2, hl, show Int32.toInt 4 = 4 from rfl]
          omega
        rw [ev]
        show Wp (Option.bind (ax_wr μ 58 700 ((μ.1 57 2) + l) (byt s0 (i % 4))) (fun m4 => (rc (l + (1 : Int32)) m4))) _
        refine wp_wr (N + i) (by rw [t_add, e2, hl]; omega) (by omega) (hgo _ _ (inc hl (by omega)) ⟨by rw [wi_ne (by decide)]; exact hJ.1, fun j hj => ?_, fun j hj => ?_⟩)
        · by_cases ej : j = i
          · rw [ej, wi_self, show N + i = N + 4 * (i / 4) + i % 4 by omega, ft_in (i / 4) (i % 4) (by omega) (by omega), hs0]
          · rw [wi_other (by omega)]; exact hJ.2.1 j (by omega)
        · rw [wi_other (by omega)]; exact hJ.2.2 j hj
      unfold fX9_feed_B20
      rw [if_neg (fun g => by have := (le_i (k := 20) rfl hl).1 g; omega)]
      refine wp_if (fun g4 => wp_if (fun g8 => wp_if (fun g12 => wp_if (fun g16 => go _ ?_) (fun g16 => go _ ?_)) (fun g12 => go _ ?_)) (fun g8 => go _ ?_)) (fun g4 => go _ ?_)
      · have := (le_i (k := 16) rfl hl).1 g16
        rw [show i / 4 = 4 by omega]; rfl
      · have y1 := (le_i (k := 12) rfl hl).1 g12
        have y2 : ¬ 16 ≤ i := fun g => g16 ((le_i (k := 16) rfl hl).2 g)
        rw [show i / 4 = 3 by omega]; rfl
      · have y1 := (le_i (k := 8) rfl hl).1 g8
        have y2 : ¬ 12 ≤ i := fun g => g12 ((le_i (k := 12) rfl hl).2 g)
        rw [show i / 4 = 2 by omega]; rfl
      · have y1 := (le_i (k := 4) rfl hl).1 g4
        have y2 : ¬ 8 ≤ i := fun g => g8 ((le_i (k := 8) rfl hl).2 g)
        rw [show i / 4 = 1 by omega]; rfl
      · have y2 : ¬ 4 ≤ i := fun g => g4 ((le_i (k := 4) rfl hl).2 g)
        rw [show i / 4 = 0 by omega]; rfl
    · have e2 : (μ.1 57 2).toInt = (N : Int) := by rw [hJ.1, wi_other (by decide)]; exact hN
      unfold fX9_feed_B20
      rw [if_pos ((le_i (k := 20) rfl hl).2 (by omega))]
      have e3 : (μ.1 57 2 + 20).toInt = ((N + 20 : Nat) : Int) := by
        rw [t_add, e2, show Int32.toInt 20 = 20 from rfl]
        omega
      refine wp_let (wp_ret ⟨fun hx => absurd (by omega) hx, fun _ => ⟨by rw [wi_self]; exact e3, by rw [wi_self]; exact e3, fun i hi => ?_⟩⟩)
      rw [wi_ne (by decide)]
      by_cases x0 : i < N ∨ N + 20 ≤ i
      · rw [ft_out x0, hJ.2.2 i x0]; exact h1 i hi
      · have := hJ.2.1 (i - N) (by omega)
        rw [show N + (i - N) = i by omega] at this
        exact this
  · rw [t_le, wi_other (by decide), hN, e680] at g
    omega
theorem c_fault {f q : Int} (h2 : (m.1 15 2).toInt = f) (h3 : (m.1 15 3).toInt = q) (p : Int32) : Wp (fX8_fault p m) (fun r m2 => m2 = m ∧ r.toInt = if p.toInt = 0 then f else if p.toInt = 1 then q else -1) := by
  unfold fX8_fault fX8_fault_K28
  refine wp_if (fun g => wp_ret ⟨rfl, ?_⟩) (fun g => wp_if (fun g1 => wp_ret ⟨rfl, ?_⟩) (fun g1 => wp_ret ⟨rfl, ?_⟩))
  · rw [if_pos (q0.mp g)]; exact h2
  · rw [if_neg (fun x => g (q0.mpr x)), if_pos (q1.mp g1)]; exact h3
  · rw [if_neg (fun x => g (q0.mpr x)), if_neg (fun x => g1 (q1.mpr x))]; rfl
theorem r_fault {f q : Int} (h2 : (m.1 57 26).toInt = f) (h3 : (m.1 57 27).toInt = q) (p : Int32) : Wp (fX9_fault p m) (fun r m2 => m2 = ax_wi m 57 0 0 ∧ r.toInt = if p.toInt = 0 then f else if p.toInt = 1 then q else -1) := by
  unfold fX9_fault fX9_fault_K29
  refine wp_let (wp_if (fun g => wp_ret ⟨rfl, ?_⟩) (fun g => wp_if (fun g1 => wp_ret ⟨rfl, ?_⟩) (fun g1 => wp_ret ⟨rfl, ?_⟩)))
  · rw [if_pos (q0.mp g), wi_other (by decide)]; exact h2
  · rw [if_neg (fun x => g (q0.mpr x)), if_pos (q1.mp g1), wi_other (by decide)]; exact h3
  · rw [if_neg (fun x => g (q0.mpr x)), if_neg (fun x => g1 (q1.mpr x))]; rfl
end FEED
