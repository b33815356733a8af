/-! a net as numbers: 0 counts (phases, cells, paths, period, skew, seed), 1 opens, 2 width, 3 phase of, 4 setup, 5 hold, 6 through, 7 from, 8 to, 9 most, 10 least, 11 flop, 12 phase name, 13 cell name -/
abbrev Nv : Type := Nat → Nat → Int
def nH (ν : Nv) : Nat := (ν 0 0).toNat
def nC (ν : Nv) : Nat := (ν 0 1).toNat
def nP (ν : Nv) : Nat := (ν 0 2).toNat
def Fr (ν : Nv) (p : Nat) : Nat := (ν 7 p).toNat
def To (ν : Nv) (p : Nat) : Nat := (ν 8 p).toNat
def Ph (ν : Nv) (c : Nat) : Nat := (ν 3 c).toNat
def Fb (ν : Nv) (c : Nat) : Bool := decide (ν 11 c = 1)
def Sh (ν : Nv) (p : Nat) : Int := if ν 1 (Ph ν (To ν p)) - ν 1 (Ph ν (Fr ν p)) ≤ 0 then ν 1 (Ph ν (To ν p)) - ν 1 (Ph ν (Fr ν p)) + 64 else ν 1 (Ph ν (To ν p)) - ν 1 (Ph ν (Fr ν p))
def Dl (ν : Nv) (p : Nat) : Int := 64 * (ν 6 (Fr ν p) + ν 9 p + ν 0 4)
def Wt (ν : Nv) (T : Int) (p : Nat) : Int := Dl ν p - Sh ν p * T
def Lm (ν : Nv) (T : Int) (c : Nat) : Int := (if Fb ν c = true then 0 else ν 2 (Ph ν c) * T) - 64 * ν 4 c
/-- the bounds that the text and the calls keep -/
def Vd (ν : Nv) : Prop :=
  (0 ≤ ν 0 0 ∧ ν 0 0 ≤ 4 ∧ 0 ≤ ν 0 1 ∧ ν 0 1 ≤ 10 ∧ 0 ≤ ν 0 2 ∧ ν 0 2 ≤ 24 ∧ 1 ≤ ν 0 3 ∧ ν 0 3 ≤ 9999 ∧ 0 ≤ ν 0 4 ∧ ν 0 4 ≤ 99 ∧ 0 ≤ ν 0 5 ∧ ν 0 5 ≤ 99999) ∧
  (∀ i, i < nH ν → 0 ≤ ν 1 i ∧ ν 1 i ≤ 63 ∧ 1 ≤ ν 2 i ∧ ν 2 i ≤ 63) ∧
  (∀ c, c < nC ν → 0 ≤ ν 3 c ∧ ν 3 c < ν 0 0 ∧ 0 ≤ ν 4 c ∧ ν 4 c ≤ 99 ∧ 0 ≤ ν 5 c ∧ ν 5 c ≤ 99 ∧ 0 ≤ ν 6 c ∧ ν 6 c ≤ 99 ∧ (ν 11 c = 0 ∨ ν 11 c = 1)) ∧
  (∀ p, p < nP ν → 0 ≤ ν 7 p ∧ ν 7 p < ν 0 1 ∧ 0 ≤ ν 8 p ∧ ν 8 p < ν 0 1 ∧ 0 ≤ ν 10 p ∧ ν 10 p ≤ ν 9 p ∧ ν 9 p ≤ 999) ∧
  (∀ p q, p < nP ν → q < nP ν → ν 7 p = ν 7 q → ν 8 p = ν 8 q → p = q)
/-! bits -/
def bt (f : Nat → Bool) : Nat → Nat
  | 0 => 0
  | n + 1 => bt f n + (if f n = true then 2 ^ n else 0)
theorem bt_lt (f : Nat → Bool) (n : Nat) : bt f n < 2 ^ n := by
  induction n with
  | zero => exact Nat.one_pos
  | succ n ih =>
    simp only [bt]
    have : 2 ^ (n + 1) = 2 ^ n + 2 ^ n := by rw [Nat.pow_succ]; omega
    split <;> omega
theorem bt_test (f : Nat → Bool) (n c : Nat) : (bt f n).testBit c = (decide (c < n) && f c) := by
  induction n with
  | zero => simp [bt]
  | succ n ih =>
    simp only [bt]
    have h := bt_lt f n
    by_cases hf : f n = true
    · rw [if_pos hf]
      have e : bt f n + 2 ^ n = 2 ^ n * 1 ||| bt f n := by rw [← Nat.two_pow_add_eq_or_of_lt h]; omega
      rw [e, Nat.testBit_or, ih, Nat.mul_one, Nat.testBit_two_pow]
      by_cases e2 : c = n
      · subst e2; simp [hf]
      · by_cases e3 : c < n
        · simp [e3, Ne.symm e2, Nat.lt_succ_of_lt e3]
        · have : ¬ c < n + 1 := by omega
          simp [e3, Ne.symm e2, this]
    · rw [if_neg hf, Nat.add_zero, ih]
      by_cases e2 : c = n
      · subst e2
        have : f c = false := by simpa using hf
        simp [this]
      · by_cases e3 : c < n
        · simp [e3, Nat.lt_succ_of_lt e3]
        · have : ¬ c < n + 1 := by omega
          simp [e3, this]
theorem bt_congr {f g : Nat → Bool} {n : Nat} (h : ∀ c, c < n → f c = g c) : bt f n = bt g n := by
  induction n with
  | zero => rfl
  | succ n ih =>
    simp only [bt]
    rw [ih (fun c hc => h c (by omega)), h n (by omega)]
theorem b_test : ∀ n, n < 1024 → ∀ c, c < 10 → ((((Int32.ofNat n) >>> ((Int32.ofNat c) &&& 31)) &&& 1) = 0 ↔ n.testBit c = false) := by decide +kernel
theorem i_nat {x : Int32} {n : Nat} (h : x.toInt = n) : x = Int32.ofNat n := by
  have h1 : (Int32.ofNat n).toInt = n := by
    rw [Int32.toInt_ofNat', t_bmod]
    have := t_hi x
    omega
  exact Int32.toInt_inj.mp (h.trans h1.symm)
/-! the class's net holds these numbers -/
def CN (μ : ax_M) (ν : Nv) : Prop :=
  ((μ.1 2 12).toInt = ν 0 0 ∧ (μ.1 2 13).toInt = ν 0 1 ∧ (μ.1 2 14).toInt = ν 0 2 ∧ (μ.1 2 16).toInt = ν 0 3 ∧ (μ.1 2 17).toInt = ν 0 4 ∧ (μ.1 2 18).toInt = ν 0 5) ∧
  (∀ i, i < nH ν → (μ.1 3 i).toInt = ν 12 i ∧ (μ.1 4 i).toInt = ν 1 i ∧ (μ.1 5 i).toInt = ν 2 i) ∧
  (∀ c, c < nC ν → (μ.1 6 c).toInt = ν 13 c ∧ (μ.1 7 c).toInt = ν 3 c ∧ (μ.1 8 c).toInt = ν 4 c ∧ (μ.1 9 c).toInt = ν 5 c ∧ (μ.1 10 c).toInt = ν 6 c) ∧
  (∀ p, p < nP ν → (μ.1 11 p).toInt = ν 7 p ∧ (μ.1 12 p).toInt = ν 8 p ∧ (μ.1 13 p).toInt = ν 9 p ∧ (μ.1 14 p).toInt = ν 10 p) ∧
  (μ.1 2 15).toInt = (bt (Fb ν) (nC ν) : Nat)
theorem CN_keep {μ μ2 : ax_M} {ν : Nv} (h : CN μ ν) (hk : ∀ a, a < 15 → 2 ≤ a → μ2.1 a = μ.1 a) : CN μ2 ν := by
  unfold CN at *
  rw [hk 2 (by omega) (by omega), hk 3 (by omega) (by omega), hk 4 (by omega) (by omega), hk 5 (by omega) (by omega), hk 6 (by omega) (by omega), hk 7 (by omega) (by omega), hk 8 (by omega) (by omega), hk 9 (by omega) (by omega), hk 10 (by omega) (by omega), hk 11 (by omega) (by omega), hk 12 (by omega) (by omega), hk 13 (by omega) (by omega), hk 14 (by omega) (by omega)]
  exact h
/-- reads a number and changes nothing -/
def Rd (t : Option (Int32 × ax_M)) (μ : ax_M) (z : Int) : Prop := ∃ r, t = some (r, μ) ∧ r.toInt = z
def Rd6 (t : Option (Int64 × ax_M)) (μ : ax_M) (z : Int) : Prop := ∃ r, t = some (r, μ) ∧ r.toInt = z
theorem wp_rdf {α : Type} {Q : α → ax_M → Prop} {t : Option (Int32 × ax_M)} {μ : ax_M} {z : Int} {f : Int32 → ax_M → Option (α × ax_M)} (h : Rd t μ z) (hf : ∀ r, r.toInt = z → Wp (f r μ) Q) : Wp (ax_bd t f) Q := by
  obtain ⟨r, e, hz⟩ := h
  rw [e]
  exact hf r hz
theorem wp_rd6f {α : Type} {Q : α → ax_M → Prop} {t : Option (Int64 × ax_M)} {μ : ax_M} {z : Int} {f : Int64 → ax_M → Option (α × ax_M)} (h : Rd6 t μ z) (hf : ∀ r, r.toInt = z → Wp (f r μ) Q) : Wp (ax_bd t f) Q := by
  obtain ⟨r, e, hz⟩ := h
  rw [e]
  exact hf r hz
theorem rd_wp {t : Option (Int32 × ax_M)} {μ : ax_M} {z : Int} (h : Wp t (fun r m => r.toInt = z ∧ m = μ)) : Rd t μ z := by
  obtain ⟨r, m, e, h1, rfl⟩ := h
  exact ⟨r, e, h1⟩
theorem rd6_wp {t : Option (Int64 × ax_M)} {μ : ax_M} {z : Int} (h : Wp t (fun r m => r.toInt = z ∧ m = μ)) : Rd6 t μ z := by
  obtain ⟨r, m, e, h1, rfl⟩ := h
  exact ⟨r, e, h1⟩
section CNET
variable {μ : ax_M} {ν : Nv}
theorem sX1_hasPhase (h : CN μ ν) (p : Int32) : Rd (fX1_hasPhase p μ) μ (if 0 ≤ p.toInt ∧ p.toInt < ν 0 0 then 1 else 0) := by
  have e := h.1.1
  unfold fX1_hasPhase fX1_hasPhase_K16 fX1_hasPhase_K17
  simp only [t_lt, t_le, e, Int32.reduceToInt]
  refine rd_wp (wp_if (fun c => wp_ret ⟨?_, rfl⟩) (fun c => wp_if (fun c2 => wp_ret ⟨?_, rfl⟩) (fun c2 => wp_ret ⟨?_, rfl⟩)))
  · rw [if_neg (by omega)]; rfl
  · rw [if_neg (by omega)]; rfl
  · rw [if_pos (by omega)]; rfl
theorem sX1_hasCell (h : CN μ ν) (p : Int32) : Rd (fX1_hasCell p μ) μ (if 0 ≤ p.toInt ∧ p.toInt < ν 0 1 then 1 else 0) := by
  have e := h.1.2.1
  unfold fX1_hasCell fX1_hasCell_K16 fX1_hasCell_K17
  simp only [t_lt, t_le, e, Int32.reduceToInt]
  refine rd_wp (wp_if (fun c => wp_ret ⟨?_, rfl⟩) (fun c => wp_if (fun c2 => wp_ret ⟨?_, rfl⟩) (fun c2 => wp_ret ⟨?_, rfl⟩)))
  · rw [if_neg (by omega)]; rfl
  · rw [if_neg (by omega)]; rfl
  · rw [if_pos (by omega)]; rfl
theorem sX1_hasPath (h : CN μ ν) (p : Int32) : Rd (fX1_hasPath p μ) μ (if 0 ≤ p.toInt ∧ p.toInt < ν 0 2 then 1 else 0) := by
  have e := h.1.2.2.1
  unfold fX1_hasPath fX1_hasPath_K16 fX1_hasPath_K17
  simp only [t_lt, t_le, e, Int32.reduceToInt]
  refine rd_wp (wp_if (fun c => wp_ret ⟨?_, rfl⟩) (fun c => wp_if (fun c2 => wp_ret ⟨?_, rfl⟩) (fun c2 => wp_ret ⟨?_, rfl⟩)))
  · rw [if_neg (by omega)]; rfl
  · rw [if_neg (by omega)]; rfl
  · rw [if_pos (by omega)]; rfl
theorem sX1_isFlop (h : CN μ ν) (hv : Vd ν) (p : Int32) (c : Nat) (hp : p.toInt = c) (hc : c < nC ν) : Rd (fX1_isFlop p μ) μ (if Fb ν c = true then 1 else 0) := by
  have e := i_nat h.2.2.2.2
  have e2 := i_nat hp
  have h10 : nC ν ≤ 10 := by have := hv.1; unfold nC; omega
  have hlt : bt (Fb ν) (nC ν) < 1024 := Nat.lt_of_lt_of_le (bt_lt _ _) (Nat.pow_le_pow_right (by omega) h10)
  have hb := b_test _ hlt c (by omega)
  rw [bt_test] at hb
  unfold fX1_isFlop fX1_isFlop_K16
  rw [e, e2]
  refine rd_wp (wp_if (fun h1 => wp_ret ⟨?_, rfl⟩) (fun h1 => wp_ret ⟨?_, rfl⟩))
  · have := hb.mp h1
    rw [if_neg (by simp [hc] at this; simp [this])]; rfl
  · have h2 : ¬ (decide (c < nC ν) && Fb ν c) = false := fun h3 => h1 (hb.mpr h3)
    rw [if_pos (by simp [hc] at h2; exact h2)]; rfl
theorem vd_path (hv : Vd ν) (p : Nat) (hp : p < nP ν) : p < 24 ∧ Fr ν p < nC ν ∧ To ν p < nC ν ∧ (ν 7 p = (Fr ν p : Nat)) ∧ (ν 8 p = (To ν p : Nat)) ∧ nC ν ≤ 10 := by
  have h1 := hv.2.2.2.1 p hp
  have h0 := hv.1
  unfold nP at hp
  unfold Fr To nC
  omega
theorem vd_cell (hv : Vd ν) (c : Nat) (hc : c < nC ν) : c < 10 ∧ Ph ν c < nH ν ∧ (ν 3 c = (Ph ν c : Nat)) ∧ nH ν ≤ 4 := by
  have h1 := hv.2.2.1 c hc
  have h0 := hv.1
  unfold nC at hc
  unfold Ph nH
  omega
theorem b_mod64 : ∀ n : Nat, n < 127 → (((Int32.ofInt ((n : Int) - 63)) - 1 &&& 63) + 1).toInt = (if (n : Int) - 63 ≤ 0 then (n : Int) - 63 + 64 else (n : Int) - 63) := by decide +kernel
theorem i_int {x : Int32} {z : Int} (h : x.toInt = z) : x = Int32.ofInt z := by
  have h1 : (Int32.ofInt z).toInt = z := by
    rw [Int32.toInt_ofInt, t_bmod]
    have := t_hi x
    have := t_lo x
    omega
  exact Int32.toInt_inj.mp (h.trans h1.symm)
theorem sX1_shiftOf (h : CN μ ν) (hv : Vd ν) (p : Int32) (k : Nat) (hp : p.toInt = k) (hk : k < nP ν) : Rd (fX1_shiftOf p μ) μ (Sh ν k) := by
  obtain ⟨a1, a2, a3, a4, a5, a6⟩ := vd_path hv k hk
  have e := h.2.2.2.1 k hk
  obtain ⟨b1, b2, b3, b4⟩ := vd_cell hv _ a3
  obtain ⟨d1, d2, d3, d4⟩ := vd_cell hv _ a2
  have f1 := h.2.2.1 _ a3
  have f2 := h.2.2.1 _ a2
  have g1 := h.2.1 _ b2
  have g2 := h.2.1 _ d2
  have v1 := hv.2.1 _ b2
  have v2 := hv.2.1 _ d2
  unfold fX1_shiftOf
  refine rd_wp (wp_rd k hp a1 (wp_rd (To ν k) (by rw [e.2.1, a5]) b1 (wp_rd (Ph ν (To ν k)) (by rw [f1.2.1, b3]) (by omega) (wp_rd k hp a1 (wp_rd (Fr ν k) (by rw [e.1, a4]) d1 (wp_rd (Ph ν (Fr ν k)) (by rw [f2.2.1, d3]) (by omega) (wp_let (wp_ret ⟨?_, rfl⟩))))))))
  have hz : (μ.1 4 (Ph ν (To ν k)) - μ.1 4 (Ph ν (Fr ν k))).toInt = ν 1 (Ph ν (To ν k)) - ν 1 (Ph ν (Fr ν k)) := by
    rw [t_sub, g1.2.1, g2.2.1]; omega
  have hn := b_mod64 (ν 1 (Ph ν (To ν k)) - ν 1 (Ph ν (Fr ν k)) + 63).toNat (by omega)
  have hc : (((ν 1 (Ph ν (To ν k)) - ν 1 (Ph ν (Fr ν k)) + 63).toNat : Nat) : Int) - 63 = ν 1 (Ph ν (To ν k)) - ν 1 (Ph ν (Fr ν k)) := by omega
  rw [hc] at hn
  rw [i_int hz]
  exact hn
theorem sh_bd (hv : Vd ν) (k : Nat) (hk : k < nP ν) : 1 ≤ Sh ν k ∧ Sh ν k ≤ 64 := by
  obtain ⟨a1, a2, a3, a4, a5, a6⟩ := vd_path hv k hk
  obtain ⟨b1, b2, b3, b4⟩ := vd_cell hv _ a3
  obtain ⟨d1, d2, d3, d4⟩ := vd_cell hv _ a2
  have v1 := hv.2.1 _ b2
  have v2 := hv.2.1 _ d2
  unfold Sh
  split <;> omega
theorem dl_bd (hv : Vd ν) (k : Nat) (hk : k < nP ν) : 0 ≤ Dl ν k ∧ Dl ν k ≤ 76608 := by
  obtain ⟨a1, a2, a3, a4, a5, a6⟩ := vd_path hv k hk
  have h1 := hv.2.2.1 _ a2
  have h2 := hv.2.2.2.1 k hk
  have h0 := hv.1
  unfold Dl
  omega
theorem sX1_delayOf (h : CN μ ν) (hv : Vd ν) (p : Int32) (k : Nat) (hp : p.toInt = k) (hk : k < nP ν) : Rd (fX1_delayOf p μ) μ (Dl ν k) := by
  obtain ⟨a1, a2, a3, a4, a5, a6⟩ := vd_path hv k hk
  have e := h.2.2.2.1 k hk
  have f2 := h.2.2.1 _ a2
  have e0 := h.1
  have h1 := hv.2.2.1 _ a2
  have h2 := hv.2.2.2.1 k hk
  have h0 := hv.1
  unfold fX1_delayOf
  refine rd_wp (wp_rd k hp a1 (wp_rd (Fr ν k) (by rw [e.1, a4]) (by omega) (wp_rd k hp a1 (wp_ret ⟨?_, rfl⟩))))
  simp only [t_mul, t_add, Int32.reduceToInt, f2.2.2.2.2, e.2.2.1, e0.2.2.2.2.1]
  unfold Dl
  omega
end CNET
