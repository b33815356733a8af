/-! cuts: rows of paths that tell why it isn't good -/
def sm (f : Nat → Int) : Nat → Int
  | 0 => 0
  | n + 1 => sm f n + f n
theorem sm_congr {f g : Nat → Int} {n : Nat} (h : ∀ i, i < n → f i = g i) : sm f n = sm g n := by
  induction n with
  | zero => rfl
  | succ n ih => simp only [sm]; rw [ih (fun i hi => h i (by omega)), h n (by omega)]
theorem sm_bd {f : Nat → Int} {n : Nat} {b : Int} (h : ∀ i, i < n → 0 ≤ f i ∧ f i ≤ b) : 0 ≤ sm f n ∧ sm f n ≤ n * b := by
  induction n with
  | zero => exact ⟨Int.le_refl 0, by simp [sm]⟩
  | succ n ih =>
    have a := ih (fun i hi => h i (by omega))
    have d := h n (by omega)
    simp only [sm]
    refine ⟨by omega, ?_⟩
    have : ((n + 1 : Nat) : Int) * b = n * b + b := by rw [Int.natCast_add, Int.add_mul]; simp
    rw [this]
    omega
theorem sm_wt (ν : Nv) (T : Int) (q : Nat → Nat) (n : Nat) : sm (fun i => Wt ν T (q i)) n = sm (fun i => Dl ν (q i)) n - T * sm (fun i => Sh ν (q i)) n := by
  induction n with
  | zero => simp [sm]
  | succ n ih =>
    simp only [sm]
    rw [ih, Int.mul_add, Int.mul_comm T (Sh ν (q n))]
    unfold Wt
    omega
theorem pigeon : ∀ (n : Nat) (f : Nat → Nat), (∀ i, i ≤ n → f i < n) → ∃ i j, i < j ∧ j ≤ n ∧ f i = f j := by
  intro n
  induction n with
  | zero => intro f h; exact absurd (h 0 (Nat.le_refl 0)) (by omega)
  | succ n ih =>
    intro f h
    by_cases hx : ∃ i, i ≤ n ∧ f i = f (n + 1)
    · obtain ⟨i, hi, e⟩ := hx
      exact ⟨i, n + 1, by omega, by omega, e⟩
    · have hne : ∀ i, i ≤ n → f i ≠ f (n + 1) := fun i hi e => hx ⟨i, hi, e⟩
      obtain ⟨i, j, h1, h2, e⟩ := ih (fun i => if f i < f (n + 1) then f i else f i - 1) (fun i hi => by
        have a := h i (by omega)
        have b := h (n + 1) (by omega)
        have d := hne i hi
        show (if f i < f (n + 1) then f i else f i - 1) < n
        split <;> omega)
      refine ⟨i, j, h1, by omega, ?_⟩
      have a := hne i (by omega)
      have b := hne j (by omega)
      have e : (if f i < f (n + 1) then f i else f i - 1) = (if f j < f (n + 1) then f j else f j - 1) := e
      split at e <;> split at e <;> omega
section CUT
variable {ν : Nv}
/-- paths one behind another, each from where the one before it in the row comes from -/
def Row (ν : Nv) (n : Nat) (q : Nat → Nat) : Prop := (∀ i, i < n → q i < nP ν) ∧ ∀ i, i + 1 < n → To ν (q (i + 1)) = Fr ν (q i) ∧ Fb ν (To ν (q (i + 1))) = false
theorem row_end (hv : Vd ν) {T : Int} {n : Nat} {q : Nat → Nat} {g : Nat} (hr : Row ν n q) (hg : g < nC ν) (hg0 : 0 < n → g = To ν (q 0)) (hg1 : n = 0 → Fb ν g = false) (hG : gd ν T = true) : sm (fun i => Wt ν T (q i)) n ≤ Lm ν T g := by
  obtain ⟨U, hU, h1, h2⟩ := (gd_iff hv).mp hG
  cases n with
  | zero =>
    have a := h1 g hg (hg1 rfl)
    have b := (hU.1 g hg).1
    show (0 : Int) ≤ _
    omega
  | succ n =>
    have key : ∀ i, i < n + 1 → U (Fr ν (q i)) + sm (fun i => Wt ν T (q i)) (i + 1) ≤ Lm ν T g := by
      intro i
      induction i with
      | zero =>
        intro _
        have hq := hr.1 0 (by omega)
        have hg2 := hg0 (by omega)
        simp only [sm]
        by_cases hf : Fb ν (To ν (q 0)) = true
        · have := h2 (q 0) hq hf
          rw [← hg2] at this
          omega
        · have a := hU.2 (q 0) hq (by simpa using hf)
          have b := h1 g hg (by rw [hg2]; simpa using hf)
          rw [← hg2] at a
          omega
      | succ i ih =>
        intro hi
        have a := ih (by omega)
        have b := hr.2 i (by omega)
        have d := hU.2 (q (i + 1)) (hr.1 (i + 1) hi) b.2
        rw [b.1] at d
        have e : sm (fun i => Wt ν T (q i)) (i + 1 + 1) = sm (fun i => Wt ν T (q i)) (i + 1) + Wt ν T (q (i + 1)) := rfl
        rw [e]
        omega
    have a := key n (by omega)
    have b := (hU.1 _ (vd_rng hv _ (hr.1 n (by omega))).1).1
    omega
theorem row_loop (hv : Vd ν) {T : Int} {n : Nat} {q : Nat → Nat} (hr : Row ν (n + 1) q) (hc : To ν (q 0) = Fr ν (q n)) (hf : Fb ν (To ν (q 0)) = false) (hb : bd ν T = true) : sm (fun i => Wt ν T (q i)) (n + 1) ≤ 0 := by
  obtain ⟨U, hU⟩ := (bd_iff hv).mp hb
  have key : ∀ i, i < n + 1 → U (Fr ν (q i)) + sm (fun i => Wt ν T (q i)) (i + 1) ≤ U (To ν (q 0)) := by
    intro i
    induction i with
    | zero =>
      intro _
      have a := hU.2 (q 0) (hr.1 0 (by omega)) hf
      simp only [sm]
      omega
    | succ i ih =>
      intro hi
      have a := ih (by omega)
      have b := hr.2 i (by omega)
      have d := hU.2 (q (i + 1)) (hr.1 (i + 1) hi) b.2
      rw [b.1] at d
      have e : sm (fun i => Wt ν T (q i)) (i + 1 + 1) = sm (fun i => Wt ν T (q i)) (i + 1) + Wt ν T (q (i + 1)) := rfl
      rw [e]
      omega
  have a := key n (by omega)
  rw [hc] at a
  omega
/-- a cut: its paths, its need, its width -/
def Cut (ν : Nv) (n : Nat) (q : Nat → Nat) (N w : Int) : Prop :=
  Row ν n q ∧ (∀ i j, i < n → j < n → q i = q j → i = j) ∧
  ((∃ g, g < nC ν ∧ (0 < n → g = To ν (q 0)) ∧ (n = 0 → Fb ν g = false) ∧ N = sm (fun i => Dl ν (q i)) n + 64 * ν 4 g ∧ w = (if Fb ν g = true then 0 else ν 2 (Ph ν g))) ∨
   (0 < n ∧ To ν (q 0) = Fr ν (q (n - 1)) ∧ Fb ν (To ν (q 0)) = false ∧ N = sm (fun i => Dl ν (q i)) n ∧ w = 0) ∨ (n = 0 ∧ N = 0 ∧ w = 0))
theorem gd_bd {T : Int} (h : gd ν T = true) : bd ν T = true := by
  unfold gd at h
  exact (Bool.and_eq_true _ _ ▸ h).1
/-- wherever it is good, a cut's need is within the period times its span -/
theorem cut_ok (hv : Vd ν) {T : Int} {n : Nat} {q : Nat → Nat} {N w : Int} (hc : Cut ν n q N w) (hG : gd ν T = true) : N ≤ T * (w + sm (fun i => Sh ν (q i)) n) := by
  obtain ⟨hr, -, hk⟩ := hc
  have hs := sm_wt ν T q n
  rw [Int.mul_add]
  rcases hk with ⟨g, hg, hg0, hg1, hN, hw⟩ | ⟨hn, hc, hf, hN, hw⟩ | ⟨hn, hN, hw⟩
  · have a := row_end hv hr hg hg0 hg1 hG
    unfold Lm at a
    rw [hw]
    by_cases hf : Fb ν g = true
    · rw [if_pos hf] at a ⊢
      rw [Int.mul_zero]
      omega
    · rw [if_neg hf] at a ⊢
      rw [Int.mul_comm T (ν 2 (Ph ν g))]
      omega
  · have a := row_loop hv (n := n - 1) (q := q) (by rw [show n - 1 + 1 = n by omega]; exact hr) hc hf (gd_bd hG)
    rw [show n - 1 + 1 = n by omega] at a
    rw [hw, Int.mul_zero]
    omega
  · subst hn
    rw [hw, hN]
    simp [sm]
/-! leads -/
def Ldk (ν : Nv) (ld : Nat → Int) : Prop := ∀ c, c < nC ν → ld c = -1 ∨ ∃ p, p < nP ν ∧ ld c = (p : Nat) ∧ To ν p = c ∧ Fb ν c = false
def qn (ν : Nv) (ld : Nat → Int) (a : Nat) : Nat → Nat
  | 0 => a
  | j + 1 => (ld (Fr ν (qn ν ld a j))).toNat
def al (ν : Nv) (ld : Nat → Int) (a : Nat) (i : Nat) : Prop := ∀ j, j < i → ld (Fr ν (qn ν ld a j)) ≠ -1
theorem al_path (hv : Vd ν) {ld : Nat → Int} (hl : Ldk ν ld) {a : Nat} (ha : a < nP ν) {i : Nat} (h : al ν ld a i) : ∀ j, j ≤ i → qn ν ld a j < nP ν := by
  intro j
  induction j with
  | zero => intro _; exact ha
  | succ j ih =>
    intro hj
    have h1 := ih (by omega)
    rcases hl _ (vd_rng hv _ h1).1 with h2 | ⟨p, hp, e, -⟩
    · exact absurd h2 (h j (by omega))
    · show (ld (Fr ν (qn ν ld a j))).toNat < _
      rw [e]
      omega
theorem al_next (hv : Vd ν) {ld : Nat → Int} (hl : Ldk ν ld) {a : Nat} (ha : a < nP ν) {i : Nat} (h : al ν ld a i) (j : Nat) (hj : j < i) : ld (Fr ν (qn ν ld a j)) = (qn ν ld a (j + 1) : Nat) ∧ To ν (qn ν ld a (j + 1)) = Fr ν (qn ν ld a j) ∧ Fb ν (To ν (qn ν ld a (j + 1))) = false := by
  have h1 := al_path hv hl ha h j (by omega)
  rcases hl _ (vd_rng hv _ h1).1 with h2 | ⟨p, hp, e, e2, e3⟩
  · exact absurd h2 (h j hj)
  · have e4 : qn ν ld a (j + 1) = p := by
      show (ld (Fr ν (qn ν ld a j))).toNat = p
      rw [e]
      omega
    rw [e4, e2]
    exact ⟨e, rfl, e3⟩
theorem al_row (hv : Vd ν) {ld : Nat → Int} (hl : Ldk ν ld) {a : Nat} (ha : a < nP ν) {n : Nat} (h : al ν ld a (n - 1)) : Row ν n (qn ν ld a) := by
  refine ⟨fun i hi => al_path hv hl ha h i (by omega), fun i hi => ?_⟩
  exact (al_next hv hl ha h i (by omega)).2
theorem qn_add {ld : Nat → Int} {a : Nat} {i j : Nat} (h : qn ν ld a i = qn ν ld a j) (k : Nat) : qn ν ld a (i + k) = qn ν ld a (j + k) := by
  induction k with
  | zero => exact h
  | succ k ih =>
    show (ld (Fr ν (qn ν ld a (i + k)))).toNat = (ld (Fr ν (qn ν ld a (j + k)))).toNat
    rw [ih]
theorem al_distinct {ld : Nat → Int} {a n : Nat} (h : al ν ld a (n - 1)) (he : ld (Fr ν (qn ν ld a (n - 1))) = -1) : ∀ i j, i < n → j < n → qn ν ld a i = qn ν ld a j → i = j := by
  have key : ∀ i j, i < j → j < n → qn ν ld a i ≠ qn ν ld a j := by
    intro i j hij hj e
    have h1 := qn_add e (n - 1 - j)
    have h2 : j + (n - 1 - j) = n - 1 := by omega
    rw [h2] at h1
    have h3 := h (i + (n - 1 - j)) (by omega)
    rw [h1] at h3
    exact h3 he
  intro i j hi hj e
  by_cases h1 : i < j
  · exact absurd e (key i j h1 hj)
  · by_cases h2 : j < i
    · exact absurd e.symm (key j i h2 hi)
    · omega
/-- more leads than cells: the last of them is led back to -/
theorem al_loop (hv : Vd ν) {ld : Nat → Int} (hl : Ldk ν ld) {a : Nat} (ha : a < nP ν) (h : al ν ld a (nC ν + 1)) : ∃ d, 0 < d ∧ d ≤ nC ν ∧ qn ν ld a (nC ν + 1 + d) = qn ν ld a (nC ν + 1) ∧ ∀ k, al ν ld a k := by
  obtain ⟨i, j, h1, h2, e⟩ := pigeon (nC ν) (fun i => Fr ν (qn ν ld a i)) (fun i hi => (vd_rng hv _ (al_path hv hl ha h i (by omega))).1)
  have e2 : qn ν ld a (i + 1) = qn ν ld a (j + 1) := by
    show (ld (Fr ν (qn ν ld a i))).toNat = (ld (Fr ν (qn ν ld a j))).toNat
    rw [e]
  have per : ∀ k, i + 1 ≤ k → qn ν ld a (k + (j - i)) = qn ν ld a k := by
    intro k hk
    have h3 := qn_add e2 (k - (i + 1))
    rw [show i + 1 + (k - (i + 1)) = k by omega, show j + 1 + (k - (i + 1)) = k + (j - i) by omega] at h3
    exact h3.symm
  refine ⟨j - i, by omega, by omega, per _ (by omega), ?_⟩
  have all : ∀ k, ld (Fr ν (qn ν ld a k)) ≠ -1 := by
    intro k
    induction k using Nat.strongRecOn with
    | ind k ih =>
      by_cases hk : k < nC ν + 1
      · exact h k hk
      · have h4 := per (k - (j - i)) (by omega)
        rw [show k - (j - i) + (j - i) = k by omega] at h4
        rw [h4]
        exact ih _ (by omega)
  exact fun k j _ => all j
end CUT
