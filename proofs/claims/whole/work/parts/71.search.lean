/-! the reference's search: where it stands, and how long it may go on -/
def okp (ν : Nv) (s : Nat) (r : Nat → Nat) (m p : Nat) : Prop := p < nP ν ∧ Fr ν p = r (m - 1) ∧ Fb ν (To ν p) = false ∧ s ≤ To ν p ∧ (To ν p = s ∨ ¬ ∃ i, i < m ∧ r i = To ν p)
def P3 (s : Nat) (r : Nat → Nat) (t : Nat → Int) (m : Nat) (z : Int) (M : Nat) (ρ q : Nat → Nat) : Prop := ρ 0 < s ∨ (∃ i, i + 1 < m ∧ i < M ∧ (∀ j, j < i + 1 → ρ j = r j) ∧ ((q i : Nat) : Int) < t i) ∨ (m ≤ M ∧ (∀ j, j < m → ρ j = r j) ∧ ((q (m - 1) : Nat) : Int) ≤ z)
def Pd (ν : Nv) (s : Nat) (r : Nat → Nat) (t : Nat → Int) (m : Nat) (z : Int) (M : Nat) (ρ : Nat → Nat) : Prop := ∃ q, Lop ν M ρ q ∧ P3 s r t m z M ρ q
/-- the stack -/
def SK (ν : Nv) (s : Nat) (r : Nat → Nat) (t : Nat → Int) (m : Nat) : Prop := r 0 = s ∧ (∀ i, i < m → r i < nC ν ∧ Fb ν (r i) = false ∧ s ≤ r i) ∧ (∀ i j, i < m → j < m → r i = r j → i = j) ∧ (∀ i, i + 1 < m → ∃ p : Nat, t i = (p : Int) ∧ p < nP ν ∧ Fr ν p = r i ∧ To ν p = r (i + 1)) ∧ ∀ i, i < m → -1 ≤ t i ∧ t i < (nP ν : Int)
section SRC
variable {ν : Nv}
theorem pd_q (hv : Vd ν) {s m M : Nat} {r ρ q : Nat → Nat} {t : Nat → Int} {z : Int} (hm : 1 ≤ m) (l : Lop ν M ρ q) : Pd ν s r t m z M ρ ↔ P3 s r t m z M ρ q := by
  constructor
  · rintro ⟨q2, l2, h⟩
    have hq := lop_q hv l l2 (fun _ _ => rfl)
    rcases h with h | ⟨i, h1, h2, h3, h4⟩ | ⟨h1, h2, h3⟩
    · exact Or.inl h
    · exact Or.inr (Or.inl ⟨i, h1, h2, h3, by rw [hq i h2]; exact h4⟩)
    · exact Or.inr (Or.inr ⟨h1, h2, by rw [hq (m - 1) (by omega)]; exact h3⟩)
  · exact fun h => ⟨q, l, h⟩
theorem lop_okp {s m M : Nat} {r ρ q : Nat → Nat} (l : Lop ν M ρ q) (hm : 1 ≤ m) (hM : m ≤ M) (hr : r 0 = s) (ha : ∀ j, j < m → ρ j = r j) : okp ν s r m (q (m - 1)) := by
  have a := l.2.1 (m - 1) (by omega)
  have e0 : ρ 0 = s := by rw [ha 0 (by omega), hr]
  refine ⟨a.1, by rw [a.2.1, ha (m - 1) (by omega)], ?_⟩
  rw [a.2.2.1]
  by_cases e : M = m
  · have n0 : nx M (m - 1) = 0 := by unfold nx; rw [if_pos (by omega)]
    rw [n0, e0]
    have b := l.2.1 0 (by omega)
    rw [e0] at b
    exact ⟨b.2.2.2.1, Nat.le_refl _, Or.inl rfl⟩
  · have n1 : nx M (m - 1) = m := by unfold nx; rw [if_neg (by omega)]; omega
    rw [n1]
    have b := l.2.1 m (by omega)
    refine ⟨b.2.2.2.1, by rw [← e0]; exact b.2.2.2.2, Or.inr ?_⟩
    rintro ⟨i, h1, h2⟩
    have := l.2.2 i m (by omega) (by omega) (by rw [ha i h1]; exact h2)
    omega
theorem p3_close (hv : Vd ν) {s m M p : Nat} {r ρ q : Nat → Nat} {t : Nat → Int} {z : Int} (l : Lop ν M ρ q) (hm : 1 ≤ m) (hr : r 0 = s) (hp : okp ν s r m p) (hps : To ν p = s) (hz : z < (p : Int)) (hno : ∀ x : Nat, z < (x : Int) → x < p → ¬ okp ν s r m x) : P3 s r t m (p : Int) M ρ q ↔ (P3 s r t m z M ρ q ∨ (M = m ∧ ∀ j, j < m → ρ j = r j)) := by
  unfold P3
  constructor
  · rintro (h | h | ⟨h1, h2, h3⟩)
    · exact Or.inl (Or.inl h)
    · exact Or.inl (Or.inr (Or.inl h))
    · have ok := lop_okp l hm h1 hr h2
      by_cases e : ((q (m - 1) : Nat) : Int) ≤ z
      · exact Or.inl (Or.inr (Or.inr ⟨h1, h2, e⟩))
      · have ep : q (m - 1) = p := by
          by_cases e2 : q (m - 1) < p
          · exact absurd ok (hno _ (by omega) e2)
          · omega
        right
        refine ⟨?_, h2⟩
        by_cases eM : M = m
        · exact eM
        · have a := l.2.1 (m - 1) (by omega)
          have n1 : nx M (m - 1) = m := by unfold nx; rw [if_neg (by omega)]; omega
          rw [n1, ep, hps] at a
          have := l.2.2 m 0 (by omega) (by omega) (by rw [← a.2.2.1, h2 0 (by omega), hr])
          omega
  · rintro ((h | h | ⟨h1, h2, h3⟩) | ⟨h1, h2⟩)
    · exact Or.inl h
    · exact Or.inr (Or.inl h)
    · exact Or.inr (Or.inr ⟨h1, h2, by omega⟩)
    · have a := l.2.1 (m - 1) (by omega)
      have n0 : nx M (m - 1) = 0 := by unfold nx; rw [if_pos (by omega)]
      rw [n0] at a
      have p1 := vd_path hv _ a.1
      have p2 := vd_path hv _ hp.1
      have : q (m - 1) = p := by
        refine hv.2.2.2.2 _ _ a.1 hp.1 ?_ ?_
        · rw [p1.2.2.2.1, p2.2.2.2.1, a.2.1, hp.2.1, h2 (m - 1) (by omega)]
        · rw [p1.2.2.2.2.1, p2.2.2.2.2.1, a.2.2.1, hps, h2 0 (by omega), hr]
      exact Or.inr (Or.inr ⟨by omega, h2, by rw [this]; omega⟩)
def tu (t : Nat → Int) (k : Nat) (x : Int) : Nat → Int := fun i => if i = k then x else t i
theorem tu_at (t : Nat → Int) (k : Nat) (x : Int) : tu t k x k = x := if_pos rfl
theorem tu_ne {t : Nat → Int} {k i : Nat} {x : Int} (h : i ≠ k) : tu t k x i = t i := if_neg h
theorem p3_push {s m M p u : Nat} {r ρ q : Nat → Nat} {t : Nat → Int} {z w : Int} (l : Lop ν M ρ q) (hm : 1 ≤ m) (hr : r 0 = s) (hz : z < (p : Int)) (hno : ∀ x : Nat, z < (x : Int) → x < p → ¬ okp ν s r m x) : P3 s (snoc r m u) (tu (tu t (m - 1) (p : Int)) m w) (m + 1) (-1) M ρ q ↔ P3 s r t m z M ρ q := by
  unfold P3
  constructor
  · rintro (h | ⟨i, h1, h2, h3, h4⟩ | ⟨h1, h2, h3⟩)
    · exact Or.inl h
    · have h3 : ∀ j, j < i + 1 → ρ j = r j := (snoc_agree2 (by omega)).mp h3
      rw [tu_ne (by omega)] at h4
      by_cases e : i = m - 1
      · subst e
        rw [tu_at] at h4
        have h3 : ∀ j, j < m → ρ j = r j := fun j hj => h3 j (by omega)
        have ok := lop_okp l hm (by omega) hr h3
        refine Or.inr (Or.inr ⟨by omega, h3, ?_⟩)
        by_cases e2 : ((q (m - 1) : Nat) : Int) ≤ z
        · exact e2
        · exact absurd ok (hno _ (by omega) (by omega))
      · rw [tu_ne e] at h4
        exact Or.inr (Or.inl ⟨i, by omega, h2, h3, h4⟩)
    · omega
  · rintro (h | ⟨i, h1, h2, h3, h4⟩ | ⟨h1, h2, h3⟩)
    · exact Or.inl h
    · exact Or.inr (Or.inl ⟨i, by omega, h2, (snoc_agree2 (by omega)).mpr h3, by rw [tu_ne (by omega), tu_ne (by omega)]; exact h4⟩)
    · refine Or.inr (Or.inl ⟨m - 1, by omega, by omega, (snoc_agree2 (by omega)).mpr (fun j hj => h2 j (by omega)), ?_⟩)
      rw [tu_ne (by omega), tu_at]
      omega
theorem p3_pop (hv : Vd ν) {s m M : Nat} {r ρ q : Nat → Nat} {t : Nat → Int} {z : Int} (l : Lop ν M ρ q) (hm : 1 ≤ m) (hS : SK ν s r t (m + 1)) (hno : ∀ x : Nat, z < (x : Int) → ¬ okp ν s r (m + 1) x) : P3 s r t (m + 1) z M ρ q ↔ P3 s r t m (t (m - 1)) M ρ q := by
  obtain ⟨s1, s2, s3, s4, s5⟩ := hS
  obtain ⟨p, p1, p2, p3, p4⟩ := s4 (m - 1) (by omega)
  rw [show m - 1 + 1 = m by omega] at p4
  unfold P3
  constructor
  · rintro (h | ⟨i, h1, h2, h3, h4⟩ | ⟨h1, h2, h3⟩)
    · exact Or.inl h
    · by_cases e : i = m - 1
      · subst e
        exact Or.inr (Or.inr ⟨by omega, fun j hj => h3 j (by omega), by omega⟩)
      · exact Or.inr (Or.inl ⟨i, by omega, h2, h3, h4⟩)
    · refine Or.inr (Or.inr ⟨by omega, fun j hj => h2 j (by omega), ?_⟩)
      have a := l.2.1 (m - 1) (by omega)
      have n1 : nx M (m - 1) = m := by unfold nx; rw [if_neg (by omega)]; omega
      rw [n1] at a
      have v1 := vd_path hv _ a.1
      have v2 := vd_path hv _ p2
      have : q (m - 1) = p := by
        refine hv.2.2.2.2 _ _ a.1 p2 ?_ ?_
        · rw [v1.2.2.2.1, v2.2.2.2.1, a.2.1, p3, h2 (m - 1) (by omega)]
        · rw [v1.2.2.2.2.1, v2.2.2.2.2.1, a.2.2.1, p4, h2 m (by omega)]
      rw [this, p1]
      omega
  · rintro (h | ⟨i, h1, h2, h3, h4⟩ | ⟨h1, h2, h3⟩)
    · exact Or.inl h
    · exact Or.inr (Or.inl ⟨i, by omega, h2, h3, h4⟩)
    · by_cases e : ((q (m - 1) : Nat) : Int) < t (m - 1)
      · exact Or.inr (Or.inl ⟨m - 1, by omega, by omega, fun j hj => h2 j (by omega), e⟩)
      · have eq : q (m - 1) = p := by omega
        have a := l.2.1 (m - 1) (by omega)
        rw [eq, p4] at a
        have hM : M ≠ m := by
          intro eM
          have n0 : nx M (m - 1) = 0 := by unfold nx; rw [if_pos (by omega)]
          rw [n0, h2 0 (by omega)] at a
          have := s3 m 0 (by omega) (by omega) a.2.2.1
          omega
        have n1 : nx M (m - 1) = m := by unfold nx; rw [if_neg (by omega)]; omega
        rw [n1] at a
        have h2' : ∀ j, j < m + 1 → ρ j = r j := fun j hj => by
          by_cases ej : j = m
          · rw [ej]; exact a.2.2.1.symm
          · exact h2 j (by omega)
        have ok := lop_okp l (by omega) (show m + 1 ≤ M by omega) s1 h2'
        refine Or.inr (Or.inr ⟨by omega, h2', ?_⟩)
        by_cases e2 : ((q (m + 1 - 1) : Nat) : Int) ≤ z
        · exact e2
        · exact absurd ok (hno _ (by omega))
theorem p3_pop0 {s M : Nat} {r ρ q : Nat → Nat} {t : Nat → Int} {z : Int} (l : Lop ν M ρ q) (hr : r 0 = s) (hno : ∀ x : Nat, z < (x : Int) → ¬ okp ν s r 1 x) : P3 s r t 1 z M ρ q ↔ ρ 0 < s + 1 := by
  unfold P3
  constructor
  · rintro (h | ⟨i, h1, -⟩ | ⟨h1, h2, h3⟩)
    · omega
    · omega
    · have := h2 0 (by omega)
      omega
  · intro h
    by_cases e : ρ 0 < s
    · exact Or.inl e
    · have ha : ∀ j, j < 1 → ρ j = r j := fun j hj => by
        have : j = 0 := by omega
        rw [this, hr]
        omega
      have ok := lop_okp l (by omega) l.1 hr ha
      refine Or.inr (Or.inr ⟨l.1, ha, ?_⟩)
      by_cases e2 : ((q (1 - 1) : Nat) : Int) ≤ z
      · exact e2
      · exact absurd ok (hno _ (by omega))
/-! how long -/
def pr (f : Nat → Nat) : Nat → Nat
  | 0 => 1
  | n + 1 => pr f n * f n
def sn (f : Nat → Nat) : Nat → Nat
  | 0 => 0
  | n + 1 => sn f n + f n
theorem pr_congr {f g : Nat → Nat} {n : Nat} (h : ∀ i, i < n → f i = g i) : pr f n = pr g n := by
  induction n with
  | zero => rfl
  | succ n ih => simp only [pr]; rw [ih (fun i hi => h i (by omega)), h n (by omega)]
theorem pr_one {f g : Nat → Nat} {n u : Nat} (hu : u < n) (h : ∀ i, i < n → i ≠ u → f i = g i) (hg : g u = 1) : pr f n = f u * pr g n := by
  induction n with
  | zero => omega
  | succ n ih =>
    simp only [pr]
    by_cases e : u = n
    · subst e
      rw [pr_congr (fun i hi => h i (by omega) (by omega)), hg, Nat.mul_one, Nat.mul_comm]
    · rw [ih (by omega) (fun i hi hne => h i (by omega) hne), h n (by omega) (Ne.symm e), Nat.mul_assoc]
theorem pr_pos {f : Nat → Nat} {n : Nat} (h : ∀ i, i < n → 1 ≤ f i) : 1 ≤ pr f n := by
  induction n with
  | zero => exact Nat.le_refl 1
  | succ n ih =>
    simp only [pr]
    exact Nat.mul_pos (ih (fun i hi => h i (by omega))) (h n (by omega))
theorem one_bd : ∀ d, d < 25 → 16 * (1 + d) * 3 ^ d ≤ 27 * 4 ^ d := by decide +kernel
theorem pr_bd {d : Nat → Nat} (hd : ∀ i, d i < 25) (n : Nat) : 16 ^ n * 3 ^ sn d n * pr (fun i => 1 + d i) n ≤ 27 ^ n * 4 ^ sn d n := by
  induction n with
  | zero => exact Nat.le_refl _
  | succ n ih =>
    have h := Nat.mul_le_mul ih (one_bd (d n) (hd n))
    have e1 : 16 ^ (n + 1) * 3 ^ sn d (n + 1) * pr (fun i => 1 + d i) (n + 1) = 16 ^ n * 3 ^ sn d n * pr (fun i => 1 + d i) n * (16 * (1 + d n) * 3 ^ d n) := by
      simp only [sn, pr, Nat.pow_succ, Nat.pow_add]
      ac_rfl
    have e2 : 27 ^ (n + 1) * 4 ^ sn d (n + 1) = 27 ^ n * 4 ^ sn d n * (27 * 4 ^ d n) := by
      simp only [sn, Nat.pow_succ, Nat.pow_add]
      ac_rfl
    rw [e1, e2]
    exact h
theorem big_bd : ∀ S, S < 25 → 27 ^ 10 * 4 ^ S < 16 ^ 10 * 3 ^ S * 400000 := by decide +kernel
theorem pr_10 {d : Nat → Nat} (hd : ∀ i, d i < 25) (hs : sn d 10 < 25) : pr (fun i => 1 + d i) 10 < 400000 := by
  have h1 := pr_bd hd 10
  have h2 := big_bd _ hs
  by_cases e : pr (fun i => 1 + d i) 10 < 400000
  · exact e
  · exfalso
    have h3 : 16 ^ 10 * 3 ^ sn d 10 * 400000 ≤ 16 ^ 10 * 3 ^ sn d 10 * pr (fun i => 1 + d i) 10 := Nat.mul_le_mul_left _ (by omega)
    have h4 := Nat.le_trans h3 h1
    exact Nat.lt_irrefl _ (Nat.lt_of_lt_of_le h2 h4)
def dg (ν : Nv) (x : Nat) : Nat := cnt (fun p => decide (Fr ν p = x)) (nP ν)
def rem (ν : Nv) (v : Nat) (z : Int) : Nat := cnt (fun p => decide (z < (p : Int)) && decide (Fr ν p = v)) (nP ν)
theorem sn_add (f g : Nat → Nat) (n : Nat) : sn (fun i => f i + g i) n = sn f n + sn g n := by
  induction n with
  | zero => rfl
  | succ n ih => simp only [sn]; rw [ih]; omega
theorem sn_one (a n : Nat) : sn (fun x => if decide (a = x) = true then 1 else 0) n ≤ 1 ∧ (n ≤ a → sn (fun x => if decide (a = x) = true then 1 else 0) n = 0) := by
  induction n with
  | zero => exact ⟨Nat.zero_le _, fun _ => rfl⟩
  | succ n ih =>
    simp only [sn]
    by_cases e : a = n
    · have := ih.2 (by omega)
      rw [this, if_pos (decide_eq_true e)]
      exact ⟨Nat.le_refl _, fun h => by omega⟩
    · rw [if_neg (by simpa using e)]
      exact ⟨ih.1, fun h => ih.2 (by omega)⟩
theorem dg_sum (ν : Nv) (k n : Nat) : sn (fun x => cnt (fun p => decide (Fr ν p = x)) n) k ≤ n := by
  induction n with
  | zero =>
    have : ∀ k, sn (fun x => cnt (fun p => decide (Fr ν p = x)) 0) k = 0 := by
      intro k
      induction k with
      | zero => rfl
      | succ k ih => simp only [sn]; rw [ih]; rfl
    rw [this]; exact Nat.le_refl 0
  | succ n ih =>
    have e : (fun x => cnt (fun p => decide (Fr ν p = x)) (n + 1)) = (fun x => cnt (fun p => decide (Fr ν p = x)) n + (if decide (Fr ν n = x) = true then 1 else 0)) := by
      funext x
      rfl
    rw [e, sn_add]
    have := (sn_one (Fr ν n) k).1
    omega
theorem dg_25 (hv : Vd ν) (x : Nat) : dg ν x < 25 := by
  have := vd_nums hv
  have := cnt_le (fun p => decide (Fr ν p = x)) (nP ν)
  unfold dg
  omega
def vs (r : Nat → Nat) : Nat → Nat → Bool
  | 0, x => decide (x = r 0)
  | i + 1, x => vs r i x || decide (x = r (i + 1))
theorem vs_iff {r : Nat → Nat} {i x : Nat} : vs r i x = true ↔ ∃ j, j ≤ i ∧ r j = x := by
  induction i with
  | zero =>
    show decide (x = r 0) = true ↔ _
    rw [decide_eq_true_iff]
    exact ⟨fun h => ⟨0, by omega, h.symm⟩, fun ⟨j, h1, h2⟩ => by
      have : j = 0 := by omega
      rw [← h2, this]⟩
  | succ i ih =>
    simp only [vs, Bool.or_eq_true, ih, decide_eq_true_iff]
    constructor
    · rintro (⟨j, h1, h2⟩ | h)
      · exact ⟨j, by omega, h2⟩
      · exact ⟨i + 1, by omega, h.symm⟩
    · rintro ⟨j, h1, h2⟩
      by_cases e : j = i + 1
      · subst e; exact Or.inr h2.symm
      · exact Or.inl ⟨j, by omega, h2⟩
def Gw (ν : Nv) (r : Nat → Nat) (i : Nat) : Nat := 2 * pr (fun x => if vs r i x = true then 1 else 1 + dg ν x) 10
theorem vs_congr {r r2 : Nat → Nat} {i : Nat} (h : ∀ j, j ≤ i → r j = r2 j) (x : Nat) : vs r i x = vs r2 i x := by
  cases e : vs r2 i x with
  | true =>
    obtain ⟨j, h1, h2⟩ := vs_iff.mp e
    exact vs_iff.mpr ⟨j, h1, by rw [h j h1]; exact h2⟩
  | false =>
    cases e2 : vs r i x with
    | false => rfl
    | true =>
      obtain ⟨j, h1, h2⟩ := vs_iff.mp e2
      rw [vs_iff.mpr ⟨j, h1, by rw [← h j h1]; exact h2⟩] at e
      cases e
theorem gw_congr {r r2 : Nat → Nat} {i : Nat} (h : ∀ j, j ≤ i → r j = r2 j) : Gw ν r i = Gw ν r2 i := by
  unfold Gw
  rw [pr_congr (fun x _ => by rw [vs_congr h x])]
theorem gw_two (r : Nat → Nat) (i : Nat) : 2 ≤ Gw ν r i := by
  have := pr_pos (f := fun x => if vs r i x = true then 1 else 1 + dg ν x) (n := 10) (fun x _ => by split <;> omega)
  unfold Gw
  omega
theorem gw_next {r : Nat → Nat} {i : Nat} (hu : r (i + 1) < 10) (hn : ¬ ∃ j, j ≤ i ∧ r j = r (i + 1)) : Gw ν r i = (1 + dg ν (r (i + 1))) * Gw ν r (i + 1) := by
  have hv : vs r i (r (i + 1)) = false := by
    cases e : vs r i (r (i + 1)) with
    | false => rfl
    | true => exact absurd (vs_iff.mp e) hn
  unfold Gw
  rw [pr_one (g := fun x => if vs r (i + 1) x = true then 1 else 1 + dg ν x) hu (fun x _ hne => by simp only [vs, decide_eq_false hne, Bool.or_false]) (by simp [vs])]
  simp only [hv]
  rw [if_neg (by decide)]
  ac_rfl
/-- what may still come -/
def ms (ν : Nv) (r : Nat → Nat) (t : Nat → Int) : Nat → Nat
  | 0 => 0
  | m + 1 => ms ν r t m + (rem ν (r m) (t m) * Gw ν r m + 1)
theorem ms_congr {r r2 : Nat → Nat} {t t2 : Nat → Int} {m : Nat} (h : ∀ j, j < m → r j = r2 j) (h2 : ∀ j, j < m → t j = t2 j) : ms ν r t m = ms ν r2 t2 m := by
  induction m with
  | zero => rfl
  | succ m ih => simp only [ms]; rw [ih (fun j hj => h j (by omega)) (fun j hj => h2 j (by omega)), h m (by omega), h2 m (by omega), gw_congr (fun j hj => h j (by omega))]
theorem rem_lt {v : Nat} {z : Int} {p : Nat} (hp : p < nP ν) (hz : z < (p : Int)) (hf : Fr ν p = v) : rem ν v (p : Int) < rem ν v z := by
  unfold rem
  refine cnt_lt (fun c _ h => ?_) p hp ?_ ?_
  · simp only [Bool.and_eq_true, decide_eq_true_iff] at h ⊢
    exact ⟨by omega, h.2⟩
  · simp
  · simp [hz, hf]
theorem rem_dg (v : Nat) : rem ν v (-1) ≤ dg ν v := by
  unfold rem dg
  refine cnt_mono (fun c _ h => ?_)
  simp only [Bool.and_eq_true, decide_eq_true_iff] at h ⊢
  exact h.2
theorem ms_tell {r : Nat → Nat} {t : Nat → Int} {m p : Nat} (hm : 1 ≤ m) (hp : p < nP ν) (hz : t (m - 1) < (p : Int)) (hf : Fr ν p = r (m - 1)) : ms ν r (tu t (m - 1) (p : Int)) m < ms ν r t m := by
  obtain ⟨k, rfl⟩ : ∃ k, m = k + 1 := ⟨m - 1, by omega⟩
  rw [Nat.add_sub_cancel] at hz hf ⊢
  simp only [ms]
  rw [ms_congr (r := r) (r2 := r) (t := tu t k (p : Int)) (t2 := t) (fun _ _ => rfl) (fun j hj => tu_ne (by omega)), tu_at]
  have h1 := rem_lt hp hz hf
  have h2 := gw_two (ν := ν) r k
  have h3 : (rem ν (r k) (p : Int) + 1) * Gw ν r k ≤ rem ν (r k) (t k) * Gw ν r k := Nat.mul_le_mul_right _ h1
  rw [Nat.add_mul] at h3
  omega
theorem ms_push {r : Nat → Nat} {t : Nat → Int} {m p u : Nat} (hm : 1 ≤ m) (hp : p < nP ν) (hz : t (m - 1) < (p : Int)) (hf : Fr ν p = r (m - 1)) (hu : u < 10) (hn : ¬ ∃ i, i < m ∧ r i = u) : ms ν (snoc r m u) (tu (tu t (m - 1) (p : Int)) m (-1)) (m + 1) < ms ν r t m := by
  obtain ⟨k, rfl⟩ : ∃ k, m = k + 1 := ⟨m - 1, by omega⟩
  rw [Nat.add_sub_cancel] at hz hf ⊢
  show ms ν (snoc r (k + 1) u) (tu (tu t k (p : Int)) (k + 1) (-1)) (k + 1) + (rem ν (snoc r (k + 1) u (k + 1)) (tu (tu t k (p : Int)) (k + 1) (-1) (k + 1)) * Gw ν (snoc r (k + 1) u) (k + 1) + 1) < ms ν r t (k + 1)
  rw [ms_congr (r := snoc r (k + 1) u) (r2 := r) (t := tu (tu t k (p : Int)) (k + 1) (-1)) (t2 := tu t k (p : Int)) (fun j hj => snoc_ne (by omega)) (fun j hj => tu_ne (by omega)), snoc_at, tu_at]
  simp only [ms]
  rw [ms_congr (r := r) (r2 := r) (t := tu t k (p : Int)) (t2 := t) (fun _ _ => rfl) (fun j hj => tu_ne (by omega)), tu_at]
  have g0 : Gw ν r k = Gw ν (snoc r (k + 1) u) k := gw_congr (fun j hj => (snoc_ne (by omega)).symm)
  have g1 := gw_next (ν := ν) (r := snoc r (k + 1) u) (i := k) (by rw [snoc_at]; exact hu) (by
    rintro ⟨j, j1, j2⟩
    rw [snoc_at, snoc_ne (by omega)] at j2
    exact hn ⟨j, by omega, j2⟩)
  rw [snoc_at, ← g0] at g1
  have h1 := rem_lt hp hz hf
  have h2 := gw_two (ν := ν) (snoc r (k + 1) u) (k + 1)
  have h3 : (rem ν (r k) (p : Int) + 1) * Gw ν r k ≤ rem ν (r k) (t k) * Gw ν r k := Nat.mul_le_mul_right _ h1
  rw [Nat.add_mul, Nat.one_mul] at h3
  have h4 : rem ν u (-1) * Gw ν (snoc r (k + 1) u) (k + 1) ≤ dg ν u * Gw ν (snoc r (k + 1) u) (k + 1) := Nat.mul_le_mul_right _ (rem_dg u)
  rw [Nat.add_mul, Nat.one_mul] at g1
  omega
theorem ms_first (hv : Vd ν) {r : Nat → Nat} {t : Nat → Int} (hr : r 0 < 10) (ht : t 0 = -1) : ms ν r t 1 < 900000 := by
  have hn := vd_nums hv
  show 0 + (rem ν (r 0) (t 0) * Gw ν r 0 + 1) < 900000
  rw [ht]
  have h4 : rem ν (r 0) (-1) * Gw ν r 0 ≤ dg ν (r 0) * Gw ν r 0 := Nat.mul_le_mul_right _ (rem_dg _)
  have e : pr (fun x => 1 + dg ν x) 10 = (1 + dg ν (r 0)) * pr (fun x => if vs r 0 x = true then 1 else 1 + dg ν x) 10 := pr_one hr (fun x _ hne => by rw [if_neg (by simp [vs, hne])]) (by simp [vs])
  have b := pr_10 (d := dg ν) (dg_25 hv) (by have := dg_sum ν 10 (nP ν); unfold dg; omega)
  have g : (1 + dg ν (r 0)) * Gw ν r 0 = 2 * pr (fun x => 1 + dg ν x) 10 := by
    rw [e]
    unfold Gw
    ac_rfl
  rw [Nat.add_mul, Nat.one_mul] at g
  omega
end SRC
