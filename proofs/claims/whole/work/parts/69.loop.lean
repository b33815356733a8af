/-! loops of latches, and which is best -/
def nx (m i : Nat) : Nat := if i + 1 = m then 0 else i + 1
def Lop (ν : Nv) (m : Nat) (r q : Nat → Nat) : Prop := 1 ≤ m ∧ (∀ i, i < m → q i < nP ν ∧ Fr ν (q i) = r i ∧ To ν (q i) = r (nx m i) ∧ Fb ν (r i) = false ∧ r 0 ≤ r i) ∧ ∀ i j, i < m → j < m → r i = r j → i = j
def DD (ν : Nv) (m : Nat) (q : Nat → Nat) : Int := sm (fun i => Dl ν (q i)) m
def SS (ν : Nv) (m : Nat) (q : Nat → Nat) : Int := sm (fun i => Sh ν (q i)) m
def lexlt (r r2 : Nat → Nat) (m : Nat) : Prop := ∃ i, i < m ∧ (∀ j, j < i → r j = r2 j) ∧ r i < r2 i
def lexle (r r2 : Nat → Nat) (m : Nat) : Prop := (∀ i, i < m → r i = r2 i) ∨ lexlt r r2 m
def ge (ν : Nv) (m : Nat) (r q : Nat → Nat) (m2 : Nat) (r2 q2 : Nat → Nat) : Prop := DD ν m2 q2 * SS ν m q < DD ν m q * SS ν m2 q2 ∨ (DD ν m2 q2 * SS ν m q = DD ν m q * SS ν m2 q2 ∧ (m < m2 ∨ (m = m2 ∧ lexle r r2 m)))
def BS (ν : Nv) (P : Nat → (Nat → Nat) → Prop) (len : Int) (rw : Nat → Int) (D S : Int) : Prop := (len = 0 ∧ D = 0 ∧ S = 1 ∧ ∀ m r q, Lop ν m r q → ¬ P m r) ∨ ∃ m r q, Lop ν m r q ∧ len = (m : Int) ∧ (∀ i, i < m → rw i = (r i : Nat)) ∧ D = DD ν m q ∧ S = SS ν m q ∧ P m r ∧ ∀ m2 r2 q2, Lop ν m2 r2 q2 → P m2 r2 → ge ν m r q m2 r2 q2
section LPM
variable {ν : Nv}
theorem lop_nC (hv : Vd ν) {m : Nat} {r q : Nat → Nat} (h : Lop ν m r q) : (∀ i, i < m → r i < nC ν) ∧ m ≤ nC ν := by
  have h1 : ∀ i, i < m → r i < nC ν := fun i hi => by rw [← (h.2.1 i hi).2.1]; exact (vd_rng hv _ (h.2.1 i hi).1).1
  refine ⟨h1, ?_⟩
  by_cases e : m ≤ nC ν
  · exact e
  · exfalso
    obtain ⟨i, j, hij, hj, he⟩ := pigeon (nC ν) r (fun i hi => h1 i (by omega))
    have := h.2.2 i j (by omega) (by omega) he
    omega
theorem dd_bd (hv : Vd ν) {m : Nat} {q : Nat → Nat} (hq : ∀ i, i < m → q i < nP ν) (hm : m ≤ 10) : 0 ≤ DD ν m q ∧ DD ν m q ≤ 766080 ∧ 0 ≤ SS ν m q ∧ SS ν m q ≤ 640 ∧ (1 ≤ m → 1 ≤ SS ν m q) := by
  have a := sm_bd (f := fun i => Dl ν (q i)) (n := m) (b := 76608) (fun i hi => dl_bd hv _ (hq i hi))
  have b := sm_bd (f := fun i => Sh ν (q i)) (n := m) (b := 64) (fun i hi => by have := sh_bd hv _ (hq i hi); omega)
  unfold DD SS
  refine ⟨a.1, by omega, b.1, by omega, fun h1 => ?_⟩
  obtain ⟨k, rfl⟩ : ∃ k, m = k + 1 := ⟨m - 1, by omega⟩
  have c := sm_bd (f := fun i => Sh ν (q i)) (n := k) (b := 64) (fun i hi => by have := sh_bd hv _ (hq i (by omega)); omega)
  have d := sh_bd hv _ (hq k (by omega))
  show 1 ≤ sm (fun i => Sh ν (q i)) k + Sh ν (q k)
  omega
theorem lop_bd (hv : Vd ν) {m : Nat} {r q : Nat → Nat} (h : Lop ν m r q) : 0 ≤ DD ν m q ∧ DD ν m q ≤ 766080 ∧ 1 ≤ SS ν m q ∧ SS ν m q ≤ 640 := by
  have hn := vd_nums hv
  have := (lop_nC hv h).2
  have := dd_bd hv (m := m) (q := q) (fun i hi => (h.2.1 i hi).1) (by omega)
  exact ⟨this.1, this.2.1, this.2.2.2.2 h.1, this.2.2.2.1⟩
theorem lop_q (hv : Vd ν) {m : Nat} {r q r2 q2 : Nat → Nat} (h : Lop ν m r q) (h2 : Lop ν m r2 q2) (he : ∀ i, i < m → r i = r2 i) : ∀ i, i < m → q i = q2 i := by
  intro i hi
  have a := h.2.1 i hi
  have b := h2.2.1 i hi
  have n1 : nx m i < m := by unfold nx; split <;> omega
  have p1 := vd_path hv _ a.1
  have p2 := vd_path hv _ b.1
  refine hv.2.2.2.2 _ _ a.1 b.1 ?_ ?_
  · rw [p1.2.2.2.1, p2.2.2.2.1, a.2.1, b.2.1, he i hi]
  · rw [p1.2.2.2.2.1, p2.2.2.2.2.1, a.2.2.1, b.2.2.1, he _ n1]
theorem lop_ds (hv : Vd ν) {m : Nat} {r q r2 q2 : Nat → Nat} (h : Lop ν m r q) (h2 : Lop ν m r2 q2) (he : ∀ i, i < m → r i = r2 i) : DD ν m q = DD ν m q2 ∧ SS ν m q = SS ν m q2 := by
  have hq := lop_q hv h h2 he
  exact ⟨sm_congr (fun i hi => by rw [hq i hi]), sm_congr (fun i hi => by rw [hq i hi])⟩
theorem lexle_trans {a b c : Nat → Nat} {m : Nat} (h1 : lexle a b m) (h2 : lexle b c m) : lexle a c m := by
  rcases h1 with h1 | ⟨i, i1, i2, i3⟩
  · rcases h2 with h2 | ⟨i, i1, i2, i3⟩
    · exact Or.inl (fun i hi => (h1 i hi).trans (h2 i hi))
    · exact Or.inr ⟨i, i1, fun j hj => (h1 j (by omega)).trans (i2 j hj), by rw [h1 i i1]; exact i3⟩
  · rcases h2 with h2 | ⟨k, k1, k2, k3⟩
    · exact Or.inr ⟨i, i1, fun j hj => (i2 j hj).trans (h2 j (by omega)), by rw [← h2 i i1]; exact i3⟩
    · by_cases e1 : i < k
      · exact Or.inr ⟨i, i1, fun j hj => (i2 j hj).trans (k2 j (by omega)), by rw [← k2 i e1]; exact i3⟩
      · by_cases e2 : k < i
        · exact Or.inr ⟨k, k1, fun j hj => (i2 j (by omega)).trans (k2 j hj), by rw [i2 k e2]; exact k3⟩
        · have : i = k := by omega
          subst this
          exact Or.inr ⟨i, i1, fun j hj => (i2 j hj).trans (k2 j hj), by omega⟩
theorem lexle_anti {a b : Nat → Nat} {m : Nat} (h1 : lexle a b m) (h2 : lexle b a m) : ∀ i, i < m → a i = b i := by
  rcases h1 with h1 | ⟨i, i1, i2, i3⟩
  · exact h1
  · rcases h2 with h2 | ⟨k, k1, k2, k3⟩
    · have := h2 i i1; omega
    · by_cases e1 : i < k
      · have := k2 i e1; omega
      · by_cases e2 : k < i
        · have := i2 k e2; omega
        · have : i = k := by omega
          subst this
          omega
theorem x_le {D0 S0 D S D2 S2 : Int} (h0 : 0 < S0) (h1 : 0 < S) (h2 : 0 < S2) (a : D * S0 ≤ D0 * S) (b : D2 * S ≤ D * S2) : D2 * S0 ≤ D0 * S2 ∧ ((D * S0 < D0 * S ∨ D2 * S < D * S2) → D2 * S0 < D0 * S2) := by
  have e1 : D2 * S0 * S = D2 * S * S0 := by rw [Int.mul_assoc, Int.mul_comm S0 S, ← Int.mul_assoc]
  have e2 : D * S2 * S0 = D * S0 * S2 := by rw [Int.mul_assoc, Int.mul_comm S2 S0, ← Int.mul_assoc]
  have e3 : D0 * S * S2 = D0 * S2 * S := by rw [Int.mul_assoc, Int.mul_comm S S2, ← Int.mul_assoc]
  have g1 : D2 * S * S0 ≤ D * S2 * S0 := Int.mul_le_mul_of_nonneg_right b (by omega)
  have g2 : D * S0 * S2 ≤ D0 * S * S2 := Int.mul_le_mul_of_nonneg_right a (by omega)
  refine ⟨Int.le_of_mul_le_mul_right (by omega) h1, fun hs => Int.lt_of_mul_lt_mul_right (a := S) ?_ (by omega)⟩
  rcases hs with hs | hs
  · have := Int.mul_lt_mul_of_pos_right hs h2
    omega
  · have := Int.mul_lt_mul_of_pos_right hs h0
    omega
theorem ge_trans (hv : Vd ν) {m0 m m2 : Nat} {r0 q0 r q r2 q2 : Nat → Nat} (l0 : Lop ν m0 r0 q0) (l1 : Lop ν m r q) (l2 : Lop ν m2 r2 q2) (a : ge ν m0 r0 q0 m r q) (b : ge ν m r q m2 r2 q2) : ge ν m0 r0 q0 m2 r2 q2 := by
  have b0 := lop_bd hv l0
  have b1 := lop_bd hv l1
  have b2 := lop_bd hv l2
  have x := x_le (D0 := DD ν m0 q0) (S0 := SS ν m0 q0) (D := DD ν m q) (S := SS ν m q) (D2 := DD ν m2 q2) (S2 := SS ν m2 q2) (by omega) (by omega) (by omega)
  rcases a with a | ⟨a, a2⟩
  · rcases b with b | ⟨b, b2⟩
    · exact Or.inl ((x (by omega) (by omega)).2 (Or.inl a))
    · exact Or.inl ((x (by omega) (by omega)).2 (Or.inl a))
  · rcases b with b | ⟨b, b2⟩
    · exact Or.inl ((x (by omega) (by omega)).2 (Or.inr b))
    · have y := (x (by omega) (by omega)).1
      by_cases e : DD ν m2 q2 * SS ν m0 q0 < DD ν m0 q0 * SS ν m2 q2
      · exact Or.inl e
      · refine Or.inr ⟨by omega, ?_⟩
        rcases a2 with a2 | ⟨a2, a3⟩
        · rcases b2 with b2 | ⟨b2, b3⟩ <;> exact Or.inl (by omega)
        · rcases b2 with b2 | ⟨b2, b3⟩
          · exact Or.inl (by omega)
          · exact Or.inr ⟨by omega, lexle_trans a3 (by rw [a2]; exact b3)⟩
theorem ge_same (hv : Vd ν) {m : Nat} {r q r2 q2 : Nat → Nat} (h : Lop ν m r q) (h2 : Lop ν m r2 q2) (he : ∀ i, i < m → r i = r2 i) : ge ν m r q m r2 q2 := by
  obtain ⟨d, s⟩ := lop_ds hv h h2 he
  exact Or.inr ⟨by rw [d, s], Or.inr ⟨rfl, Or.inl he⟩⟩
theorem bs_iff {P P2 : Nat → (Nat → Nat) → Prop} {len : Int} {rw : Nat → Int} {D S : Int} (h : BS ν P len rw D S) (he : ∀ m r q, Lop ν m r q → (P2 m r ↔ P m r)) : BS ν P2 len rw D S := by
  rcases h with ⟨a1, a2, a3, a4⟩ | ⟨m, r, q, a1, a2, a3, a4, a5, a6, a7⟩
  · exact Or.inl ⟨a1, a2, a3, fun m r q hl hp => a4 m r q hl ((he m r q hl).mp hp)⟩
  · exact Or.inr ⟨m, r, q, a1, a2, a3, a4, a5, (he m r q a1).mpr a6, fun m2 r2 q2 hl hp => a7 m2 r2 q2 hl ((he m2 r2 q2 hl).mp hp)⟩
/-- one loop more -/
def Pp (P : Nat → (Nat → Nat) → Prop) (m0 : Nat) (r0 : Nat → Nat) (m : Nat) (r : Nat → Nat) : Prop := P m r ∨ (m = m0 ∧ ∀ i, i < m0 → r i = r0 i)
theorem bs_take (hv : Vd ν) {P : Nat → (Nat → Nat) → Prop} {len : Int} {rw : Nat → Int} {D S : Int} (h : BS ν P len rw D S) {m0 : Nat} {r0 q0 : Nat → Nat} (l0 : Lop ν m0 r0 q0) (rw2 : Nat → Int) (hrw : ∀ i, i < m0 → rw2 i = (r0 i : Nat)) (hc : len = 0 ∨ (∀ m r q, Lop ν m r q → len = (m : Int) → (∀ i, i < m → rw i = (r i : Nat)) → D = DD ν m q → S = SS ν m q → ge ν m0 r0 q0 m r q)) : BS ν (Pp P m0 r0) (m0 : Int) rw2 (DD ν m0 q0) (SS ν m0 q0) := by
  refine Or.inr ⟨m0, r0, q0, l0, rfl, hrw, rfl, rfl, Or.inr ⟨rfl, fun _ _ => rfl⟩, fun m2 r2 q2 hl hp => ?_⟩
  rcases hp with hp | ⟨e, hp⟩
  · rcases h with ⟨a1, a2, a3, a4⟩ | ⟨m, r, q, a1, a2, a3, a4, a5, a6, a7⟩
    · exact absurd hp (a4 m2 r2 q2 hl)
    · rcases hc with hc | hc
      · have := a1.1; omega
      · exact ge_trans hv l0 a1 hl (hc m r q a1 a2 a3 a4 a5) (a7 m2 r2 q2 hl hp)
  · subst e
    exact ge_same hv l0 hl (fun i hi => (hp i hi).symm)
theorem bs_leave (hv : Vd ν) {P : Nat → (Nat → Nat) → Prop} {len : Int} {rw : Nat → Int} {D S : Int} (h : BS ν P len rw D S) {m0 : Nat} {r0 q0 : Nat → Nat} (l0 : Lop ν m0 r0 q0) (hl0 : len ≠ 0) (hc : ∀ m r q, Lop ν m r q → P m r → len = (m : Int) → (∀ i, i < m → rw i = (r i : Nat)) → D = DD ν m q → S = SS ν m q → ge ν m r q m0 r0 q0) : BS ν (Pp P m0 r0) len rw D S := by
  rcases h with ⟨a1, a2, a3, a4⟩ | ⟨m, r, q, a1, a2, a3, a4, a5, a6, a7⟩
  · exact absurd a1 hl0
  · refine Or.inr ⟨m, r, q, a1, a2, a3, a4, a5, Or.inl a6, fun m2 r2 q2 hl hp => ?_⟩
    rcases hp with hp | ⟨e, hp⟩
    · exact a7 m2 r2 q2 hl hp
    · subst e
      exact ge_trans hv a1 l0 hl (hc m r q a1 a6 a2 a3 a4 a5) (ge_same hv l0 hl (fun i hi => (hp i hi).symm))
theorem bs_unique (hv : Vd ν) {len len2 : Int} {rw rw2 : Nat → Int} {D S D2 S2 : Int} (h : BS ν (fun _ _ => True) len rw D S) (h2 : BS ν (fun _ _ => True) len2 rw2 D2 S2) : len = len2 ∧ D = D2 ∧ S = S2 ∧ ∀ i : Nat, (i : Int) < len → rw i = rw2 i := by
  rcases h with ⟨a1, a2, a3, a4⟩ | ⟨m, r, q, a1, a2, a3, a4, a5, a6, a7⟩ <;> rcases h2 with ⟨b1, b2, b3, b4⟩ | ⟨m2, r2, q2, b1, b2, b3, b4, b5, b6, b7⟩
  · exact ⟨by omega, by omega, by omega, fun i hi => by omega⟩
  · exact absurd trivial (a4 m2 r2 q2 b1)
  · exact absurd trivial (b4 m r q a1)
  · have g1 := a7 m2 r2 q2 b1 trivial
    have g2 := b7 m r q a1 trivial
    have key : m = m2 ∧ ∀ i, i < m → r i = r2 i := by
      rcases g1 with g1 | ⟨g1, g3⟩
      · rcases g2 with g2 | ⟨g2, g4⟩ <;> omega
      · rcases g2 with g2 | ⟨g2, g4⟩
        · omega
        · rcases g3 with g3 | ⟨g3, g5⟩
          · rcases g4 with g4 | ⟨g4, g6⟩ <;> omega
          · rcases g4 with g4 | ⟨g4, g6⟩
            · omega
            · subst g3
              exact ⟨rfl, lexle_anti g5 g6⟩
    obtain ⟨e, he⟩ := key
    subst e
    obtain ⟨d, s⟩ := lop_ds hv a1 b1 he
    exact ⟨by omega, by omega, by omega, fun i hi => by rw [a3 i (by omega), b3 i (by omega), he i (by omega)]⟩
theorem bs_bd (hv : Vd ν) {P : Nat → (Nat → Nat) → Prop} {len : Int} {rw : Nat → Int} {D S : Int} (h : BS ν P len rw D S) : 0 ≤ len ∧ len ≤ 10 ∧ 0 ≤ D ∧ D ≤ 766080 ∧ 1 ≤ S ∧ S ≤ 640 := by
  have hn := vd_nums hv
  rcases h with ⟨a1, a2, a3, a4⟩ | ⟨m, r, q, a1, a2, a3, a4, a5, a6, a7⟩
  · omega
  · have := lop_bd hv a1
    have := (lop_nC hv a1).2
    omega
/-! the places of a search by cells -/
def Bef (s : Nat) (pre : Nat → Nat) (k x m : Nat) (r : Nat → Nat) : Prop := (∃ i, i < k ∧ i < m ∧ (∀ j, j < i → r j = pre j) ∧ r i < pre i) ∨ (m < k ∧ ∀ j, j < m → r j = pre j) ∨ (m = k ∧ (∀ j, j < k → r j = pre j) ∧ s < x) ∨ (k < m ∧ (∀ j, j < k → r j = pre j) ∧ r k < x)
theorem bef_next {s : Nat} {pre : Nat → Nat} {k x m : Nat} {r : Nat → Nat} (h1 : m = k → (∀ j, j < k → r j = pre j) → s ≠ x) (h2 : k < m → (∀ j, j < k → r j = pre j) → r k ≠ x) : Bef s pre k (x + 1) m r ↔ Bef s pre k x m r := by
  unfold Bef
  constructor
  · rintro (g | g | ⟨g1, g2, g3⟩ | ⟨g1, g2, g3⟩)
    · exact Or.inl g
    · exact Or.inr (Or.inl g)
    · have := h1 g1 g2
      exact Or.inr (Or.inr (Or.inl ⟨g1, g2, by omega⟩))
    · have := h2 g1 g2
      exact Or.inr (Or.inr (Or.inr ⟨g1, g2, by omega⟩))
  · rintro (g | g | ⟨g1, g2, g3⟩ | ⟨g1, g2, g3⟩)
    · exact Or.inl g
    · exact Or.inr (Or.inl g)
    · exact Or.inr (Or.inr (Or.inl ⟨g1, g2, by omega⟩))
    · exact Or.inr (Or.inr (Or.inr ⟨g1, g2, by omega⟩))
theorem bef_close {s : Nat} {pre : Nat → Nat} {k m : Nat} {r : Nat → Nat} (h2 : k < m → (∀ j, j < k → r j = pre j) → r k ≠ s) : Bef s pre k (s + 1) m r ↔ Pp (Bef s pre k s) k pre m r := by
  unfold Pp Bef
  constructor
  · rintro (g | g | ⟨g1, g2, g3⟩ | ⟨g1, g2, g3⟩)
    · exact Or.inl (Or.inl g)
    · exact Or.inl (Or.inr (Or.inl g))
    · exact Or.inr ⟨g1, g2⟩
    · have := h2 g1 g2
      exact Or.inl (Or.inr (Or.inr (Or.inr ⟨g1, g2, by omega⟩)))
  · rintro ((g | g | ⟨g1, g2, g3⟩ | ⟨g1, g2, g3⟩) | ⟨g1, g2⟩)
    · exact Or.inl g
    · exact Or.inr (Or.inl g)
    · exact Or.inr (Or.inr (Or.inl ⟨g1, g2, by omega⟩))
    · exact Or.inr (Or.inr (Or.inr ⟨g1, g2, by omega⟩))
    · exact Or.inr (Or.inr (Or.inl ⟨g1, g2, by omega⟩))
def snoc (pre : Nat → Nat) (k x : Nat) : Nat → Nat := fun i => if i = k then x else pre i
theorem snoc_at (pre : Nat → Nat) (k x : Nat) : snoc pre k x k = x := if_pos rfl
theorem snoc_ne {pre : Nat → Nat} {k x i : Nat} (h : i ≠ k) : snoc pre k x i = pre i := if_neg h
theorem snoc_agree {pre r : Nat → Nat} {k x : Nat} : (∀ j, j < k + 1 → r j = snoc pre k x j) ↔ (∀ j, j < k → r j = pre j) ∧ r k = x := by
  constructor
  · intro h
    exact ⟨fun j hj => by rw [h j (by omega), snoc_ne (by omega)], by rw [h k (by omega), snoc_at]⟩
  · rintro ⟨h1, h2⟩ j hj
    by_cases e : j = k
    · rw [e, snoc_at]; exact h2
    · rw [snoc_ne e]; exact h1 j (by omega)
theorem snoc_agree2 {pre r : Nat → Nat} {k x i : Nat} (hi : i ≤ k) : (∀ j, j < i → r j = snoc pre k x j) ↔ (∀ j, j < i → r j = pre j) := by
  constructor
  · intro h j hj
    rw [h j hj, snoc_ne (by omega)]
  · intro h j hj
    rw [snoc_ne (by omega)]
    exact h j hj
theorem bef_in {s : Nat} {pre : Nat → Nat} {k x m : Nat} {r : Nat → Nat} (hx : s < x) (h2 : k + 1 < m → (∀ j, j < k + 1 → r j = snoc pre k x j) → s ≤ r (k + 1)) : Bef s (snoc pre k x) (k + 1) s m r ↔ Bef s pre k x m r := by
  unfold Bef
  constructor
  · rintro (⟨i, g1, g2, g3, g4⟩ | ⟨g1, g2⟩ | ⟨g1, g2, g3⟩ | ⟨g1, g2, g3⟩)
    · by_cases e : i = k
      · subst e
        rw [snoc_at] at g4
        exact Or.inr (Or.inr (Or.inr ⟨g2, (snoc_agree2 (by omega)).mp g3, g4⟩))
      · rw [snoc_ne e] at g4
        exact Or.inl ⟨i, by omega, g2, (snoc_agree2 (by omega)).mp g3, g4⟩
    · by_cases e : m = k
      · subst e
        exact Or.inr (Or.inr (Or.inl ⟨rfl, (snoc_agree2 (by omega)).mp g2, hx⟩))
      · exact Or.inr (Or.inl ⟨by omega, (snoc_agree2 (by omega)).mp g2⟩)
    · omega
    · have := h2 g1 g2; omega
  · rintro (⟨i, g1, g2, g3, g4⟩ | ⟨g1, g2⟩ | ⟨g1, g2, g3⟩ | ⟨g1, g2, g3⟩)
    · exact Or.inl ⟨i, by omega, g2, (snoc_agree2 (by omega)).mpr g3, by rw [snoc_ne (by omega)]; exact g4⟩
    · exact Or.inr (Or.inl ⟨by omega, (snoc_agree2 (by omega)).mpr g2⟩)
    · subst g1
      exact Or.inr (Or.inl ⟨by omega, (snoc_agree2 (by omega)).mpr g2⟩)
    · exact Or.inl ⟨k, by omega, g1, (snoc_agree2 (by omega)).mpr g2, by rw [snoc_at]; exact g3⟩
theorem bef_out {s : Nat} {pre : Nat → Nat} {k x m N : Nat} {r : Nat → Nat} (hx : s < x) (hs : s < N) (h2 : k + 1 < m → r (k + 1) < N) : Bef s (snoc pre k x) (k + 1) N m r ↔ Bef s pre k (x + 1) m r := by
  unfold Bef
  constructor
  · rintro (⟨i, g1, g2, g3, g4⟩ | ⟨g1, g2⟩ | ⟨g1, g2, g3⟩ | ⟨g1, g2, g3⟩)
    · by_cases e : i = k
      · subst e
        rw [snoc_at] at g4
        exact Or.inr (Or.inr (Or.inr ⟨g2, (snoc_agree2 (by omega)).mp g3, by omega⟩))
      · rw [snoc_ne e] at g4
        exact Or.inl ⟨i, by omega, g2, (snoc_agree2 (by omega)).mp g3, g4⟩
    · by_cases e : m = k
      · subst e
        exact Or.inr (Or.inr (Or.inl ⟨rfl, (snoc_agree2 (by omega)).mp g2, by omega⟩))
      · exact Or.inr (Or.inl ⟨by omega, (snoc_agree2 (by omega)).mp g2⟩)
    · obtain ⟨e1, e2⟩ := snoc_agree.mp g2
      exact Or.inr (Or.inr (Or.inr ⟨by omega, e1, by omega⟩))
    · obtain ⟨e1, e2⟩ := snoc_agree.mp g2
      exact Or.inr (Or.inr (Or.inr ⟨by omega, e1, by omega⟩))
  · rintro (⟨i, g1, g2, g3, g4⟩ | ⟨g1, g2⟩ | ⟨g1, g2, g3⟩ | ⟨g1, g2, g3⟩)
    · exact Or.inl ⟨i, by omega, g2, (snoc_agree2 (by omega)).mpr g3, by rw [snoc_ne (by omega)]; exact g4⟩
    · exact Or.inr (Or.inl ⟨by omega, (snoc_agree2 (by omega)).mpr g2⟩)
    · subst g1
      exact Or.inr (Or.inl ⟨by omega, (snoc_agree2 (by omega)).mpr g2⟩)
    · by_cases e : r k = x
      · have hag : ∀ j, j < k + 1 → r j = snoc pre k x j := snoc_agree.mpr ⟨g2, e⟩
        by_cases e2 : m = k + 1
        · exact Or.inr (Or.inr (Or.inl ⟨e2, hag, hs⟩))
        · exact Or.inr (Or.inr (Or.inr ⟨by omega, hag, h2 (by omega)⟩))
      · exact Or.inl ⟨k, by omega, g1, (snoc_agree2 (by omega)).mpr g2, by rw [snoc_at]; omega⟩
theorem bef_lex {s : Nat} {pre : Nat → Nat} {k : Nat} {r : Nat → Nat} (h : Bef s pre k s k r) : lexle r pre k := by
  rcases h with ⟨i, g1, g2, g3, g4⟩ | ⟨g1, -⟩ | ⟨-, -, g3⟩ | ⟨g1, -⟩
  · exact Or.inr ⟨i, g1, g3, g4⟩
  · omega
  · omega
  · omega
end LPM
