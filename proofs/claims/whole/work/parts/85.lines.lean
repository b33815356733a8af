/-! a draft as numbers (row 14: told flags 0 period, 5 skew, 6 seed); the class's lines -/
theorem up_k {D : Nv} {k i k2 i2 : Nat} {z : Int} (h : k2 ≠ k) : up D k i z k2 i2 = D k2 i2 := if_neg (fun g => h g.1)
theorem up_i {D : Nv} {k i k2 i2 : Nat} {z : Int} (h : i2 ≠ i) : up D k i z k2 i2 = D k2 i2 := if_neg (fun g => h g.2)
def fin (D : Nv) : Rs → Except (Int × Int) (Nv × Nat)
  | .ok b => .ok (D, b)
  | .error e => .error e
def CD (m : ax_M) (D : Nv) : Prop :=
  ((m.1 16 12).toInt = D 0 0 ∧ (m.1 16 13).toInt = D 0 1 ∧ (m.1 16 14).toInt = D 0 2 ∧ (m.1 16 16).toInt = D 0 3 ∧ (m.1 16 17).toInt = D 0 4 ∧ (m.1 16 18).toInt = D 0 5) ∧
  (∀ i, i < nH D → (m.1 17 i).toInt = D 12 i ∧ (m.1 18 i).toInt = D 1 i ∧ (m.1 19 i).toInt = D 2 i) ∧
  (∀ c, c < nC D → (m.1 20 c).toInt = D 13 c ∧ (m.1 21 c).toInt = D 3 c ∧ (m.1 22 c).toInt = D 4 c ∧ (m.1 23 c).toInt = D 5 c ∧ (m.1 24 c).toInt = D 6 c) ∧
  (∀ p, p < nP D → (m.1 25 p).toInt = D 7 p ∧ (m.1 26 p).toInt = D 8 p ∧ (m.1 27 p).toInt = D 9 p ∧ (m.1 28 p).toInt = D 10 p) ∧
  (m.1 16 15).toInt = (bt (Fb D) (nC D) : Nat) ∧ (m.1 15 10).toInt = D 14 0 ∧ (m.1 15 11).toInt = D 14 5 ∧ (m.1 15 12).toInt = D 14 6
def LO (m : ax_M) (T : Nat → Int) (n : Nat) : Except (Int × Int) (Nv × Nat) → Prop
  | .ok x => CO m T n (.ok x.2) ∧ CD m x.1
  | .error e => CO m T n (.error e)
noncomputable def lnOnce (T : Nat → Int) (n : Nat) (D : Nv) (w c : Nat) (lo hi p0 : Int) (a : Nat) : Except (Int × Int) (Nv × Nat) := fin (up (up D 14 w 1) 0 c (rv T n (sIf (D 14 w ≠ 0) 3 p0 (.ok a)))) (sStop T n (sNum T n lo hi (sIf (D 14 w ≠ 0) 3 p0 (.ok a))))
theorem sNum_inv {T : Nat → Int} {n : Nat} {lo hi : Int} {r : Rs} {b : Nat} (h : sNum T n lo hi r = .ok b) : ∃ a, r = .ok a ∧ lo ≤ rv T n r ∧ rv T n r ≤ hi ∧ b = tka T n a := by
  cases r with
  | error e => cases h
  | ok a =>
    by_cases h1 : tkk T n a = 2
    · by_cases h2 : lo ≤ tkv T n a ∧ tkv T n a ≤ hi
      · rw [sNum_g h1 h2] at h
        cases h
        exact ⟨a, rfl, h2.1, h2.2, rfl⟩
      · rw [sNum_b h1 h2] at h; cases h
    · rw [sNum_n h1] at h; cases h
theorem sStop_inv {T : Nat → Int} {n : Nat} {r : Rs} {b : Nat} (h : sStop T n r = .ok b) : ∃ a, r = .ok a ∧ b = tka T n a := by
  cases r with
  | error e => cases h
  | ok a =>
    by_cases h1 : tkk T n a = 3
    · rw [sStop_t h1] at h
      cases h
      exact ⟨a, rfl, rfl⟩
    · rw [sStop_f h1] at h; cases h
theorem sName_inv {T : Nat → Int} {n : Nat} {r : Rs} {b : Nat} (h : sName T n r = .ok b) : ∃ a, r = .ok a ∧ b = tka T n a := by
  cases r with
  | error e => cases h
  | ok a =>
    by_cases h1 : tkk T n a = 1 ∧ ¬ kwd (tkv T n a)
    · rw [sName_t h1] at h
      cases h
      exact ⟨a, rfl, rfl⟩
    · rw [sName_f h1] at h; cases h
theorem sIf_inv {c : Prop} [Decidable c] {x p : Int} {r : Rs} {b : Nat} (h : sIf c x p r = .ok b) : r = .ok b ∧ ¬ c := by
  cases r with
  | error e => cases h
  | ok a =>
    by_cases h1 : c
    · rw [sIf_t h1] at h; cases h
    · rw [sIf_f h1] at h
      cases h
      exact ⟨rfl, h1⟩
section CLN
variable {m : ax_M} {T : Nat → Int} {n : Nat} {r : Rs} {D : Nv}
theorem CO_wi (h : CO m T n r) {a j : Nat} {v : Int32} (h1 : a ≠ 1) (h2 : a = 15 → j ≠ 2 ∧ j ≠ 3 ∧ j ≠ 5 ∧ j ≠ 6) : CO (ax_wi m a j v) T n r := by
  have k : ∀ j2, (j2 = 2 ∨ j2 = 3 ∨ j2 = 5 ∨ j2 = 6) → (ax_wi m a j v).1 15 j2 = m.1 15 j2 := by
    intro j2 hj
    by_cases e : a = 15
    · subst e
      exact wi_other (by have := h2 rfl; omega)
    · rw [wi_ne (Ne.symm e)]
  have hc : CT m T n → CT (ax_wi m a j v) T n := fun g => ⟨fun i hi => by rw [wi_ne (Ne.symm h1)]; exact g.1 i hi, by rw [k 5 (by omega)]; exact g.2.1, g.2.2⟩
  cases r with
  | ok b =>
    obtain ⟨g1, g2, g3, g4⟩ := h
    exact ⟨hc g1, by rw [k 2 (by omega)]; exact g2, by rw [k 6 (by omega)]; exact g3, g4.1, by rw [k 3 (by omega)]; exact g4.2⟩
  | error e =>
    obtain ⟨g1, g2, g3, g4, b, g5, g6⟩ := h
    exact ⟨hc g1, by rw [k 2 (by omega)]; exact g2, g3, by rw [k 3 (by omega)]; exact g4, b, by rw [k 6 (by omega)]; exact g5, g6⟩
/-- no fault is set: it stands somewhere -/
theorem CO_zero (h : CO m T n r) (h0 : m.1 15 2 = 0) : ∃ b, r = .ok b := by
  cases r with
  | ok b => exact ⟨b, rfl⟩
  | error e =>
    obtain ⟨g1, g2, g3, _⟩ := h
    rw [t_eq.mp h0] at g2
    exact absurd g2.symm g3
theorem CO_nz (h : CO m T n r) (h0 : ¬ m.1 15 2 = 0) : ∃ e, r = .error e := by
  cases r with
  | ok b => exact absurd (t_eq.mpr h.2.1) h0
  | error e => exact ⟨e, rfl⟩
theorem nH_of {D D2 : Nv} (h : D2 0 0 = D 0 0) : nH D2 = nH D := by unfold nH; rw [h]
theorem nC_of {D D2 : Nv} (h : D2 0 1 = D 0 1) : nC D2 = nC D := by unfold nC; rw [h]
theorem nP_of {D D2 : Nv} (h : D2 0 2 = D 0 2) : nP D2 = nP D := by unfold nP; rw [h]
/-- only the period, the skew, the seed and the flags differ -/
theorem CD_nums {m2 : ax_M} {D2 : Nv} (h : CD m D) (hk : ∀ a, 17 ≤ a → a ≤ 28 → m2.1 a = m.1 a) (h16 : ∀ j, j ≤ 15 → m2.1 16 j = m.1 16 j) (hD : ∀ k i, k ≠ 14 → (k = 0 → i < 3) → D2 k i = D k i) (a1 : (m2.1 16 16).toInt = D2 0 3) (a2 : (m2.1 16 17).toInt = D2 0 4) (a3 : (m2.1 16 18).toInt = D2 0 5) (b1 : (m2.1 15 10).toInt = D2 14 0) (b2 : (m2.1 15 11).toInt = D2 14 5) (b3 : (m2.1 15 12).toInt = D2 14 6) : CD m2 D2 := by
  obtain ⟨⟨c1, c2, c3, _⟩, d1, d2, d3, d4, _⟩ := h
  have n0 : nH D2 = nH D := nH_of (hD 0 0 (by omega) (by omega))
  have n1 : nC D2 = nC D := nC_of (hD 0 1 (by omega) (by omega))
  have n2 : nP D2 = nP D := nP_of (hD 0 2 (by omega) (by omega))
  refine ⟨⟨?_, ?_, ?_, a1, a2, a3⟩, fun i hi => ?_, fun c hc => ?_, fun p hp => ?_, ?_, b1, b2, b3⟩
  · rw [h16 12 (by omega), hD 0 0 (by omega) (by omega)]; exact c1
  · rw [h16 13 (by omega), hD 0 1 (by omega) (by omega)]; exact c2
  · rw [h16 14 (by omega), hD 0 2 (by omega) (by omega)]; exact c3
  · rw [hk 17 (by omega) (by omega), hk 18 (by omega) (by omega), hk 19 (by omega) (by omega), hD 12 i (by omega) (by omega), hD 1 i (by omega) (by omega), hD 2 i (by omega) (by omega)]
    exact d1 i (by omega)
  · rw [hk 20 (by omega) (by omega), hk 21 (by omega) (by omega), hk 22 (by omega) (by omega), hk 23 (by omega) (by omega), hk 24 (by omega) (by omega), hD 13 c (by omega) (by omega), hD 3 c (by omega) (by omega), hD 4 c (by omega) (by omega), hD 5 c (by omega) (by omega), hD 6 c (by omega) (by omega)]
    exact d2 c (by omega)
  · rw [hk 25 (by omega) (by omega), hk 26 (by omega) (by omega), hk 27 (by omega) (by omega), hk 28 (by omega) (by omega), hD 7 p (by omega) (by omega), hD 8 p (by omega) (by omega), hD 9 p (by omega) (by omega), hD 10 p (by omega) (by omega)]
    exact d3 p (by omega)
  · rw [h16 15 (by omega), d4, n1, bt_congr (f := Fb D2) (g := Fb D) (fun c _ => by unfold Fb; rw [hD 11 c (by omega) (by omega)])]
theorem cl_period {a : Nat} {p0 : Int} (h : CO m T n (.ok a)) (hT : Tp T) (hd : CD m D) (hp : (m.1 15 8).toInt = p0) : Wp (fX3_readPeriod m) (fun _ m2 => LO m2 T n (lnOnce T n D 0 3 1 9999 p0 a) ∧ m2.1 15 1 = m.1 15 1) := by
  unfold fX3_readPeriod
  refine wp_bd (wp_mono (c_if h (by decide) (fun _ _ => hp)) ?_)
  rintro _ m2 ⟨⟨h2, _⟩, f2⟩
  have e0 : (m.1 15 10 ≠ 0) ↔ (D 14 0 ≠ 0) := by rw [← hd.2.2.2.2.2.1, ne_eq, ne_eq, t_eq]; rfl
  have e1 : sIf (m.1 15 10 ≠ 0) (Int32.toInt 3) p0 (.ok a) = sIf (D 14 0 ≠ 0) 3 p0 (.ok a) := by
    by_cases g : D 14 0 ≠ 0
    · rw [sIf_t g, sIf_t (e0.2 g)]; rfl
    · rw [sIf_f g, sIf_f (fun x => g (e0.1 x))]
  rw [e1] at h2
  refine wp_let (wp_bd (wp_mono (c_num (CO_wi h2 (by decide) (fun _ => by decide)) hT 1 9999 (fun _ _ => by decide)) ?_))
  rintro v m5 ⟨⟨h5, v5⟩, f5⟩
  refine wp_let (wp_bd (wp_mono (c_stop (CO_wi h5 (by decide) (fun g => absurd g (by decide))) hT) ?_))
  rintro _ m8 ⟨h8, f8⟩
  refine wp_ret ⟨?_, ?_⟩
  · unfold lnOnce
    rw [show Int32.toInt 1 = 1 from rfl, show Int32.toInt 9999 = 9999 from rfl] at h8 v5
    generalize hr : sStop T n (sNum T n 1 9999 (sIf (D 14 0 ≠ 0) 3 p0 (.ok a))) = r8 at h8
    cases r8 with
    | error e => exact h8
    | ok b =>
      refine ⟨h8, ?_⟩
      show CD m8 (up (up D 14 0 1) 0 3 (rv T n (sIf (D 14 0 ≠ 0) 3 p0 (.ok a))))
      obtain ⟨b2, g1, _⟩ := sStop_inv hr
      have hv := v5 b2 g1
      have q16 : ∀ j, m8.1 16 j = (ax_wi m5 16 16 v).1 16 j := fun j => by rw [f8.1 16 (by decide)]
      have q5 : ∀ j, m5.1 16 j = m.1 16 j := fun j => by rw [f5.1 16 (by decide), wi_ne (by decide), f2.1 16 (by decide)]
      refine CD_nums hd (fun x h1 h2 => ?_) (fun j hj => ?_) (fun k i h1 h2 => ?_) ?_ ?_ ?_ ?_ ?_ ?_
      · rw [f8.1 x (by omega), wi_ne (by omega), f5.1 x (by omega), wi_ne (by omega), f2.1 x (by omega)]
      · rw [q16, wi_other (by omega), q5]
      · by_cases e : k = 0
        · rw [up_i (by have := h2 e; omega), up_k h1]
        · rw [up_k e, up_k h1]
      · rw [q16, wi_self, up_at]; exact hv
      · rw [q16, wi_other (by omega), q5, up_i (by omega), up_k (by omega)]; exact hd.1.2.2.2.2.1
      · rw [q16, wi_other (by omega), q5, up_i (by omega), up_k (by omega)]; exact hd.1.2.2.2.2.2
      · rw [f8.2.2.1, wi_ne (by decide), f5.2.2.1, wi_self, up_k (by omega), up_at]; rfl
      · rw [f8.2.2.2.1, wi_ne (by decide), f5.2.2.2.1, wi_other (by omega), f2.2.2.2.1, up_k (by omega), up_i (by omega)]; exact hd.2.2.2.2.2.2.1
      · rw [f8.2.2.2.2, wi_ne (by decide), f5.2.2.2.2, wi_other (by omega), f2.2.2.2.2, up_k (by omega), up_i (by omega)]; exact hd.2.2.2.2.2.2.2
  · rw [f8.2.1, wi_ne (by decide), f5.2.1, wi_other (by decide), f2.2.1]
theorem sIf_congr {b c : Prop} [Decidable b] [Decidable c] {x p : Int} {r : Rs} (h : ∀ a, r = .ok a → (b ↔ c)) : sIf b x p r = sIf c x p r := by
  cases r with
  | error e => rfl
  | ok a =>
    have h := h a rfl
    by_cases g : c
    · rw [sIf_t g, sIf_t (h.2 g)]
    · rw [sIf_f g, sIf_f (fun y => g (h.1 y))]
def addH (D : Nv) (x o w : Int) : Nv := up (up (up (up D 12 (nH D) x) 1 (nH D) o) 2 (nH D) w) 0 0 (D 0 0 + 1)
noncomputable def p0s (D : Nv) (p0 : Int) (a : Nat) : Rs := sIf (¬ D 0 0 < 4) 2 p0 (.ok a)
noncomputable def p1s (T : Nat → Int) (n : Nat) (D : Nv) (p0 : Int) (a : Nat) : Rs := sIf (nf (D 12) (nH D) (rv T n (p0s D p0 a)) = false) 3 (rp T n (p0s D p0 a)) (sName T n (p0s D p0 a))
noncomputable def lnPhase (T : Nat → Int) (n : Nat) (D : Nv) (p0 : Int) (a : Nat) : Except (Int × Int) (Nv × Nat) := fin (addH D (rv T n (p0s D p0 a)) (rv T n (p1s T n D p0 a)) (rv T n (sNum T n 0 63 (p1s T n D p0 a)))) (sStop T n (sNum T n 1 63 (sNum T n 0 63 (p1s T n D p0 a))))
end CLN
