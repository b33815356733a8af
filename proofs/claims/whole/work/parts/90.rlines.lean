/-! the reference's lines -/
def Uh (a j : Nat) : Prop := (a = 57 ∧ 20 ≤ j ∧ j ≤ 25) ∨ (a = 59 ∧ 6 ≤ j) ∨ a = 60 ∨ (61 ≤ a ∧ a ≤ 63 ∧ 4 ≤ j) ∨ (64 ≤ a ∧ a ≤ 69 ∧ 10 ≤ j) ∨ (70 ≤ a ∧ a ≤ 73 ∧ 24 ≤ j)
def Lh (m2 m : ax_M) : Prop := ∀ a j, ¬ Uh a j → m2.1 a j = m.1 a j
def Dr (D : Nv) (a j : Nat) : Prop := (a = 59 ∧ 6 ≤ j ∧ j ≤ 11) ∨ a = 60 ∨ (61 ≤ a ∧ a ≤ 63 ∧ 4 ≤ j ∧ j < 4 + nH D) ∨ (64 ≤ a ∧ a ≤ 69 ∧ 10 ≤ j ∧ j < 10 + nC D) ∨ (70 ≤ a ∧ a ≤ 73 ∧ 24 ≤ j ∧ j < 24 + nP D)
def DK (D : Nv) (m2 m : ax_M) : Prop := ∀ a j, Dr D a j → m2.1 a j = m.1 a j
def RD (m : ax_M) (D : Nv) : Prop :=
  ((m.1 59 7).toInt = D 0 0 ∧ (m.1 59 8).toInt = D 0 1 ∧ (m.1 59 9).toInt = D 0 2 ∧ (m.1 59 6).toInt = D 0 3 ∧ (m.1 59 11).toInt = D 0 4 ∧ (m.1 59 10).toInt = D 0 5) ∧
  (∀ i, i < nH D → (m.1 61 (4 + i)).toInt = D 12 i ∧ (m.1 62 (4 + i)).toInt = D 1 i ∧ (m.1 63 (4 + i)).toInt = D 2 i) ∧
  (∀ c, c < nC D → (m.1 64 (10 + c)).toInt = D 13 c ∧ (m.1 65 (10 + c)).toInt = D 3 c ∧ (m.1 66 (10 + c)).toInt = D 4 c ∧ (m.1 67 (10 + c)).toInt = D 5 c ∧ (m.1 68 (10 + c)).toInt = D 6 c ∧ (m.1 69 (10 + c)).toInt = D 11 c) ∧
  (∀ p, p < nP D → (m.1 70 (24 + p)).toInt = D 7 p ∧ (m.1 71 (24 + p)).toInt = D 8 p ∧ (m.1 72 (24 + p)).toInt = D 9 p ∧ (m.1 73 (24 + p)).toInt = D 10 p) ∧
  ((m.1 60 0).toInt = D 14 0 ∧ (m.1 60 5).toInt = D 14 5 ∧ (m.1 60 6).toInt = D 14 6)
section RLN
variable {m m2 : ax_M} {T : Nat → Int} {n : Nat} {r : Rs} {D : Nv}
theorem Lh_tr {m3 : ax_M} (h : Lh m3 m2) (h2 : Lh m2 m) : Lh m3 m := fun a j hj => (h a j hj).trans (h2 a j hj)
theorem Lh_wi {a j : Nat} {v : Int32} (h : Uh a j) (h2 : Lh m2 m) : Lh (ax_wi m2 a j v) m := by
  intro x y hn
  rw [wi_get, if_neg (fun g => hn (by rw [g.1, g.2]; exact h))]
  exact h2 x y hn
theorem Lh_FR (h : FR m2 m) : Lh m2 m := by
  intro x y hn
  by_cases e : x = 57
  · subst e
    exact h.2 y (by unfold Uh at hn; omega)
  · rw [h.1 x e]
theorem Lh_FN {c k : Nat} (hu : Uh c k) (h : FN c k m2 m) : Lh m2 m := by
  intro x y hn
  by_cases e : x = 57
  · subst e
    exact h.2.1 y (by unfold Uh at hn; omega)
  · by_cases e2 : x = c
    · subst e2
      exact h.2.2 y (fun g => hn (by rw [g]; exact hu))
    · rw [h.1 x e e2]
theorem DK_tr {m3 : ax_M} (h : DK D m3 m2) (h2 : DK D m2 m) : DK D m3 m := fun a j hj => (h a j hj).trans (h2 a j hj)
theorem DK_FR (h : FR m2 m) : DK D m2 m := fun x y hn => by rw [h.1 x (by unfold Dr at hn; omega)]
theorem DK_FN {c k : Nat} (hu : ¬ Dr D c k) (h : FN c k m2 m) : DK D m2 m := by
  intro x y hn
  by_cases e2 : x = c
  · subst e2
    exact h.2.2 y (fun g => hu (by rw [← g]; exact hn))
  · rw [h.1 x (by unfold Dr at hn; omega) e2]
theorem RD_keep (h : RD m D) (hk : DK D m2 m) : RD m2 D := by
  obtain ⟨⟨c1, c2, c3, c4, c5, c6⟩, d1, d2, d3, d5, d6, d7⟩ := h
  refine ⟨⟨?_, ?_, ?_, ?_, ?_, ?_⟩, fun i hi => ?_, fun c hc => ?_, fun p hp => ?_, ?_, ?_, ?_⟩
  · rw [hk 59 7 (by unfold Dr; omega)]; exact c1
  · rw [hk 59 8 (by unfold Dr; omega)]; exact c2
  · rw [hk 59 9 (by unfold Dr; omega)]; exact c3
  · rw [hk 59 6 (by unfold Dr; omega)]; exact c4
  · rw [hk 59 11 (by unfold Dr; omega)]; exact c5
  · rw [hk 59 10 (by unfold Dr; omega)]; exact c6
  · rw [hk 61 (4 + i) (by unfold Dr; omega), hk 62 (4 + i) (by unfold Dr; omega), hk 63 (4 + i) (by unfold Dr; omega)]
    exact d1 i hi
  · rw [hk 64 (10 + c) (by unfold Dr; omega), hk 65 (10 + c) (by unfold Dr; omega), hk 66 (10 + c) (by unfold Dr; omega), hk 67 (10 + c) (by unfold Dr; omega), hk 68 (10 + c) (by unfold Dr; omega), hk 69 (10 + c) (by unfold Dr; omega)]
    exact d2 c hc
  · rw [hk 70 (24 + p) (by unfold Dr; omega), hk 71 (24 + p) (by unfold Dr; omega), hk 72 (24 + p) (by unfold Dr; omega), hk 73 (24 + p) (by unfold Dr; omega)]
    exact d3 p hp
  · rw [hk 60 0 (by unfold Dr; omega)]; exact d5
  · rw [hk 60 5 (by unfold Dr; omega)]; exact d6
  · rw [hk 60 6 (by unfold Dr; omega)]; exact d7
theorem wp_rding {α : Type} {Q : α → ax_M → Prop} {p : Int32} {f : Int32 → ax_M → Option (α × ax_M)} (k : Nat) (hp : p.toInt = (k : Int)) (hk : k < 6) (h : Wp (f (m.1 59 (6 + k)) m) Q) : Wp (ax_bd (fX9_reading p m) f) Q := by
  refine wp_bd ?_
  unfold fX9_reading
  exact wp_rd (6 + k) (by rw [t_add, hp, show Int32.toInt 6 = 6 from rfl]; omega) (by omega) (wp_ret h)
theorem wp_rdsin {α : Type} {Q : α → ax_M → Prop} {p v : Int32} {f : Unit → ax_M → Option (α × ax_M)} (k : Nat) (hp : p.toInt = (k : Int)) (hk : k < 6) (h : Wp (f () (ax_wi m 59 (6 + k) v)) Q) : Wp (ax_bd (fX9_reads p v m) f) Q := by
  refine wp_bd ?_
  unfold fX9_reads
  exact wp_wr (6 + k) (by rw [t_add, hp, show Int32.toInt 6 = 6 from rfl]; omega) (by omega) (wp_ret h)
theorem RK_w {a x j : Nat} {v : Int32} (h : RK m T n a) (h1 : x ≠ 57) : RK (ax_wi m x j v) T n a := by
  unfold RK at *
  rw [wi_ne (Ne.symm h1)]
  exact h
theorem RLd_w {x j : Nat} {v : Int32} (h : RLd m T n r) (h1 : x ≠ 57) (h2 : x ≠ 58) : RLd (ax_wi m x j v) T n r := by
  cases r with
  | ok a =>
    obtain ⟨g1, g2, g3⟩ := h
    exact ⟨RT_w g1 h1 h2, by rw [wi_ne (Ne.symm h1)]; exact g2, RK_w g3 h1⟩
  | error e =>
    obtain ⟨g1, g2, g3, g4⟩ := h
    exact ⟨RT_w g1 h1 h2, by rw [wi_ne (Ne.symm h1)]; exact g2, g3, by rw [wi_ne (Ne.symm h1)]; exact g4⟩
theorem RO_w {x j : Nat} {v : Int32} (h : RO m T n r) (h1 : x ≠ 57) (h2 : x ≠ 58) : RO (ax_wi m x j v) T n r := by
  cases r with
  | ok a =>
    obtain ⟨g1, g2, g3, g4⟩ := h
    exact ⟨RT_w g1 h1 h2, by rw [wi_ne (Ne.symm h1)]; exact g2, by rw [wi_ne (Ne.symm h1)]; exact g3, g4⟩
  | error e =>
    obtain ⟨g1, g2, g3, g4⟩ := h
    exact ⟨RT_w g1 h1 h2, by rw [wi_ne (Ne.symm h1)]; exact g2, g3, by rw [wi_ne (Ne.symm h1)]; exact g4⟩
theorem RLd_zero (h : RLd m T n r) (h0 : m.1 57 24 = 0) : ∃ b, r = .ok b := by
  cases r with
  | ok b => exact ⟨b, rfl⟩
  | error e => exact absurd h0 (re_ne h)
theorem RLd_nz (h : RLd m T n r) (h0 : ¬ m.1 57 24 = 0) : ∃ e, r = .error e := by
  cases r with
  | ok b => exact absurd (ro_eq h.2.1) h0
  | error e => exact ⟨e, rfl⟩
theorem r_num2 (h : RLd m T n r) (hT : Tp T) {lo hi : Int32} (l u : Int) (hl : lo.toInt = l) (hu : hi.toInt = u) (hhi : ∀ a, r = .ok a → u ≤ 99999) : Wp (fX9_numeral lo hi m) (fun v m2 => (RLd m2 T n (sNum T n l u r) ∧ ∀ a, sNum T n l u r = .ok a → v.toInt = rv T n r) ∧ FR m2 m) := by
  subst hl
  subst hu
  exact r_num h hT lo hi hhi
/-- a fault told at the line's word, if so -/
theorem r_if {a : Nat} {p0 : Int} {b : Prop} [Decidable b] {c : Int32} (h : RO m T n (.ok a)) (hp : (m.1 57 21).toInt = p0) (hc : c.toInt ≠ 0) (hb : b) : Wp (fX9_wrong c m) (fun _ m2 => RO m2 T n (sIf b c.toInt p0 (.ok a)) ∧ FR m2 m) := by
  refine wp_mono (r_wrong h.1 h.2.1 hp hc) ?_
  rintro _ m2 ⟨w1, w2⟩
  rw [sIf_t hb]
  exact ⟨w1, w2⟩
/-! period, skew, seed -/
theorem RD_once {w k c : Nat} {z : Int} (hw : (w = 0 ∧ k = 0 ∧ c = 3) ∨ (w = 5 ∧ k = 5 ∧ c = 4) ∨ (w = 6 ∧ k = 4 ∧ c = 5)) (hd : RD m D) (h59 : ∀ j, j ≠ 6 + k → m2.1 59 j = m.1 59 j) (hz : (m2.1 59 (6 + k)).toInt = z) (h60 : ∀ j, j ≠ w → m2.1 60 j = m.1 60 j) (h1 : (m2.1 60 w).toInt = 1) (h61 : ∀ a, 61 ≤ a → a ≤ 73 → m2.1 a = m.1 a) : RD m2 (up (up D 14 w 1) 0 c z) := by
  obtain ⟨⟨c1, c2, c3, c4, c5, c6⟩, d1, d2, d3, d5, d6, d7⟩ := hd
  have o : ∀ k i, k ≠ 14 → ¬ (k = 0 ∧ i = c) → up (up D 14 w 1) 0 c z k i = D k i := fun k i h1 h2 => by rw [up_nn h2, up_k h1]
  have n0 : nH (up (up D 14 w 1) 0 c z) = nH D := nH_of (o 0 0 (by omega) (by omega))
  have n1 : nC (up (up D 14 w 1) 0 c z) = nC D := nC_of (o 0 1 (by omega) (by omega))
  have n2 : nP (up (up D 14 w 1) 0 c z) = nP D := nP_of (o 0 2 (by omega) (by omega))
  refine ⟨⟨?_, ?_, ?_, ?_, ?_, ?_⟩, fun i hi => ?_, fun c' hc => ?_, fun p hp => ?_, ?_, ?_, ?_⟩
  · rw [h59 7 (by omega), o 0 0 (by omega) (by omega)]; exact c1
  · rw [h59 8 (by omega), o 0 1 (by omega) (by omega)]; exact c2
  · rw [h59 9 (by omega), o 0 2 (by omega) (by omega)]; exact c3
  · rcases hw with ⟨rfl, rfl, rfl⟩ | ⟨rfl, rfl, rfl⟩ | ⟨rfl, rfl, rfl⟩
    · rw [up_at]; exact hz
    · rw [h59 6 (by omega), o 0 3 (by omega) (by omega)]; exact c4
    · rw [h59 6 (by omega), o 0 3 (by omega) (by omega)]; exact c4
  · rcases hw with ⟨rfl, rfl, rfl⟩ | ⟨rfl, rfl, rfl⟩ | ⟨rfl, rfl, rfl⟩
    · rw [h59 11 (by omega), o 0 4 (by omega) (by omega)]; exact c5
    · rw [up_at]; exact hz
    · rw [h59 11 (by omega), o 0 4 (by omega) (by omega)]; exact c5
  · rcases hw with ⟨rfl, rfl, rfl⟩ | ⟨rfl, rfl, rfl⟩ | ⟨rfl, rfl, rfl⟩
    · rw [h59 10 (by omega), o 0 5 (by omega) (by omega)]; exact c6
    · rw [h59 10 (by omega), o 0 5 (by omega) (by omega)]; exact c6
    · rw [up_at]; exact hz
  · rw [h61 61 (by omega) (by omega), h61 62 (by omega) (by omega), h61 63 (by omega) (by omega), o 12 i (by omega) (by omega), o 1 i (by omega) (by omega), o 2 i (by omega) (by omega)]
    exact d1 i (by omega)
  · rw [h61 64 (by omega) (by omega), h61 65 (by omega) (by omega), h61 66 (by omega) (by omega), h61 67 (by omega) (by omega), h61 68 (by omega) (by omega), h61 69 (by omega) (by omega), o 13 c' (by omega) (by omega), o 3 c' (by omega) (by omega), o 4 c' (by omega) (by omega), o 5 c' (by omega) (by omega), o 6 c' (by omega) (by omega), o 11 c' (by omega) (by omega)]
    exact d2 c' (by omega)
  · rw [h61 70 (by omega) (by omega), h61 71 (by omega) (by omega), h61 72 (by omega) (by omega), h61 73 (by omega) (by omega), o 7 p (by omega) (by omega), o 8 p (by omega) (by omega), o 9 p (by omega) (by omega), o 10 p (by omega) (by omega)]
    exact d3 p (by omega)
  · rw [up_k (by omega)]
    by_cases e : w = 0
    · subst e; rw [up_at]; exact h1
    · rw [h60 0 (by omega), up_i (by omega)]; exact d5
  · rw [up_k (by omega)]
    by_cases e : w = 5
    · subst e; rw [up_at]; exact h1
    · rw [h60 5 (by omega), up_i (by omega)]; exact d6
  · rw [up_k (by omega)]
    by_cases e : w = 6
    · subst e; rw [up_at]; exact h1
    · rw [h60 6 (by omega), up_i (by omega)]; exact d7
/-- what a line's beginning leaves: the reading stands at r, its draft is D2 -/
def RQ (m2 m : ax_M) (T : Nat → Int) (n : Nat) (D2 : Nv) (r : Rs) : Prop := RLd m2 T n r ∧ Lh m2 m ∧ ∀ b, r = .ok b → RD m2 D2
theorem r_once {a w k c : Nat} {p0 l u : Int} {p1 p2 lo hi : Int32} (h : RO m T n (.ok a)) (hT : Tp T) (hd : RD m D) (hp : (m.1 57 21).toInt = p0) (hw : (w = 0 ∧ k = 0 ∧ c = 3) ∨ (w = 5 ∧ k = 5 ∧ c = 4) ∨ (w = 6 ∧ k = 4 ∧ c = 5)) (h1 : p1.toInt = (w : Int)) (h2 : p2.toInt = (k : Int)) (hl : lo.toInt = l) (hu : hi.toInt = u) (hhi : u ≤ 99999) : Wp (fX9_readOnce p1 p2 lo hi m) (fun _ m2 => RQ m2 m T n (up (up D 14 w 1) 0 c (rv T n (sIf (D 14 w ≠ 0) 3 p0 (.ok a)))) (sNum T n l u (sIf (D 14 w ≠ 0) 3 p0 (.ok a)))) := by
  have main : ∀ m2 : ax_M, FR m2 m → RO m2 T n (sIf (D 14 w ≠ 0) 3 p0 (.ok a)) → Wp (fX9_readOnce_K14 p1 p2 lo hi m2) (fun _ m2 => RQ m2 m T n (up (up D 14 w 1) 0 c (rv T n (sIf (D 14 w ≠ 0) 3 p0 (.ok a)))) (sNum T n l u (sIf (D 14 w ≠ 0) 3 p0 (.ok a)))) := by
    intro m2 f2 g2
    unfold fX9_readOnce_K14
    refine wp_wz w h1 (by omega) (wp_bd (wp_mono (r_goOn (RO_w g2 (by decide) (by decide)) hT) ?_))
    rintro _ m4 ⟨g4, f4⟩
    refine wp_bd (wp_mono (r_num2 g4 hT l u hl hu (fun _ _ => hhi)) ?_)
    rintro v m6 ⟨⟨g6, v6⟩, f6⟩
    refine wp_rdsin k h2 (by omega) (wp_ret ⟨RLd_w g6 (by decide) (by decide), ?_, fun b e => ?_⟩)
    · exact Lh_wi (by unfold Uh; omega) (Lh_tr (Lh_FR (FR_tr f6 f4)) (Lh_wi (by unfold Uh; omega) (Lh_FR f2)))
    · refine RD_once hw hd (fun j hj => ?_) ?_ (fun j hj => ?_) ?_ (fun x y1 y2 => ?_)
      · rw [wi_other hj, f6.1 59 (by decide), f4.1 59 (by decide), wi_ne (by decide), f2.1 59 (by decide)]
      · rw [wi_self]; exact v6 b e
      · rw [wi_ne (by decide), f6.1 60 (by decide), f4.1 60 (by decide), wi_other hj, f2.1 60 (by decide)]
      · rw [wi_ne (by decide), f6.1 60 (by decide), f4.1 60 (by decide), wi_self]; rfl
      · rw [wi_ne (by omega), f6.1 x (by omega), f4.1 x (by omega), wi_ne (by omega), f2.1 x (by omega)]
  have e0 : (m.1 60 w).toInt = D 14 w := by
    rcases hw with ⟨rfl, _⟩ | ⟨rfl, _⟩ | ⟨rfl, _⟩
    · exact hd.2.2.2.2.1
    · exact hd.2.2.2.2.2.1
    · exact hd.2.2.2.2.2.2
  unfold fX9_readOnce
  refine wp_rd w h1 (by omega) (wp_if (fun z => main m (FR_rf m) ?_) (fun z => wp_bd (wp_mono (r_if (b := (D 14 w ≠ 0)) h hp (by decide) ?_) ?_)))
  · rw [sIf_f (fun g => g (by rw [← e0]; exact q0.mp z))]
    exact h
  · intro g
    exact z (q0.mpr (e0.trans g))
  · rintro _ m3 ⟨w1, w2⟩
    exact main m3 w2 w1
end RLN
