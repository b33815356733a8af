/-! the class reads a line, a text -/
section LNW
variable {T : Nat → Int} {n : Nat} {D : Nv} {a : Nat}
theorem ln_w0 (hk : tkk T n a = 1) (hv : tkv T n a = WV 0) : ln T n D a = lnOnce T n D 0 3 1 9999 (tkp T n a) (tka T n a) := by
  unfold ln
  rw [if_pos hk, if_pos hv]
theorem ln_w1 (hk : tkk T n a = 1) (hv : tkv T n a = WV 1) : ln T n D a = lnPhase T n D (tkp T n a) (tka T n a) := by
  unfold ln
  rw [if_pos hk, if_neg (by rw [hv]; decide), if_pos hv]
theorem ln_w2 (hk : tkk T n a = 1) (hv : tkv T n a = WV 2) : ln T n D a = lnCell T n D 0 (tkp T n a) (tka T n a) := by
  unfold ln
  rw [if_pos hk, if_neg (by rw [hv]; decide), if_neg (by rw [hv]; decide), if_pos hv]
theorem ln_w3 (hk : tkk T n a = 1) (hv : tkv T n a = WV 3) : ln T n D a = lnCell T n D 1 (tkp T n a) (tka T n a) := by
  unfold ln
  rw [if_pos hk, if_neg (by rw [hv]; decide), if_neg (by rw [hv]; decide), if_neg (by rw [hv]; decide), if_pos hv]
theorem ln_w4 (hk : tkk T n a = 1) (hv : tkv T n a = WV 4) : ln T n D a = lnPath T n D (tkp T n a) (tka T n a) := by
  unfold ln
  rw [if_pos hk, if_neg (by rw [hv]; decide), if_neg (by rw [hv]; decide), if_neg (by rw [hv]; decide), if_neg (by rw [hv]; decide), if_pos hv]
theorem ln_w5 (hk : tkk T n a = 1) (hv : tkv T n a = WV 5) : ln T n D a = lnOnce T n D 5 4 0 99 (tkp T n a) (tka T n a) := by
  unfold ln
  rw [if_pos hk, if_neg (by rw [hv]; decide), if_neg (by rw [hv]; decide), if_neg (by rw [hv]; decide), if_neg (by rw [hv]; decide), if_neg (by rw [hv]; decide), if_pos hv]
theorem ln_w6 (hk : tkk T n a = 1) (hv : tkv T n a = WV 6) : ln T n D a = lnOnce T n D 6 5 0 99999 (tkp T n a) (tka T n a) := by
  unfold ln
  rw [if_pos hk, if_neg (by rw [hv]; decide), if_neg (by rw [hv]; decide), if_neg (by rw [hv]; decide), if_neg (by rw [hv]; decide), if_neg (by rw [hv]; decide), if_neg (by rw [hv]; decide), if_pos hv]
theorem ln_no (h : ¬ (tkk T n a = 1 ∧ kwd (tkv T n a))) : ln T n D a = .error (1, (tkp T n a : Int)) := by
  unfold ln
  by_cases hk : tkk T n a = 1
  · have hj : ∀ j, j < 7 → ¬ tkv T n a = WV j := fun j hj e => h ⟨hk, j, hj, e⟩
    rw [if_pos hk, if_neg (hj 0 (by omega)), if_neg (hj 1 (by omega)), if_neg (hj 2 (by omega)), if_neg (hj 3 (by omega)), if_neg (hj 4 (by omega)), if_neg (hj 5 (by omega)), if_neg (hj 6 (by omega))]
  · rw [if_neg hk]
end LNW
section CTX
variable {m : ax_M} {T : Nat → Int} {n : Nat} {r : Rs} {D : Nv}
theorem c_line {a : Nat} (h : TkO m T n a) (hT : Tp T) (hd : CD m D) (hv : Vd D) : Wp (fX3_readLine m) (fun _ m2 => LO m2 T n (ln T n D a) ∧ m2.1 15 1 = m.1 15 1) := by
  obtain ⟨h0, g7, g8, g9, _⟩ := h
  have bad : ln T n D a = .error (1, (tkp T n a : Int)) → Wp (ax_bd (fX3_refuse 1 m) (fun _ m23 => fX3_readLine_K140 m23)) (fun _ m2 => LO m2 T n (ln T n D a) ∧ m2.1 15 1 = m.1 15 1) := by
    intro e
    rw [e]
    refine wp_bd (wp_mono (c_refuse h0 (by decide) (fun _ _ => g8)) ?_)
    rintro _ m2 ⟨w1, w2⟩
    unfold fX3_readLine_K140
    rw [sIf_t trivial] at w1
    exact wp_ret ⟨w1, w2.2.1⟩
  have tl : ∀ t : Option (Unit × ax_M), ∀ X, ln T n D a = X → Wp t (fun _ m2 => LO m2 T n X ∧ m2.1 15 1 = m.1 15 1) → Wp (ax_bd t (fun _ m3 => fX3_readLine_K140 m3)) (fun _ m2 => LO m2 T n (ln T n D a) ∧ m2.1 15 1 = m.1 15 1) := by
    intro t X e ht
    rw [e]
    exact wp_bd (wp_mono ht (fun _ m2 hm => wp_ret hm))
  unfold fX3_readLine
  refine wp_if (fun c => ?_) (fun c => ?_)
  · have hk : tkk T n a = 1 := by
      rw [q1, g7] at c
      omega
    have g9 := g9 hk
    unfold fX3_readLine_K16
    have ev : ∀ z : Int32, m.1 15 9 = z ↔ tkv T n a = z.toInt := fun z => by rw [t_eq, g9]
    refine wp_if (fun e => tl _ _ (ln_w3 hk ((ev _).1 e)) (cl_cell h0 hT hd hv g8 (Or.inr ⟨rfl, rfl⟩))) (fun e3 => ?_)
    refine wp_if (fun e => tl _ _ (ln_w2 hk ((ev _).1 e)) (cl_cell h0 hT hd hv g8 (Or.inl ⟨rfl, rfl⟩))) (fun e2 => ?_)
    refine wp_if (fun e => tl _ _ (ln_w4 hk ((ev _).1 e)) (cl_path h0 hT hd hv g8)) (fun e4 => ?_)
    refine wp_if (fun e => tl _ _ (ln_w0 hk ((ev _).1 e)) (cl_period h0 hT hd g8)) (fun e0 => ?_)
    refine wp_if (fun e => tl _ _ (ln_w1 hk ((ev _).1 e)) (cl_phase h0 hT hd hv g8)) (fun e1 => ?_)
    refine wp_if (fun e => tl _ _ (ln_w6 hk ((ev _).1 e)) (cl_seed h0 hT hd g8)) (fun e6 => ?_)
    refine wp_if (fun e => tl _ _ (ln_w5 hk ((ev _).1 e)) (cl_skew h0 hT hd g8)) (fun e5 => bad (ln_no ?_))
    rintro ⟨_, j, hj, e⟩
    have hj' : j = 0 ∨ j = 1 ∨ j = 2 ∨ j = 3 ∨ j = 4 ∨ j = 5 ∨ j = 6 := by omega
    rcases hj' with rfl | rfl | rfl | rfl | rfl | rfl | rfl
    · exact e0 ((ev _).2 e)
    · exact e1 ((ev _).2 e)
    · exact e2 ((ev _).2 e)
    · exact e3 ((ev _).2 e)
    · exact e4 ((ev _).2 e)
    · exact e5 ((ev _).2 e)
    · exact e6 ((ev _).2 e)
  · have hk : ¬ tkk T n a = 1 := by
      rw [q1, g7] at c
      omega
    unfold fX3_readLine_K16
    rw [if_neg (by decide), if_neg (by decide), if_neg (by decide), if_neg (by decide), if_neg (by decide), if_neg (by decide), if_neg (by decide)]
    exact bad (ln_no (fun g => hk g.1))
def CR (m : ax_M) (v : Int) : Except (Int × Int) (Nv × Nat) → Prop
  | .ok x => v = 1 ∧ (m.1 15 2).toInt = 0 ∧ (m.1 15 3).toInt = -1 ∧ (m.1 15 1).toInt = (x.2 : Int) ∧ CD m x.1
  | .error e => v = 0 ∧ (m.1 15 2).toInt = e.1 ∧ (m.1 15 3).toInt = e.2
theorem CD_w1 {v : Int32} (hd : CD m D) : CD (ax_wi m 15 1 v) D := by
  refine CD_nums hd (fun x h1 h2 => wi_ne (by omega)) (fun j hj => by rw [wi_ne (by decide)]) (fun _ _ _ _ => rfl) ?_ ?_ ?_ ?_ ?_ ?_
  · rw [wi_ne (by decide)]; exact hd.1.2.2.2.1
  · rw [wi_ne (by decide)]; exact hd.1.2.2.2.2.1
  · rw [wi_ne (by decide)]; exact hd.1.2.2.2.2.2
  · rw [wi_other (by decide)]; exact hd.2.2.2.2.2.1
  · rw [wi_other (by decide)]; exact hd.2.2.2.2.2.2.1
  · rw [wi_other (by decide)]; exact hd.2.2.2.2.2.2.2
theorem c_loop (h : CO m T n (.ok 0)) (hT : Tp T) (hd : CD m D) (hv : Vd D) (hl : (m.1 15 1).toInt = 0) : Wp (ax_lp1 (fX3_read_B57) ax_FU 0 m) (fun v m2 => CR m2 v.toInt (tx T n (n + 1) D 0 0)) := by
  have hn : n ≤ 700 := (CO_CT h).2.2
  have hp := pg_of (CO_CT h) hT
  refine wp_lp1 (fun k (l2 : Int32) m => ∃ D2 : Nv, ∃ a l : Nat, CO m T n (.ok a) ∧ CD m D2 ∧ Vd D2 ∧ (m.1 15 1).toInt = (l : Int) ∧ l2.toInt = (l : Int) ∧ l ≤ a ∧ tx T n (k + 1) D2 a l = tx T n (n + 1) D 0 0 ∧ n - a ≤ k) ax_FU ?_ n (by unfold ax_FU; omega) ⟨D, 0, 0, h, hd, hv, hl, rfl, by omega, rfl, by omega⟩
  rintro k rc hrc l2 μ ⟨D2, a, l, h1, h2, h3, h4, h5, h6, h7, h8⟩
  have han : a ≤ n := h1.2.2.2.1
  unfold fX3_read_B57
  rw [if_neg (by rw [t_lt, h5, h1.1.2.1]; omega)]
  refine wp_bd (wp_mono (c_tok h1 hT) ?_)
  rintro _ m12 ⟨g1, g2⟩
  have d12 := CD_FX h2 g2
  unfold fX3_read_K108
  refine wp_if (fun c => wp_ret ?_) (fun c => ?_)
  · have hk : tkk T n a = 0 := by
      rw [q0, g1.2.1] at c
      omega
    rw [← h7, tx_end hk]
    exact ⟨rfl, g1.1.2.1, g1.1.2.2.2.2, by rw [g2.2.1]; exact h4, d12⟩
  · have hk : tkk T n a ≠ 0 := by
      intro e
      apply c
      rw [q0, g1.2.1, e]; rfl
    refine wp_bd (wp_mono (c_line g1 hT d12 h3) ?_)
    rintro _ m14 ⟨w1, w2⟩
    cases hln : ln T n D2 a with
    | error e =>
      rw [hln] at w1
      have w1 : CO m14 T n (.error e) := w1
      refine wp_if (fun c2 => ?_) (fun c2 => wp_ret ?_)
      · obtain ⟨b, eb⟩ := CO_zero w1 c2
        cases eb
      · rw [← h7, tx_err hk hln]
        exact ⟨rfl, w1.2.1, w1.2.2.2.1⟩
    | ok x =>
      rw [hln] at w1
      obtain ⟨w3, w4⟩ : CO m14 T n (.ok x.2) ∧ CD m14 x.1 := w1
      obtain ⟨y1, y2⟩ := ln_fw (D2 := x.1) (b := x.2) hp han hln
      rw [if_pos (t_eq.mpr w3.2.1)]
      obtain ⟨k', rfl⟩ : ∃ k', k = k' + 1 := ⟨k - 1, by omega⟩
      have hl14 : (m14.1 15 1).toInt = (l : Int) := by rw [w2, g2.2.1]; exact h4
      refine wp_let (hrc k' _ _ (by omega) ⟨x.1, x.2, l + 1, CO_wi w3 (by decide) (fun _ => by decide), CD_w1 w4, vd_ln (b := x.2) h3 hln, ?_, inc h5 (by omega), by omega, ?_, by omega⟩)
      · rw [wi_self]; exact inc hl14 (by omega)
      · rw [← h7, tx_ok hk hln]
theorem wi_get {μ : ax_M} {i j a b : Nat} {v : Int32} : (ax_wi μ i j v).1 a b = if a = i ∧ b = j then v else μ.1 a b := rfl
def D0 : Nv := fun k i => if k = 0 ∧ i = 3 then 100 else 0
theorem vd_D0 : Vd D0 := by
  refine ⟨by decide, fun i hi => ?_, fun i hi => ?_, fun i hi => ?_, fun i j hi => ?_⟩
  · exact absurd hi (by decide +revert)
  · exact absurd hi (by decide +revert)
  · exact absurd hi (by decide +revert)
  · exact absurd hi (by decide +revert)
theorem c_read {p : Int32} (hT : Tp T) (h1 : ∀ i, i < 700 → (m.1 1 i).toInt = T i) (hp : p.toInt = (n : Int)) (hn : n ≤ 700) : Wp (fX3_read p m) (fun v m2 => CR m2 v.toInt (tx T n (n + 1) D0 0 0)) := by
  unfold fX3_read fX1_clear
  have hm : ax_mn p 700 = p := by
    unfold ax_mn
    rw [if_neg]
    rw [t_lt, hp, show Int32.toInt 700 = 700 from rfl]
    omega
  rw [hm]
  refine wp_let (wp_let (wp_let (wp_let (wp_let (wp_let (wp_let (wp_let (wp_bd (wp_let (wp_let (wp_let (wp_let (wp_let (wp_let (wp_let (wp_ret ?_))))))))))))))))
  refine c_loop ⟨⟨fun i hi => ?_, ?_, hn⟩, ?_, ?_, by omega, ?_⟩ hT ⟨⟨?_, ?_, ?_, ?_, ?_, ?_⟩, fun i hi => absurd hi (Nat.not_lt_zero i), fun i hi => absurd hi (Nat.not_lt_zero i), fun i hi => absurd hi (Nat.not_lt_zero i), ?_, ?_, ?_, ?_⟩ vd_D0 ?_
  · simp only [wi_get]
    simpa using h1 i hi
  · simp only [wi_get]
    simpa using hp
  all_goals (simp only [wi_get]; simp; try rfl)
end CTX
