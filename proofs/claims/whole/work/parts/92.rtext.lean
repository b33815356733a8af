/-! the reference reads a line, a text -/
def LR (m : ax_M) (T : Nat → Int) (n : Nat) : Except (Int × Int) (Nv × Nat) → Prop
  | .ok x => RLd m T n (.ok x.2) ∧ RD m x.1
  | .error e => RE m T n e
def Ln (m2 m : ax_M) : Prop := ∀ a j, ¬ Uh a j → a ≠ 57 → m2.1 a j = m.1 a j
def RR (m : ax_M) : Except (Int × Int) (Nv × Nat) → Prop
  | .ok x => (m.1 57 24).toInt = 0 ∧ (m.1 57 18).toInt = (x.2 : Int) ∧ RD m x.1
  | .error e => (m.1 57 24).toInt = e.1 ∧ e.1 ≠ 0 ∧ (m.1 57 25).toInt = e.2
theorem pg_all {T : Nat → Int} {n : Nat} (hT : Tp T) (hn : n ≤ 700) : PG T n := by
  refine pg_of (m := (fun a i => if a = 1 then Int32.ofNat (T i).toNat else Int32.ofNat n, fun _ _ => 0)) ⟨fun i hi => ?_, ?_, hn⟩ hT
  · have := hT i hi
    show (Int32.ofNat (T i).toNat).toInt = T i
    rw [Int32.toInt_ofNat', t_bmod]
    omega
  · show (Int32.ofNat n).toInt = (n : Int)
    rw [Int32.toInt_ofNat', t_bmod]
    omega
section RTX
variable {m m2 : ax_M} {T : Nat → Int} {n : Nat} {r : Rs} {D : Nv}
theorem RE_18 {e : Int × Int} {v : Int32} (h : RE m T n e) : RE (ax_wi m 57 18 v) T n e := by
  obtain ⟨g1, g2, g3, g4⟩ := h
  exact ⟨RT_wi g1 (by decide), by rw [wi_other (by decide)]; exact g2, g3, by rw [wi_other (by decide)]; exact g4⟩
theorem RLd_18 {a : Nat} {v : Int32} (h : RLd m T n (.ok a)) : RLd (ax_wi m 57 18 v) T n (.ok a) := by
  obtain ⟨g1, g2, g3⟩ := h
  refine ⟨RT_wi g1 (by decide), by rw [wi_other (by decide)]; exact g2, ?_⟩
  unfold RK at *
  rw [wi_other (by decide), wi_other (by decide), wi_other (by decide), wi_other (by decide)]
  exact g3
theorem r_end {D2 : Nv} (h : RLd m T n r) (hT : Tp T) (hd : ∀ b, r = .ok b → RD m D2) : Wp (fX9_readLine_K131 m) (fun _ m2 => LR m2 T n (fin D2 (sStop T n r)) ∧ Ln m2 m ∧ m2.1 57 18 = m.1 57 18 + 1) := by
  have k151 : ∀ (m3 : ax_M) (r3 : Rs), FR m3 m → RO m3 T n r3 → (∀ b, r3 = .ok b → RD m D2) → Wp (fX9_readLine_K151 m3) (fun _ m2 => LR m2 T n (fin D2 r3) ∧ Ln m2 m ∧ m2.1 57 18 = m.1 57 18 + 1) := by
    intro m3 r3 f3 g3 hd3
    unfold fX9_readLine_K151
    refine wp_bd (wp_mono (r_goOn g3 hT) ?_)
    rintro _ m4 ⟨g4, f4⟩
    have ff := FR_tr f4 f3
    refine wp_let (wp_ret ⟨?_, fun x y hn h57 => ?_, ?_⟩)
    · cases r3 with
      | error e => exact RE_18 g4
      | ok b => exact ⟨RLd_18 g4, RD_keep (hd3 b rfl) (fun x y hx => by rw [wi_ne (by unfold Dr at hx; omega), ff.1 x (by unfold Dr at hx; omega)])⟩
    · rw [wi_ne h57, ff.1 x h57]
    · rw [wi_self, ff.2 18 (by omega)]
  unfold fX9_readLine_K131
  cases r with
  | error e =>
    rw [if_neg (re_ne h)]
    exact k151 m (.error e) (FR_rf m) h (fun b e => by cases e)
  | ok b =>
    obtain ⟨h1, h2, h3⟩ := h
    obtain ⟨k1, k2, k3, k4⟩ := RK_tk h3
    rw [if_pos (ro_eq h2)]
    refine wp_if (fun c => ?_) (fun c => ?_)
    · have hk := (RTk_stop k4).1 (q3.mp c)
      rw [sStop_t hk]
      exact k151 m (.ok (tka T n b)) (FR_rf m) ⟨h1, h2, k1, k2⟩ (fun _ _ => hd b rfl)
    · have hk : ¬ tkk T n b = 3 := fun g => c (q3.mpr ((RTk_stop k4).2 g))
      rw [sStop_f hk]
      refine wp_bd (wp_mono (r_wrong h1 h2 k3 (c := 1) (by decide)) ?_)
      rintro _ m2 ⟨w1, w2⟩
      exact k151 m2 (.error (1, (tkp T n b : Int))) w2 w1 (fun b e => by cases e)
theorem r_line {a : Nat} (h : RLd m T n (.ok a)) (hT : Tp T) (hd : RD m D) (hv : Vd D) : Wp (fX9_readLine m) (fun _ m2 => LR m2 T n (ln T n D a) ∧ Ln m2 m ∧ m2.1 57 18 = m.1 57 18 + 1) := by
  obtain ⟨h1, h2, h3⟩ := h
  obtain ⟨k1, k2, k3, k4⟩ := RK_tk h3
  have ho : RO m T n (.ok (tka T n a)) := ⟨h1, h2, k1, k2⟩
  have tl : ∀ (t : Option (Unit × ax_M)) (D2 : Nv) (r : Rs), ln T n D a = fin D2 (sStop T n r) → Wp t (fun _ m2 => RQ m2 m T n D2 r) → Wp (ax_bd t (fun _ m2 => fX9_readLine_K131 m2)) (fun _ m2 => LR m2 T n (ln T n D a) ∧ Ln m2 m ∧ m2.1 57 18 = m.1 57 18 + 1) := by
    intro t D2 r e ht
    refine wp_bd (wp_mono ht ?_)
    rintro _ m2 ⟨w1, w2, w3⟩
    refine wp_mono (r_end w1 hT w3) ?_
    rintro _ m3 ⟨y1, y2, y3⟩
    rw [e]
    refine ⟨y1, fun x j hn h57 => by rw [y2 x j hn h57, w2 x j hn], ?_⟩
    rw [y3, w2 57 18 (by unfold Uh; omega)]
  unfold fX9_readLine
  refine wp_if (fun c => ?_) (fun c => ?_)
  · obtain ⟨j, hj, hw2, hk, hw⟩ := RTk_word k4 (q0.mp c)
    have n0 : j ≠ 0 → ¬ m.1 57 23 = 0 := fun hx g => by have := q0.mp g; omega
    have n1 : j ≠ 1 → ¬ m.1 57 23 = 1 := fun hx g => by have := q1.mp g; omega
    have n2 : j ≠ 2 → ¬ m.1 57 23 = 2 := fun hx g => by have := q2.mp g; omega
    have n3 : j ≠ 3 → ¬ m.1 57 23 = 3 := fun hx g => by have := q3.mp g; omega
    have n4 : j ≠ 4 → ¬ m.1 57 23 = 4 := fun hx g => by have := q4.mp g; omega
    have n5 : j ≠ 5 → ¬ m.1 57 23 = 5 := fun hx g => by have := q5.mp g; omega
    have hj' : j = 0 ∨ j = 1 ∨ j = 2 ∨ j = 3 ∨ j = 4 ∨ j = 5 ∨ j = 6 := by omega
    rcases hj' with rfl | rfl | rfl | rfl | rfl | rfl | rfl
    · rw [if_pos (q0.mpr hw)]
      exact tl _ _ _ (ln_w0 hk hw2) (r_once ho hT hd k3 (Or.inl ⟨rfl, rfl, rfl⟩) rfl rfl rfl rfl (by decide))
    · rw [if_neg (n0 (by omega)), if_pos (q1.mpr hw)]
      exact tl _ _ _ (ln_w1 hk hw2) (r_phase ho hT hd hv k3)
    · rw [if_neg (n0 (by omega)), if_neg (n1 (by omega)), if_pos (q2.mpr hw)]
      unfold fX9_readLine_K66 fX9_readLine_K80
      rw [if_neg (n3 (by omega))]
      exact tl _ _ _ (ln_w2 hk hw2) (r_cell ho hT hd hv k3 rfl)
    · rw [if_neg (n0 (by omega)), if_neg (n1 (by omega)), if_neg (n2 (by omega)), if_pos (q3.mpr hw)]
      unfold fX9_readLine_K66 fX9_readLine_K80
      rw [if_pos (q3.mpr hw)]
      exact tl _ _ _ (ln_w3 hk hw2) (r_cell ho hT hd hv k3 rfl)
    · rw [if_neg (n0 (by omega)), if_neg (n1 (by omega)), if_neg (n2 (by omega)), if_neg (n3 (by omega)), if_pos (q4.mpr hw)]
      exact tl _ _ _ (ln_w4 hk hw2) (r_path ho hT hd hv k3)
    · rw [if_neg (n0 (by omega)), if_neg (n1 (by omega)), if_neg (n2 (by omega)), if_neg (n3 (by omega)), if_neg (n4 (by omega)), if_pos (q5.mpr hw)]
      exact tl _ _ _ (ln_w5 hk hw2) (r_once ho hT hd k3 (Or.inr (Or.inl ⟨rfl, rfl, rfl⟩)) rfl rfl rfl rfl (by decide))
    · rw [if_neg (n0 (by omega)), if_neg (n1 (by omega)), if_neg (n2 (by omega)), if_neg (n3 (by omega)), if_neg (n4 (by omega)), if_neg (n5 (by omega))]
      exact tl _ _ _ (ln_w6 hk hw2) (r_once ho hT hd k3 (Or.inr (Or.inr ⟨rfl, rfl, rfl⟩)) rfl rfl rfl rfl (by decide))
  · refine tl _ D (.error (1, (tkp T n a : Int))) (ln_no (RTk_nword k4 (fun g => c (q0.mpr g)))) (wp_mono (r_wrong h1 h2 k3 (c := 1) (by decide)) ?_)
    rintro _ m2 ⟨w1, w2⟩
    exact ⟨w1, Lh_FR w2, fun b e => by cases e⟩
theorem r_loop (h : RLd m T n (.ok 0)) (hT : Tp T) (hn : n ≤ 700) (hd : RD m D) (hv : Vd D) (hl : (m.1 57 18).toInt = 0) : Wp (ax_lp0 (fX9_readText_B28) ax_FU m) (fun _ m2 => RR m2 (tx T n (n + 1) D 0 0) ∧ Ln m2 m) := by
  have hp := pg_all hT hn
  refine wp_lp0 (fun k μ => Ln μ m ∧ ((∃ D2 : Nv, ∃ a l : Nat, RLd μ T n (.ok a) ∧ a ≤ n ∧ RD μ D2 ∧ Vd D2 ∧ (μ.1 57 18).toInt = (l : Int) ∧ l ≤ a ∧ tx T n (k + 1) D2 a l = tx T n (n + 1) D 0 0 ∧ n - a ≤ k) ∨ ∃ e, RE μ T n e ∧ tx T n (n + 1) D 0 0 = .error e)) ax_FU ?_ n (by unfold ax_FU; omega) ⟨fun _ _ _ _ => rfl, Or.inl ⟨D, 0, 0, h, by omega, hd, hv, hl, by omega, rfl, by omega⟩⟩
  rintro k rc hrc μ ⟨hL, hI⟩
  unfold fX9_readText_B28 fX9_readText_K50
  rcases hI with ⟨D2, a, l, h1, h2, h3, h4, h5, h6, h7, h8⟩ | ⟨e, h1, h2⟩
  · rw [if_pos (ro_eq h1.2.1)]
    have k4 := (RK_tk h1.2.2).2.2.2
    refine wp_if (fun c => wp_ret ⟨?_, hL⟩) (fun c => ?_)
    · have hk : tkk T n a = 0 := (RTk_end k4).1 (q4.mp c)
      rw [← h7, tx_end hk]
      exact ⟨h1.2.1, h5, h3⟩
    · have hk : tkk T n a ≠ 0 := fun g => c (q4.mpr ((RTk_end k4).2 g))
      have hfw := hp a h2
      have hfw2 := hfw.2.2 hk
      obtain ⟨k', rfl⟩ : ∃ k', k = k' + 1 := ⟨k - 1, by omega⟩
      refine wp_bd (wp_mono (r_line h1 hT h3 h4) ?_)
      rintro _ m10 ⟨w1, w2, w3⟩
      have hL2 : Ln m10 m := fun x j g1 g2 => by rw [w2 x j g1 g2, hL x j g1 g2]
      refine hrc k' m10 (by omega) ⟨hL2, ?_⟩
      cases hln : ln T n D2 a with
      | error e =>
        rw [hln] at w1
        exact Or.inr ⟨e, w1, by rw [← h7, tx_err hk hln]⟩
      | ok x =>
        rw [hln] at w1
        obtain ⟨w4, w5⟩ : RLd m10 T n (.ok x.2) ∧ RD m10 x.1 := w1
        obtain ⟨y1, y2⟩ := ln_fw (D2 := x.1) (b := x.2) hp h2 hln
        refine Or.inl ⟨x.1, x.2, l + 1, w4, y2, w5, vd_ln (b := x.2) h4 hln, ?_, by omega, ?_, by omega⟩
        · rw [w3]; exact inc h5 (by omega)
        · rw [← h7, tx_ok hk hln]
  · rw [if_neg (re_ne h1)]
    refine wp_ret ⟨?_, hL⟩
    rw [h2]
    exact ⟨h1.2.1, h1.2.2.1, h1.2.2.2⟩
end RTX
