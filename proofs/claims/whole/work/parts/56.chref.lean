/-! chance of the reference; the public answers -/
theorem q0 {w : Int32} : w = 0 ↔ w.toInt = 0 := t_eq
theorem q1 {w : Int32} : w = 1 ↔ w.toInt = 1 := t_eq
theorem q2 {w : Int32} : w = 2 ↔ w.toInt = 2 := t_eq
theorem q3 {w : Int32} : w = 3 ↔ w.toInt = 3 := t_eq
theorem q4 {w : Int32} : w = 4 ↔ w.toInt = 4 := t_eq
theorem q5 {w : Int32} : w = 5 ↔ w.toInt = 5 := t_eq
theorem q6 {w : Int32} : w = 6 ↔ w.toInt = 6 := t_eq
theorem q7 {w : Int32} : w = 7 ↔ w.toInt = 7 := t_eq
theorem q8 {w : Int32} : w = 8 ↔ w.toInt = 8 := t_eq
theorem qm1 {w : Int32} : w = -1 ↔ w.toInt = -1 := t_eq
theorem qm2 {w : Int32} : w = -2 ↔ w.toInt = -2 := t_eq
theorem tm1 : Int32.toInt (-1) = -1 := rfl
theorem tm2 : Int32.toInt (-2) = -2 := rfl
def AnsCh (ν : Nv) (p n w r : Int) : Prop := ((p < -1 ∨ n < 1 ∨ 40 < n ∨ w < 0 ∨ 2 < w) ∧ r = -1) ∨ (¬ (p < -1 ∨ n < 1 ∨ 40 < n ∨ w < 0 ∨ 2 < w) ∧ ∃ x : Int32, x.toInt = (if p = -1 then ν 0 5 else p) ∧ ChI ν x n.toNat w r)
theorem ansCh_unique {ν : Nv} {p n w r s : Int} (h : AnsCh ν p n w r) (h2 : AnsCh ν p n w s) : r = s := by
  rcases h with ⟨a1, a2⟩ | ⟨a1, x, a2, a3⟩ <;> rcases h2 with ⟨b1, b2⟩ | ⟨b1, y, b2, b3⟩
  · omega
  · exact absurd a1 b1
  · exact absurd b1 a1
  · have : x = y := t_eq.mpr (a2.trans b2.symm)
    subst this
    exact chI_unique a3 b3
section CHR
variable {μ : ax_M} {ν : Nv} {f g : Nat → Int}
theorem sX8_chance (h : CN μ ν) (hv : Vd ν) (p n w : Int32) : Wp (fX8_chance p n w μ) (fun r m => AnsCh ν p.toInt n.toInt w.toInt r.toInt ∧ CN m ν ∧ (m.1 32 5 = μ.1 32 5 ∧ m = μ ∨ (m.1 32 5).toInt = 0)) := by
  have h0 := hv.1
  have e5 := h.1.2.2.2.2.2
  unfold fX8_chance fX8_chance_K25 fX8_chance_K47
  simp only [t_lt, t_le, tm1, Int32.reduceToInt]
  have no : (p.toInt < -1 ∨ n.toInt < 1 ∨ 40 < n.toInt ∨ w.toInt < 0 ∨ 2 < w.toInt) → Wp (some ((-1 : Int32), μ)) (fun r m => AnsCh ν p.toInt n.toInt w.toInt r.toInt ∧ CN m ν ∧ (m.1 32 5 = μ.1 32 5 ∧ m = μ ∨ (m.1 32 5).toInt = 0)) := fun hc => wp_ret ⟨Or.inl ⟨hc, rfl⟩, h, Or.inl ⟨rfl, rfl⟩⟩
  refine wp_if (fun c1 => no (Or.inl c1)) (fun c1 => wp_if (fun c2 => no (Or.inr (Or.inl c2))) (fun c2 => wp_if (fun c3 => no (Or.inr (Or.inr (Or.inl c3)))) (fun c3 => wp_if (fun c4 => no (Or.inr (Or.inr (Or.inr (Or.inl c4))))) (fun c4 => wp_if (fun c5 => wp_if (fun c6 => ?_) (fun c6 => ?_)) (fun c5 => no (Or.inr (Or.inr (Or.inr (Or.inr (by omega))))))))))
  · have c6 : p.toInt = -1 := t_eq.mp c6
    refine wp_bd (wp_mono (sX4_byChance h hv (μ.1 2 18) n w (by omega) (by omega) (by omega) (by omega)) ?_)
    rintro r m ⟨a, b, d⟩
    exact wp_ret ⟨Or.inr ⟨by omega, μ.1 2 18, by rw [if_pos c6]; exact e5, a⟩, b, Or.inr d⟩
  · have c6 : ¬ p.toInt = -1 := fun h => c6 (t_eq.mpr h)
    refine wp_bd (wp_mono (sX4_byChance h hv p n w (by omega) (by omega) (by omega) (by omega)) ?_)
    rintro r m ⟨a, b, d⟩
    exact wp_ret ⟨Or.inr ⟨by omega, p, by rw [if_neg c6], a⟩, b, Or.inr d⟩
theorem RN_st (hv : Vd ν) (h : RN μ (st ν f)) {m : ax_M} (hk : ∀ a, 59 ≤ a → a < 74 → m.1 a = μ.1 a) (hj : ∀ j, j < 19 ∨ 43 ≤ j → m.1 74 j = μ.1 74 j) (h19 : ∀ p, p < nP ν → (m.1 74 (19 + p)).toInt = g p) : RN m (st ν g) := by
  have hn := vd_nums hv
  obtain ⟨⟨a1, a2, a3, a4, a5, a6⟩, hb, hc, hd⟩ := h
  refine ⟨⟨?_, ?_, ?_, ?_, ?_, ?_⟩, fun i hi => ?_, fun c hc2 => ?_, fun p hp => ?_⟩
  · rw [hk 59 (by omega) (by omega)]; exact a1
  · rw [hk 59 (by omega) (by omega)]; exact a2
  · rw [hk 59 (by omega) (by omega)]; exact a3
  · rw [hj 0 (by omega)]; exact a4
  · rw [hj 67 (by omega)]; exact a5
  · rw [hk 59 (by omega) (by omega)]; exact a6
  · have hi : i < nH ν := hi
    rw [hk 61 (by omega) (by omega), hj (1 + i) (by omega), hj (5 + i) (by omega)]; exact hb i hi
  · have hc2 : c < nC ν := hc2
    rw [hk 64 (by omega) (by omega), hk 65 (by omega) (by omega), hk 66 (by omega) (by omega), hk 67 (by omega) (by omega), hk 68 (by omega) (by omega), hj (9 + c) (by omega)]; exact hc c hc2
  · have hp : p < nP ν := hp
    have := hd p hp
    rw [hk 70 (by omega) (by omega), hk 71 (by omega) (by omega), hj (43 + p) (by omega)]
    exact ⟨this.1, this.2.1, h19 p hp, this.2.2.2⟩
theorem sX9_pathsk (h : RN μ ν) {m : ax_M} (hk : m.1 59 = μ.1 59) : Rd (fX9_paths m) m (ν 0 2) := by
  unfold fX9_paths
  exact rd_wp (wp_rd 3 rfl (by omega) (wp_ret ⟨by rw [hk]; exact h.1.2.2.1, rfl⟩))
/-- the end: delays back -/
theorem sX9_chEnd (hv : Vd ν) {f : Nat → Int} (h : RN μ (st ν f)) (h83 : ∀ p, p < nP ν → (μ.1 83 p).toInt = ν 9 p) (w l4 l5 l6 : Int32) (a : Int) (ha : (if w.toInt = 0 then l4 else if w.toInt = 1 then l5 else l6).toInt = a) : Wp (ax_lp1 (fX9_chance_B241 w l4 l5 l6) ax_FU 0 μ) (fun r m => r.toInt = a ∧ RN m ν) := by
  have h0 := hv.1
  have hn := vd_nums hv
  have hnP : ν 0 2 = (nP ν : Nat) := by unfold nP; omega
  refine wp_lp1 (fun k (l : Int32) m => ∃ i : Nat, l.toInt = (i : Int) ∧ i ≤ nP ν ∧ k = nP ν - i ∧ (∀ a, a ≠ 74 → m.1 a = μ.1 a) ∧ (∀ j, j < 19 ∨ 43 ≤ j → m.1 74 j = μ.1 74 j) ∧ ∀ p, p < i → (m.1 74 (19 + p)).toInt = ν 9 p) ax_FU ?_ (nP ν) (by unfold ax_FU; omega) ⟨0, rfl, by omega, rfl, fun _ _ => rfl, fun _ _ => rfl, fun p hp => by omega⟩
  rintro k rc hrc l m ⟨i, hl, hi, hk, kx, ky, hw⟩
  unfold fX9_chance_B241 fX9_chance_K294
  refine wp_rdf (sX9_pathsk h (kx 59 (by omega))) (fun r er => wp_if (fun c1 => ?_) (fun c1 => ?_))
  · rw [t_le, er, hl] at c1
    have c1 : ν 0 2 ≤ (i : Int) := c1
    have hm : RN m ν := by
      have := RN_st (g := ν 9) hv h (fun a h1 h2 => kx a (by omega)) ky (fun p hp => hw p (by omega))
      rw [st_same] at this
      exact this
    refine wp_if (fun c2 => wp_ret ⟨?_, hm⟩) (fun c2 => wp_if (fun c3 => wp_ret ⟨?_, hm⟩) (fun c3 => wp_ret ⟨?_, hm⟩))
    · rw [if_pos (q0.mp c2)] at ha; exact ha
    · rw [if_neg (fun h => c2 (q0.mpr h)), if_pos (q1.mp c3)] at ha; exact ha
    · rw [if_neg (fun h => c2 (q0.mpr h)), if_neg (fun h => c3 (q1.mpr h))] at ha; exact ha
  · rw [t_le, er, hl] at c1
    have c1 : ¬ ν 0 2 ≤ (i : Int) := c1
    have hi2 : i < nP ν := by omega
    have i19 : ((19 : Int32) + l).toInt = ((19 + i : Nat) : Int) := by simp only [t_add, hl, Int32.reduceToInt]; omega
    refine wp_rd i hl (by omega) (wp_wr (19 + i) i19 (by omega) (hrc (nP ν - (i + 1)) _ _ (by omega) ⟨i + 1, by simp only [t_add, hl, Int32.reduceToInt]; omega, by omega, rfl, fun a ha => by rw [wi_ne ha]; exact kx a ha, fun j hj => by rw [wi_other (by omega)]; exact ky j hj, fun p hp => ?_⟩))
    by_cases ep : p = i
    · rw [ep, wi_self, kx 83 (by omega)]; exact h83 i hi2
    · rw [wi_other (by omega)]; exact hw p (by omega)
def RI (ν : Nv) (x : Int32) (i : Nat) (w l4 l5 l6 : Int) : Prop := l4 = (cnt (fun j => gd (dn ν (sq ν x j)) (ν 0 3)) i : Nat) ∧ l5 = (cnt (fun j => !bd (dn ν (sq ν x j)) (ν 0 3)) i : Nat) ∧ 0 ≤ l6 ∧ l6 ≤ 9999 ∧ (w = 2 → MxI ν x i l6)
theorem sX9_chLoop (hv : Vd ν) (h : RN μ ν) (h83 : ∀ p, p < nP ν → (μ.1 83 p).toInt = ν 9 p) (x n w : Int32) (hx : μ.1 57 44 = x) (hn1 : 1 ≤ n.toInt) (hn2 : n.toInt ≤ 40) (hw0 : 0 ≤ w.toInt) (hw2 : w.toInt ≤ 2) : Wp (ax_lp4 (fX9_chance_B98 n w) ax_FU 0 0 0 0 μ) (fun r m => ChI ν x n.toInt.toNat w.toInt r.toInt ∧ RN m ν) := by
  have h0 := hv.1
  have hn := vd_nums hv
  have hnP : ν 0 2 = (nP ν : Nat) := by unfold nP; omega
  refine wp_lp4 (fun k (l4 l5 l6 l7 : Int32) m => ∃ i : Nat, l7.toInt = (i : Int) ∧ i ≤ n.toInt.toNat ∧ k = n.toInt.toNat - i ∧ m.1 57 44 = sq ν x i ∧ m.1 83 = μ.1 83 ∧ RI ν x i w.toInt l4.toInt l5.toInt l6.toInt ∧ ∃ f, RN m (st ν f)) ax_FU ?_ n.toInt.toNat (by unfold ax_FU; omega) ⟨0, rfl, by omega, rfl, hx, rfl, ⟨rfl, rfl, by decide, by decide, fun _ => ⟨by decide, by decide, Or.inl rfl, fun j hj => by omega⟩⟩, ν 9, by rw [st_same]; exact h⟩
  rintro k rc hrc l4 l5 l6 l7 m ⟨i, hl, hi, hk, h44, h83m, hR, f, hm⟩
  unfold fX9_chance_B98
  refine wp_if (fun c1 => ?_) (fun c1 => ?_)
  · rw [t_le, hl] at c1
    have hi2 : i = n.toInt.toNat := by omega
    refine wp_mono (sX9_chEnd hv hm (fun p hp => by rw [h83m]; exact h83 p hp) w l4 l5 l6 _ rfl) ?_
    rintro r m2 ⟨a, b⟩
    refine ⟨?_, b⟩
    rw [a, ← hi2]
    obtain ⟨r1, r2, r3, r4, r5⟩ := hR
    unfold ChI
    by_cases e2 : w.toInt = 2
    · rw [if_pos e2, if_neg (by omega), if_neg (by omega)]; exact r5 e2
    · rw [if_neg e2]
      by_cases e0 : w.toInt = 0
      · rw [if_pos e0, if_pos e0]; exact r1
      · rw [if_neg e0, if_neg e0, if_pos (by omega)]; exact r2
  · rw [t_le, hl] at c1
    have hlt : n.toInt.toNat - (i + 1) < k := by omega
    have hl8 : (l7 + 1).toInt = ((i + 1 : Nat) : Int) := by simp only [t_add, hl, Int32.reduceToInt]; omega
    have hi40 : i < 40 := by omega
    refine wp_lp1 (fun k (l : Int32) m2 => ∃ q : Nat, l.toInt = (q : Int) ∧ q ≤ nP ν ∧ k = nP ν - q ∧ m2.1 57 44 = itr (sq ν x i) q ∧ (∀ a, a ≠ 74 → a ≠ 57 → m2.1 a = m.1 a) ∧ (∀ j, j < 19 ∨ 43 ≤ j → m2.1 74 j = m.1 74 j) ∧ ∀ p, p < q → (m2.1 74 (19 + p)).toInt = dw ν (sq ν x i) p) ax_FU ?_ (nP ν) (by unfold ax_FU; omega) ⟨0, rfl, by omega, rfl, h44, fun _ _ _ => rfl, fun _ _ => rfl, fun p hp => by omega⟩
    rintro k2 rc2 hrc2 l m2 ⟨q, hq, hq2, hk2, i44, kx, ky, hw⟩
    unfold fX9_chance_B107
    refine wp_rdf (sX9_pathsk hm (kx 59 (by omega) (by omega))) (fun r er => wp_if (fun c2 => ?_) (fun c2 => ?_))
    · rw [t_le, er, hq] at c2
      have c2 : ν 0 2 ≤ (q : Int) := c2
      have hq3 : q = nP ν := by omega
      have hv5 := vd_dn hv (sq ν x i)
      have T5 : dn ν (sq ν x i) 0 3 = ν 0 3 := rfl
      have hm2 : RN m2 (dn ν (sq ν x i)) := RN_st hv hm (fun a h1 h2 => kx a (by omega) (by omega)) ky (fun p hp => hw p (by omega))
      refine wp_bd (wp_mono (wp_keq (wp_keep (sX9_isGood hm2 hv5) (kf_X9_isGood m2)) (kw_X9_isGood m2)) ?_)
      rintro v14 m15 ⟨⟨⟨hm15, hO, e14⟩, hk15⟩, hq15⟩
      rw [T5] at e14
      have g44 : m15.1 57 44 = sq ν x (i + 1) := by rw [hq15 57 44 (by decide) (by decide), i44, hq3]; rfl
      have g83 : m15.1 83 = μ.1 83 := by rw [(hk15 83 (by decide)).1, kx 83 (by omega) (by omega), h83m]
      obtain ⟨r1, r2, r3, r4, r5⟩ := hR
      have cb1 := cnt_le (fun j => gd (dn ν (sq ν x j)) (ν 0 3)) i
      have cb2 := cnt_le (fun j => !bd (dn ν (sq ν x j)) (ν 0 3)) i
      -- the last: the greatest
      have last : ∀ a4 a5 : Int32, a4.toInt = (cnt (fun j => gd (dn ν (sq ν x j)) (ν 0 3)) (i + 1) : Nat) → a5.toInt = (cnt (fun j => !bd (dn ν (sq ν x j)) (ν 0 3)) (i + 1) : Nat) → Wp (if w = (2 : Int32) then (ax_bd (fX9_leastNow m15) (fun v19 m20 => (fX9_chance_K214 n w a4 a5 l6 l7 v19 rc m20))) else (fX9_chance_K214 n w a4 a5 l6 l7 (0 : Int32) rc m15)) (fun r m => ChI ν x n.toInt.toNat w.toInt r.toInt ∧ RN m ν) := by
        intro a4 a5 h4 h5
        unfold fX9_chance_K214 fX9_chance_K230
        refine wp_if (fun c3 => ?_) (fun c3 => ?_)
        · have c3 : w.toInt = 2 := t_eq.mp c3
          refine wp_bd (wp_mono (wp_keq (wp_keep (sX9_leastNow hm15 hv5) (kf_X9_leastNow m15)) (kw_X9_leastNow m15)) ?_)
          rintro v19 m20 ⟨⟨⟨⟨z, hz, ez⟩, hm20⟩, hk20⟩, hq20⟩
          have g44b : m20.1 57 44 = sq ν x (i + 1) := by rw [hq20 57 44 (by decide) (by decide), g44]
          have g83b : m20.1 83 = μ.1 83 := by rw [(hk20 83 (by decide)).1, g83]
          have zb : z = -1 ∨ (1 ≤ z ∧ z ≤ 9999) := by
            rcases hz with ⟨z1, -⟩ | ⟨z1, z2, -⟩
            · exact Or.inl z1
            · exact Or.inr ⟨z1, z2⟩
          have hst := mxI_step (r5 c3) z hz (v := if l6.toInt < z then z else l6.toInt) rfl
          refine wp_if (fun c4 => ?_) (fun c4 => ?_)
          · rw [t_le, ez] at c4
            rw [if_neg (by split at c4 <;> omega)] at hst
            exact hrc _ _ _ _ _ _ hlt ⟨i + 1, hl8, by omega, rfl, g44b, g83b, ⟨h4, h5, r3, r4, fun _ => hst⟩, _, hm20⟩
          · rw [t_le, ez] at c4
            have hz1 : z ≠ -1 := fun h => by rw [if_pos h] at c4; omega
            rw [if_neg hz1] at c4 ez
            rw [if_pos (by omega)] at hst
            exact hrc _ _ _ _ _ _ hlt ⟨i + 1, hl8, by omega, rfl, g44b, g83b, ⟨h4, h5, by omega, by omega, fun _ => by rw [ez]; exact hst⟩, _, hm20⟩
        · have c3 : ¬ w.toInt = 2 := fun h => c3 (t_eq.mpr h)
          have z0 : Int32.toInt 0 = 0 := rfl
          refine wp_if (fun c4 => hrc _ _ _ _ _ _ hlt ⟨i + 1, hl8, by omega, rfl, g44, g83, ⟨h4, h5, r3, r4, fun h => absurd h c3⟩, _, hm15⟩) (fun c4 => ?_)
          rw [t_le, z0] at c4
          omega
      -- the second: forever
      have second : ∀ a4 : Int32, a4.toInt = (cnt (fun j => gd (dn ν (sq ν x j)) (ν 0 3)) (i + 1) : Nat) → Wp (if (m15.1 57 35) = 0 then (fX9_chance_K198 n w a4 l6 l7 l5 (0 : Int32) rc m15) else (fX9_chance_K198 n w a4 l6 l7 l5 (1 : Int32) rc m15)) (fun r m => ChI ν x n.toInt.toNat w.toInt r.toInt ∧ RN m ν) := by
        intro a4 h4
        unfold fX9_chance_K198
        refine wp_if (fun c3 => wp_let (last a4 _ h4 ?_)) (fun c3 => wp_let (last a4 _ h4 ?_))
        · rw [t_eq] at c3
          rcases hO with ⟨o1, o2⟩ | ⟨o1, o2, -⟩
          · rw [o1] at c3; exact absurd c3 (by decide)
          · rw [T5] at o2
            simp only [cnt, o2, t_add, r2, Int32.reduceToInt]
            simp
            omega
        · rw [t_eq] at c3
          rcases hO with ⟨o1, o2⟩ | ⟨o1, o2, -⟩
          · rw [T5] at o2
            simp only [cnt, o2, t_add, r2, Int32.reduceToInt, Bool.not_false, if_true]
            omega
          · rw [o1] at c3; exact absurd rfl c3
      unfold fX9_chance_K181
      refine wp_if (fun c3 => wp_let (second _ ?_)) (fun c3 => wp_let (second _ ?_))
      · rw [t_eq, e14] at c3
        have hg : gd (dn ν (sq ν x i)) (ν 0 3) = false := by
          cases e : gd (dn ν (sq ν x i)) (ν 0 3) with
          | false => rfl
          | true => rw [e] at c3; exact absurd c3 (by decide)
        simp only [cnt, hg, t_add, r1, Int32.reduceToInt]
        simp
        omega
      · rw [t_eq, e14] at c3
        have hg : gd (dn ν (sq ν x i)) (ν 0 3) = true := by
          cases e : gd (dn ν (sq ν x i)) (ν 0 3) with
          | true => rfl
          | false => rw [e] at c3; exact absurd rfl c3
        simp only [cnt, hg, t_add, r1, Int32.reduceToInt, if_true]
        omega
    · rw [t_le, er, hq] at c2
      have c2 : ¬ ν 0 2 ≤ (q : Int) := c2
      have hq3 : q < nP ν := by omega
      have h4 := hv.2.2.2.1 q hq3
      have e83 : (m2.1 83 q).toInt = ν 9 q := by rw [kx 83 (by omega) (by omega), h83m]; exact h83 q hq3
      have e43 : (m2.1 74 (43 + q)).toInt = ν 10 q := by rw [ky (43 + q) (by omega)]; exact (hm.2.2.2 q hq3).2.2.2
      have i19 : ((19 : Int32) + l).toInt = ((19 + q : Nat) : Int) := by simp only [t_add, hq, Int32.reduceToInt]; omega
      have i43 : ((43 : Int32) + l).toInt = ((43 + q : Nat) : Int) := by simp only [t_add, hq, Int32.reduceToInt]; omega
      have hy : ((m2.1 83 q - m2.1 74 (43 + q)) + (1 : Int32)).toInt = ν 9 q - ν 10 q + 1 := by
        simp only [t_add, t_sub, e83, e43, Int32.reduceToInt]
        omega
      have hz : 0 ≤ rnd (lcg (m2.1 57 44)) := rnd_pos _
      have hr1 := Int.emod_nonneg (rnd (lcg (m2.1 57 44))) (b := ν 9 q - ν 10 q + 1) (by omega)
      have hr2 := Int.emod_lt_of_pos (rnd (lcg (m2.1 57 44))) (b := ν 9 q - ν 10 q + 1) (by omega)
      refine wp_rd (43 + q) i43 (by omega) (wp_rd q hq (by omega) (wp_rd (43 + q) i43 (by omega) ?_))
      unfold fX9_draw
      refine wp_bd (wp_let ?_)
      rw [show (ax_wi m2 57 44 (((m2.1 57 44) * (1103515245 : Int32)) + (12345 : Int32) &&& (2147483647 : Int32))).1 57 44 = lcg (m2.1 57 44) from wi_self]
      refine wp_rm hz (by rw [hy]; omega) (fun v27 e27 => wp_ret ?_)
      rw [hy] at e27
      have e27 : v27.toInt = rnd (lcg (m2.1 57 44)) % (ν 9 q - ν 10 q + 1) := e27
      have key : (m2.1 74 (43 + q) + v27).toInt = ν 10 q + rnd (lcg (m2.1 57 44)) % (ν 9 q - ν 10 q + 1) := by
        generalize rnd (lcg (m2.1 57 44)) % (ν 9 q - ν 10 q + 1) = y at e27 hr1 hr2 ⊢
        clear hz hw hR
        rw [t_add, e43, e27]
        omega
      refine wp_wr (19 + q) i19 (by omega) (hrc2 (nP ν - (q + 1)) _ _ (by omega) ⟨q + 1, by simp only [t_add, hq, Int32.reduceToInt]; omega, by omega, rfl, ?_, fun a h1 h2 => ?_, fun j hj => ?_, fun p hp => ?_⟩)
      · rw [wi_ne (by omega), wi_self, i44]; rfl
      · rw [wi_ne h1, wi_ne h2]; exact kx a h1 h2
      · rw [wi_other (by omega), wi_ne (by omega)]; exact ky j hj
      · by_cases ep : p = q
        · rw [ep, wi_self, key]
          unfold dw
          rw [show itr (sq ν x i) (q + 1) = lcg (m2.1 57 44) by rw [i44]; rfl]
        · rw [wi_other (by omega), wi_ne (by omega)]; exact hw p (by omega)
theorem sX9_chance (h : RN μ ν) (hv : Vd ν) (p n w : Int32) : Wp (fX9_chance p n w μ) (fun r m => AnsCh ν p.toInt n.toInt w.toInt r.toInt ∧ RN m ν) := by
  have h0 := hv.1
  have hn := vd_nums hv
  have hnP : ν 0 2 = (nP ν : Nat) := by unfold nP; omega
  have h1 : RN (ax_wi μ 57 0 0) ν := RN_wi57 h
  have e5 : ((ax_wi μ 57 0 0).1 59 4).toInt = ν 0 5 := h1.1.2.2.2.2.2
  unfold fX9_chance
  refine wp_let ?_
  unfold fX9_chance_K30
  simp only [t_lt, t_le, tm1, Int32.reduceToInt]
  have no : (p.toInt < -1 ∨ n.toInt < 1 ∨ 40 < n.toInt ∨ w.toInt < 0 ∨ 2 < w.toInt) → Wp (some ((-1 : Int32), ax_wi μ 57 0 0)) (fun r m => AnsCh ν p.toInt n.toInt w.toInt r.toInt ∧ RN m ν) := fun hc => wp_ret ⟨Or.inl ⟨hc, rfl⟩, h1⟩
  have go : ∀ x : Int32, x.toInt = (if p.toInt = -1 then ν 0 5 else p.toInt) → 1 ≤ n.toInt → n.toInt ≤ 40 → 0 ≤ w.toInt → w.toInt ≤ 2 → ¬ p.toInt < -1 → Wp (fX9_chance_K48 n w x (ax_wi μ 57 0 0)) (fun r m => AnsCh ν p.toInt n.toInt w.toInt r.toInt ∧ RN m ν) := by
    intro x hx n1 n2 w1 w2 pp
    unfold fX9_chance_K48
    refine wp_let ?_
    have h2 : RN (ax_wi (ax_wi μ 57 0 0) 57 44 x) ν := RN_wi57 h1
    refine wp_lp1 (fun k (l : Int32) m => ∃ i : Nat, l.toInt = (i : Int) ∧ i ≤ nP ν ∧ k = nP ν - i ∧ (∀ a, a ≠ 83 → m.1 a = (ax_wi (ax_wi μ 57 0 0) 57 44 x).1 a) ∧ ∀ p, p < i → (m.1 83 p).toInt = ν 9 p) ax_FU ?_ (nP ν) (by unfold ax_FU; omega) ⟨0, rfl, by omega, rfl, fun _ _ => rfl, fun p hp => by omega⟩
    rintro k rc hrc l m ⟨i, hl, hi, hk, kx, hw⟩
    have hm : RN m ν := RN_keep h2 (fun a a1 a2 => kx a (by omega))
    unfold fX9_chance_B54
    refine wp_rdf (sX9_paths hm) (fun r er => wp_if (fun c1 => ?_) (fun c1 => ?_))
    · rw [t_le, er, hl] at c1
      refine wp_mono (sX9_chLoop hv hm (fun p hp => hw p (by omega)) x n w (by rw [kx 57 (by omega), wi_self]) n1 n2 w1 w2) ?_
      rintro r m2 ⟨a, b⟩
      exact ⟨Or.inr ⟨by omega, x, hx, a⟩, b⟩
    · rw [t_le, er, hl] at c1
      have hi2 : i < nP ν := by omega
      have i19 : ((19 : Int32) + l).toInt = ((19 + i : Nat) : Int) := by simp only [t_add, hl, Int32.reduceToInt]; omega
      refine wp_rd (19 + i) i19 (by omega) (wp_wr i hl (by omega) (hrc (nP ν - (i + 1)) _ _ (by omega) ⟨i + 1, by simp only [t_add, hl, Int32.reduceToInt]; omega, by omega, rfl, fun a ha => by rw [wi_ne ha]; exact kx a ha, fun p hp => ?_⟩))
      by_cases ep : p = i
      · rw [ep, wi_self]; exact (hm.2.2.2 i hi2).2.2.1
      · rw [wi_other ep]; exact hw p (by omega)
  refine wp_if (fun c1 => no (Or.inl c1)) (fun c1 => wp_if (fun c2 => no (Or.inr (Or.inl c2))) (fun c2 => wp_if (fun c3 => no (Or.inr (Or.inr (Or.inl c3)))) (fun c3 => wp_if (fun c4 => no (Or.inr (Or.inr (Or.inr (Or.inl c4))))) (fun c4 => wp_if (fun c5 => wp_if (fun c6 => ?_) (fun c6 => ?_)) (fun c5 => no (Or.inr (Or.inr (Or.inr (Or.inr (by omega))))))))))
  · have c6 : p.toInt = -1 := t_eq.mp c6
    refine wp_rd 4 rfl (by omega) (go _ ?_ (by omega) (by omega) (by omega) (by omega) (by omega))
    rw [if_pos c6]; exact e5
  · have c6 : ¬ p.toInt = -1 := fun h => c6 (t_eq.mpr h)
    exact go _ (by rw [if_neg c6]) (by omega) (by omega) (by omega) (by omega) (by omega)
end CHR
