/-! the reference's best move -/
def nk (k : Nat) : Int := if k % 2 = 1 then -(((k + 1) / 2 : Nat) : Int) else ((k / 2 : Nat) : Int)
def MvB (ν : Nv) (c : Nat) (s : Int) : Prop := (s = -2000 ∧ ∀ T : Int, 1 ≤ T → T ≤ 9999 → ∀ n, ¬ Gn ν c T n) ∨ ∃ (z : Int) (e : Nat), 1 ≤ z ∧ z ≤ 9999 ∧ s = nk e ∧ Gn ν c z s ∧ (∀ j, j < e → ¬ Gn ν c z (nk j)) ∧ ∀ T : Int, 1 ≤ T → T < z → ∀ n, ¬ Gn ν c T n
def AnsBm (ν : Nv) (p r : Int) : Prop := (¬ (0 ≤ p ∧ p < ν 0 1) ∧ r = -3000) ∨ ∃ c : Nat, c < nC ν ∧ p = (c : Nat) ∧ MvA ν c r
def AnsBm2 (ν : Nv) (p r : Int) : Prop := (¬ (0 ≤ p ∧ p < ν 0 1) ∧ r = -3000) ∨ ∃ c : Nat, c < nC ν ∧ p = (c : Nat) ∧ MvB ν c r
theorem nk_bd (k : Nat) (h : k ≤ 1998) : -999 ≤ nk k ∧ nk k ≤ 999 := by
  unfold nk
  split <;> omega
theorem nk_of (n : Int) (h1 : -999 ≤ n) (h2 : n ≤ 999) : ∃ k : Nat, k ≤ 1998 ∧ nk k = n := by
  by_cases h : n < 0
  · refine ⟨(-2 * n - 1).toNat, by omega, ?_⟩
    unfold nk
    rw [if_pos (by omega)]
    omega
  · refine ⟨(2 * n).toNat, by omega, ?_⟩
    unfold nk
    rw [if_neg (by omega)]
    omega
theorem mvAB {ν : Nv} {c : Nat} {r s : Int} (h : MvA ν c r) (h2 : MvB ν c s) : r = s := by
  rcases h with ⟨a1, a2⟩ | ⟨z, a1, a2, a3, a4, a5⟩ <;> rcases h2 with ⟨b1, b2⟩ | ⟨y, e, b1, b2, b0, b3, b4, b5⟩
  · omega
  · exact absurd b3 (a2 y b1 b2 s)
  · exact absurd a3 (b2 z a1 a2 r)
  · have ez : z = y := by
      by_cases h1 : z < y
      · exact absurd a3 (b5 z a1 h1 r)
      · by_cases h2 : y < z
        · exact absurd b3 (a5 y b1 h2 s)
        · omega
    subst ez
    obtain ⟨k, hk, ek⟩ := nk_of r a3.1 a3.2.1
    have hke : e ≤ k := by
      by_cases h1 : k < e
      · exact absurd (by rw [ek]; exact a3) (b4 k h1)
      · omega
    have hs := b0
    have hr := ek
    unfold nk at hs hr
    rcases a4 with a | ⟨a, b⟩ | ⟨a, b⟩
    · split at hs <;> split at hr <;> omega
    · have := b s b3
      split at hs <;> split at hr <;> omega
    · have := b s b3
      split at hs <;> split at hr <;> omega
theorem ansBm_unique {ν : Nv} {p r s : Int} (h : AnsBm ν p r) (h2 : AnsBm2 ν p s) (hv : Vd ν) : r = s := by
  have h0 := hv.1
  rcases h with ⟨a1, a2⟩ | ⟨c, a1, a2, a3⟩ <;> rcases h2 with ⟨b1, b2⟩ | ⟨d, b1, b2, b3⟩
  · omega
  · exact absurd ⟨by omega, by unfold nC at b1; omega⟩ a1
  · exact absurd ⟨by omega, by unfold nC at a1; omega⟩ b1
  · have : c = d := by omega
    subst this
    exact mvAB a3 b3
section BMR
variable {μ : ax_M} {ν : Nv}
theorem sX8_bestMove (h : CN μ ν) (hv : Vd ν) (p : Int32) : Wp (fX8_bestMove p μ) (fun r m => AnsBm ν p.toInt r.toInt ∧ CN m ν) := by
  unfold fX8_bestMove fX8_bestMove_K25
  refine wp_rdf (sX1_hasCell h p) (fun r e => wp_if (fun c => wp_ret ⟨Or.inl ⟨?_, rfl⟩, h⟩) (fun c => ?_))
  · rw [t_eq, e] at c
    intro h1; rw [if_pos h1] at c; exact absurd c (by decide)
  · rw [t_eq, e] at c
    have h1 : 0 ≤ p.toInt ∧ p.toInt < ν 0 1 := by
      by_cases h1 : 0 ≤ p.toInt ∧ p.toInt < ν 0 1
      · exact h1
      · rw [if_neg h1] at c; exact absurd rfl c
    obtain ⟨k, hk, ek⟩ := in_nat (N := nC ν) h1 rfl
    refine wp_bd (wp_mono (sX4_bestMoving h hv p k ek) ?_)
    rintro r3 m4 ⟨a, b⟩
    exact wp_ret ⟨Or.inr ⟨k, hk, ek, a⟩, b⟩
theorem sX9_moreBy (h : RN μ ν) (hv : Vd ν) (p1 p2 x : Int32) (k c : Nat) (hp1 : p1.toInt = (k : Nat)) (hk : k < nP ν) (hp2 : p2.toInt = (c : Nat)) (h1 : -2000 ≤ x.toInt) (h2 : x.toInt ≤ 2000) : Rd (fX9_moreBy p1 p2 x μ) μ (mb ν c x.toInt k) := by
  obtain ⟨a1, a2, a3, a4, a5, a6⟩ := vd_path hv k hk
  have e := h.2.2.2 k hk
  have z0 : Int32.toInt 0 = 0 := rfl
  unfold fX9_moreBy fX9_moreBy_K15 fX9_moreBy_K30
  refine rd_wp (wp_rd k hp1 (by omega) (wp_if (fun c2 => wp_rd k hp1 (by omega) (wp_if (fun c3 => wp_ret ⟨?_, rfl⟩) (fun c3 => wp_ret ⟨?_, rfl⟩))) (fun c2 => wp_rd k hp1 (by omega) (wp_if (fun c3 => wp_ret ⟨?_, rfl⟩) (fun c3 => wp_ret ⟨?_, rfl⟩)))))
  · rw [t_eq, e.2.1, a5, hp2] at c2
    rw [t_eq, e.1, a4, hp2] at c3
    unfold mb; rw [if_pos (by omega), if_pos (by omega), t_sub]; omega
  · rw [t_eq, e.2.1, a5, hp2] at c2
    rw [t_eq, e.1, a4, hp2] at c3
    unfold mb; rw [if_pos (by omega), if_neg (by omega), t_sub, z0]; omega
  · rw [t_eq, e.2.1, a5, hp2] at c2
    rw [t_eq, e.1, a4, hp2] at c3
    unfold mb; rw [if_neg (by omega), if_pos (by omega), t_sub, z0]; omega
  · rw [t_eq, e.2.1, a5, hp2] at c2
    rw [t_eq, e.1, a4, hp2] at c3
    unfold mb; rw [if_neg (by omega), if_neg (by omega), t_sub, z0]; omega
theorem sX9_canMove (h : RN μ ν) (hv : Vd ν) (p1 x : Int32) (c : Nat) (hp1 : p1.toInt = (c : Nat)) (h1 : -2000 ≤ x.toInt) (h2 : x.toInt ≤ 2000) : Wp (fX9_canMove p1 x μ) (fun r m => m = μ ∧ ((r.toInt = 1 ∧ Cmv ν c x.toInt) ∨ (r.toInt = 0 ∧ ¬ Cmv ν c x.toInt))) := by
  have h0 := hv.1
  have hn := vd_nums hv
  have hnP : ν 0 2 = (nP ν : Nat) := by unfold nP; omega
  unfold fX9_canMove
  refine wp_lp1 (fun k (l : Int32) m => m = μ ∧ ∃ i : Nat, l.toInt = (i : Int) ∧ i ≤ nP ν ∧ k = nP ν - i ∧ ∀ p, p < i → 0 ≤ ν 10 p + mb ν c x.toInt p ∧ ν 9 p + mb ν c x.toInt p ≤ 999) ax_FU ?_ (nP ν) (by unfold ax_FU; omega) ⟨rfl, 0, rfl, by omega, rfl, fun p hp => by omega⟩
  rintro k rc hrc l m ⟨rfl, i, hl, hi, hk, hz⟩
  unfold fX9_canMove_B2 fX9_canMove_K52
  refine wp_rdf (sX9_paths h) (fun r er => wp_if (fun c1 => wp_ret ⟨rfl, Or.inl ⟨rfl, fun p hp => hz p ?_⟩⟩) (fun c1 => ?_))
  · rw [t_le, er, hl] at c1; omega
  · rw [t_le, er, hl] at c1
    have hi2 : i < nP ν := by omega
    have e := h.2.2.2 i hi2
    have vd4 := hv.2.2.2.1 i hi2
    have mbb := mb_bd ν c x.toInt i h1 h2
    refine wp_rdf (sX9_moreBy h hv l p1 x i c hl hi2 hp1 h1 h2) (fun r3 e3 => wp_rd (43 + i) (by simp only [t_add, hl, Int32.reduceToInt]; omega) (by omega) (wp_if (fun c2 => wp_ret ⟨rfl, Or.inr ⟨rfl, fun hc => ?_⟩⟩) (fun c2 => wp_rd (19 + i) (by simp only [t_add, hl, Int32.reduceToInt]; omega) (by omega) (wp_if (fun c3 => ?_) (fun c3 => wp_ret ⟨rfl, Or.inr ⟨rfl, fun hc => ?_⟩⟩)))))
    · simp only [t_lt, t_add, e.2.2.2, e3, Int32.reduceToInt] at c2
      have := hc i hi2
      omega
    · simp only [t_lt, t_add, e.2.2.2, e3, Int32.reduceToInt] at c2
      simp only [t_le, t_add, e.2.2.1, e3, Int32.reduceToInt] at c3
      refine hrc (nP ν - (i + 1)) _ _ (by omega) ⟨rfl, i + 1, by simp only [t_add, hl, Int32.reduceToInt]; omega, by omega, rfl, fun p hp => ?_⟩
      by_cases ep : p = i
      · rw [ep]; omega
      · exact hz p (by omega)
    · simp only [t_le, t_add, e.2.2.1, e3, Int32.reduceToInt] at c3
      have := hc i hi2
      omega
theorem sX9_moves (h : RN μ ν) (hv : Vd ν) (hq : ∀ p, p < nP ν → -5000 ≤ ν 10 p ∧ ν 9 p ≤ 5000) (p1 x : Int32) (c : Nat) (hp1 : p1.toInt = (c : Nat)) (h1 : -2000 ≤ x.toInt) (h2 : x.toInt ≤ 2000) : Wp (fX9_moves p1 x μ) (fun _ m => RN m (mv ν c x.toInt)) := by
  have h0 := hv.1
  have hn := vd_nums hv
  have hnP : ν 0 2 = (nP ν : Nat) := by unfold nP; omega
  unfold fX9_moves
  refine wp_lp1 (fun k (l : Int32) m => ∃ i : Nat, l.toInt = (i : Int) ∧ i ≤ nP ν ∧ k = nP ν - i ∧ (∀ a, a ≠ 74 → m.1 a = μ.1 a) ∧ (∀ j, j < 19 ∨ 67 ≤ j → m.1 74 j = μ.1 74 j) ∧ ∀ p, p < nP ν → (m.1 74 (19 + p)).toInt = (if p < i then ν 9 p + mb ν c x.toInt p else ν 9 p) ∧ (m.1 74 (43 + p)).toInt = (if p < i then ν 10 p + mb ν c x.toInt p else ν 10 p)) ax_FU ?_ (nP ν) (by unfold ax_FU; omega) ⟨0, rfl, by omega, rfl, fun _ _ => rfl, fun _ _ => rfl, fun p hp => ⟨(h.2.2.2 p hp).2.2.1, (h.2.2.2 p hp).2.2.2⟩⟩
  rintro k rc hrc l m ⟨i, hl, hi, hk, kx, ky, hw⟩
  unfold fX9_moves_B2
  have e59 : m.1 59 = μ.1 59 := kx 59 (by omega)
  have hpa : Rd (fX9_paths m) m (ν 0 2) := by
    unfold fX9_paths
    exact rd_wp (wp_rd 3 rfl (by omega) (wp_ret ⟨by rw [e59]; exact h.1.2.2.1, rfl⟩))
  refine wp_rdf hpa (fun r er => wp_if (fun c1 => wp_ret ?_) (fun c1 => ?_))
  · rw [t_le, er, hl] at c1
    obtain ⟨⟨a1, a2, a3, a4, a5, a6⟩, hb, hc, hd⟩ := h
    refine ⟨⟨?_, ?_, ?_, ?_, ?_, ?_⟩, fun j hj => ?_, fun d hd2 => ?_, fun p hp => ?_⟩
    · rw [e59]; exact a1
    · rw [e59]; exact a2
    · rw [e59]; exact a3
    · rw [ky 0 (by omega)]; exact a4
    · rw [ky 67 (by omega)]; exact a5
    · rw [e59]; exact a6
    · have hj : j < nH ν := hj
      rw [kx 61 (by omega), ky (1 + j) (by omega), ky (5 + j) (by omega)]; exact hb j hj
    · have hd2 : d < nC ν := hd2
      rw [kx 64 (by omega), kx 65 (by omega), kx 66 (by omega), kx 67 (by omega), kx 68 (by omega), ky (9 + d) (by omega)]; exact hc d hd2
    · have hp : p < nP ν := hp
      have w := hw p hp
      rw [if_pos (by omega), if_pos (by omega)] at w
      rw [kx 70 (by omega), kx 71 (by omega)]
      exact ⟨(hd p hp).1, (hd p hp).2.1, w.1, w.2⟩
  · rw [t_le, er, hl] at c1
    have hi2 : i < nP ν := by omega
    obtain ⟨a1, a2, a3, a4, a5, a6⟩ := vd_path hv i hi2
    have e := h.2.2.2 i hi2
    have wi := hw i hi2
    rw [if_neg (by omega), if_neg (by omega)] at wi
    have vq := hq i hi2
    have vd4 := hv.2.2.2.1 i hi2
    have mbb := mb_bd ν c x.toInt i h1 h2
    have hmore : Rd (fX9_moreBy l p1 x m) m (mb ν c x.toInt i) := by
      have z0 : Int32.toInt 0 = 0 := rfl
      have e71 : (m.1 71 i).toInt = (To ν i : Nat) := by rw [kx 71 (by omega), e.2.1, a5]
      have e70 : (m.1 70 i).toInt = (Fr ν i : Nat) := by rw [kx 70 (by omega), e.1, a4]
      unfold fX9_moreBy fX9_moreBy_K15 fX9_moreBy_K30
      refine rd_wp (wp_rd i hl (by omega) (wp_if (fun c2 => wp_rd i hl (by omega) (wp_if (fun c3 => wp_ret ⟨?_, rfl⟩) (fun c3 => wp_ret ⟨?_, rfl⟩))) (fun c2 => wp_rd i hl (by omega) (wp_if (fun c3 => wp_ret ⟨?_, rfl⟩) (fun c3 => wp_ret ⟨?_, rfl⟩)))))
      · rw [t_eq, e71, hp1] at c2
        rw [t_eq, e70, hp1] at c3
        unfold mb; rw [if_pos (by omega), if_pos (by omega), t_sub]; omega
      · rw [t_eq, e71, hp1] at c2
        rw [t_eq, e70, hp1] at c3
        unfold mb; rw [if_pos (by omega), if_neg (by omega), t_sub, z0]; omega
      · rw [t_eq, e71, hp1] at c2
        rw [t_eq, e70, hp1] at c3
        unfold mb; rw [if_neg (by omega), if_pos (by omega), t_sub, z0]; omega
      · rw [t_eq, e71, hp1] at c2
        rw [t_eq, e70, hp1] at c3
        unfold mb; rw [if_neg (by omega), if_neg (by omega), t_sub, z0]; omega
    have i19 : ((19 : Int32) + l).toInt = ((19 + i : Nat) : Int) := by simp only [t_add, hl, Int32.reduceToInt]; omega
    have i43 : ((43 : Int32) + l).toInt = ((43 + i : Nat) : Int) := by simp only [t_add, hl, Int32.reduceToInt]; omega
    refine wp_rdf hmore (fun r3 e3 => wp_rd (19 + i) i19 (by omega) (wp_wr (19 + i) i19 (by omega) (wp_rd (43 + i) i43 (by omega) (wp_wr (43 + i) i43 (by omega) (hrc (nP ν - (i + 1)) _ _ (by omega) ⟨i + 1, by simp only [t_add, hl, Int32.reduceToInt]; omega, by omega, rfl, fun a ha => by rw [wi_ne ha, wi_ne ha]; exact kx a ha, fun j hj => by rw [wi_other (by omega), wi_other (by omega)]; exact ky j hj, fun p hp => ?_⟩)))))
    have w := hw p hp
    rw [wi_other (show 19 + p ≠ 43 + i by omega)]
    by_cases ep : p = i
    · subst ep
      rw [wi_self, wi_self, wi_other (show 43 + p ≠ 19 + p by omega), if_pos (by omega), if_pos (by omega), t_add, t_add, e3, wi.1, wi.2]
      omega
    · rw [wi_other (show 19 + p ≠ 19 + i by omega), wi_other (show 43 + p ≠ 43 + i by omega), wi_other (show 43 + p ≠ 19 + i by omega), w.1, w.2]
      by_cases e5 : p < i
      · rw [if_pos e5, if_pos e5, if_pos (by omega), if_pos (by omega)]; exact ⟨rfl, rfl⟩
      · rw [if_neg e5, if_neg e5, if_neg (by omega), if_neg (by omega)]; exact ⟨rfl, rfl⟩
def BmI (ν : Nv) (c i : Nat) (b z : Int) : Prop := (b = -2000 ∧ z = 10000 ∧ ∀ j, j < i → ∀ T : Int, 1 ≤ T → T ≤ 9999 → ¬ Gn ν c T (nk j)) ∨ ∃ e : Nat, e < i ∧ b = nk e ∧ 1 ≤ z ∧ z ≤ 9999 ∧ Gn ν c z b ∧ (∀ j, j < e → ¬ Gn ν c z (nk j)) ∧ ∀ j, j < i → ∀ T : Int, 1 ≤ T → T < z → ¬ Gn ν c T (nk j)
theorem bmI_skip {c i : Nat} {b z : Int} (h : BmI ν c i b z) (hn : ∀ T : Int, 1 ≤ T → T < z → T ≤ 9999 → ¬ Gn ν c T (nk i)) : BmI ν c (i + 1) b z := by
  rcases h with ⟨a1, a2, a3⟩ | ⟨e, a1, a2, a3, a4, a5, a6, a7⟩
  · refine Or.inl ⟨a1, a2, fun j hj T t1 t2 => ?_⟩
    by_cases ej : j = i
    · rw [ej]; exact hn T t1 (by omega) t2
    · exact a3 j (by omega) T t1 t2
  · refine Or.inr ⟨e, by omega, a2, a3, a4, a5, a6, fun j hj T t1 t2 => ?_⟩
    by_cases ej : j = i
    · rw [ej]; exact hn T t1 t2 (by omega)
    · exact a7 j (by omega) T t1 t2
theorem bmI_take {c i : Nat} {b z y : Int} (h : BmI ν c i b z) (hv : Vd ν) (h1 : 1 ≤ y) (h2 : y ≤ 9999) (hz : y < z) (hg : Gn ν c y (nk i)) (hn : ∀ T : Int, 1 ≤ T → T < y → ¬ Gn ν c T (nk i)) : BmI ν c (i + 1) (nk i) y := by
  refine Or.inr ⟨i, by omega, rfl, h1, h2, hg, fun j hj => ?_, fun j hj T t1 t2 => ?_⟩
  · rcases h with ⟨a1, a2, a3⟩ | ⟨e, a1, a2, a3, a4, a5, a6, a7⟩
    · exact a3 j hj y h1 h2
    · exact a7 j hj y h1 hz
  · by_cases ej : j = i
    · rw [ej]; exact hn T t1 t2
    · rcases h with ⟨a1, a2, a3⟩ | ⟨e, a1, a2, a3, a4, a5, a6, a7⟩
      · exact a3 j (by omega) T t1 (by omega)
      · exact a7 j (by omega) T t1 (by omega)
theorem bmI_done {c : Nat} {b z : Int} (h : BmI ν c 1999 b z) : MvB ν c b := by
  rcases h with ⟨a1, a2, a3⟩ | ⟨e, a1, a2, a3, a4, a5, a6, a7⟩
  · refine Or.inl ⟨a1, fun T t1 t2 n hn => ?_⟩
    obtain ⟨k, hk, ek⟩ := nk_of n hn.1 hn.2.1
    exact a3 k (by omega) T t1 t2 (by rw [ek]; exact hn)
  · refine Or.inr ⟨z, e, a3, a4, a2, a5, a6, fun T t1 t2 n hn => ?_⟩
    obtain ⟨k, hk, ek⟩ := nk_of n hn.1 hn.2.1
    exact a7 k (by omega) T t1 t2 (by rw [ek]; exact hn)
theorem neg_small {x : Int32} (h0 : 0 ≤ x.toInt) : (-x).toInt = -x.toInt := by
  have := t_hi x
  rw [t_neg]
  omega
theorem dvn {x : Int32} {j : Int} (h : x.toInt = -(2 * j)) (h0 : 0 ≤ j) (h1 : j ≤ 10000) : ax_dv x 2 = some (x / 2) ∧ (x / 2).toInt = -j := by
  refine ⟨by unfold ax_dv; rw [if_neg (by decide)], ?_⟩
  rw [Int32.toInt_div, t_bmod, h, show Int32.toInt 2 = 2 from rfl, Int.neg_tdiv, Int.tdiv_eq_ediv_of_nonneg (by omega)]
  omega
theorem sX9_bestMove (h : RN μ ν) (hv : Vd ν) (p : Int32) : Wp (fX9_bestMove p μ) (fun r m => AnsBm2 ν p.toInt r.toInt ∧ RN m ν) := by
  unfold fX9_bestMove
  refine wp_let (wp_rdf (sX9_isCell (RN_wi57 h) p) (fun r e => wp_if (fun c => wp_ret ⟨Or.inl ⟨?_, rfl⟩, RN_wi57 h⟩) (fun c => ?_)))
  · rw [t_eq, e] at c
    intro h1; rw [if_pos h1] at c; exact absurd c (by decide)
  · rw [t_eq, e] at c
    have h1 : 0 ≤ p.toInt ∧ p.toInt < ν 0 1 := by
      by_cases h1 : 0 ≤ p.toInt ∧ p.toInt < ν 0 1
      · exact h1
      · rw [if_neg h1] at c; exact absurd rfl c
    obtain ⟨k, hk, ek⟩ := in_nat (N := nC ν) h1 rfl
    refine wp_lp3 (fun j (l2 l3 l4 : Int32) m => ∃ i : Nat, l4.toInt = (i : Int) ∧ i ≤ 1999 ∧ j = 1999 - i ∧ RN m ν ∧ BmI ν k i l2.toInt l3.toInt) ax_FU ?_ 1999 (by unfold ax_FU; omega) ⟨0, rfl, by omega, rfl, RN_wi57 h, Or.inl ⟨rfl, rfl, fun j hj => by omega⟩⟩
    rintro j rc hrc l2 l3 l4 m ⟨i, hl, hi, hj, hm, hB⟩
    unfold fX9_bestMove_B28
    refine wp_if (fun c1 => wp_ret ⟨Or.inr ⟨k, hk, ek, ?_⟩, hm⟩) (fun c1 => ?_)
    · simp only [t_lt, hl, Int32.reduceToInt] at c1
      have hi2 : i = 1999 := by omega
      rw [hi2] at hB
      exact bmI_done hB
    · simp only [t_lt, hl, Int32.reduceToInt] at c1
      have hlt : 1999 - (i + 1) < j := by omega
      have hl4 : (l4 + 1).toInt = ((i + 1 : Nat) : Int) := by simp only [t_add, hl, Int32.reduceToInt]; omega
      have nb := nk_bd i (by omega)
      have go : ∀ s0 : Int32, s0.toInt = nk i → Wp (fX9_bestMove_K58 p l2 l3 l4 s0 rc m) (fun r m => AnsBm2 ν p.toInt r.toInt ∧ RN m ν) := by
        intro s0 hs
        unfold fX9_bestMove_K58 fX9_bestMove_K116
        refine wp_bd (wp_mono (sX9_canMove hm hv p s0 k ek (by omega) (by omega)) ?_)
        rintro v6 m7 ⟨rfl, hv6⟩
        rw [hs] at hv6
        rcases hv6 with ⟨e6, hc⟩ | ⟨e6, hc⟩
        · rw [if_neg (by rw [t_eq, e6]; decide)]
          refine wp_bd (wp_mono (sX9_moves hm hv (fun q hq => by have := hv.2.2.2.1 q hq; omega) p s0 k ek (by omega) (by omega)) ?_)
          rintro _ m9 hm9
          rw [hs] at hm9
          have hv9 := vd_mv hv hc
          refine wp_bd (wp_mono (sX9_leastNow hm9 hv9) ?_)
          rintro v10 m11 ⟨⟨z, hL, hz⟩, hm11⟩
          have ng : (-s0).toInt = -(nk i) := by rw [t_neg, hs]; omega
          refine wp_bd (wp_mono (sX9_moves hm11 hv9 (fun q hq => by have := hv9.2.2.2.1 q hq; omega) p (-s0) k ek (by omega) (by omega)) ?_)
          rintro _ m13 hm13
          rw [ng, mv_back] at hm13
          have lst : ∀ T : Int, 1 ≤ T → T ≤ 9999 → (T < z ∨ z = -1) → ¬ Gn ν k T (nk i) := by
            intro T t1 t2 t3 hg
            rcases hL with ⟨b1, b2⟩ | ⟨b1, b2, b3, b4⟩
            · have := b2 T t1 t2
              rw [hg.2.2.2] at this; cases this
            · have := b4 T t1 (by omega)
              rw [hg.2.2.2] at this; cases this
          refine wp_if (fun c2 => hrc _ _ _ _ _ hlt ⟨i + 1, hl4, by omega, rfl, hm13, bmI_skip hB (fun T t1 t2 t3 => lst T t1 t3 ?_)⟩) (fun c2 => wp_if (fun c3 => ?_) (fun c3 => hrc _ _ _ _ _ hlt ⟨i + 1, hl4, by omega, rfl, hm13, bmI_skip hB (fun T t1 t2 t3 => lst T t1 t3 ?_)⟩))
          · rw [t_eq, hz] at c2
            rcases hL with ⟨b1, b2⟩ | ⟨b1, b2, b3, b4⟩
            · exact Or.inr b1
            · rw [if_neg (by omega)] at c2
              have c2 : z = -2 := c2
              omega
          · rw [t_eq, hz] at c2
            rw [t_lt, hz] at c3
            rcases hL with ⟨b1, b2⟩ | ⟨b1, b2, b3, b4⟩
            · rw [if_pos b1] at c2; exact absurd rfl c2
            · rw [if_neg (by omega)] at c2 c3 hz
              refine hrc _ _ _ _ _ hlt ⟨i + 1, hl4, by omega, rfl, hm13, ?_⟩
              rw [hs, hz]
              exact bmI_take hB hv b1 b2 c3 ⟨nb.1, nb.2, hc, b3⟩ (fun T t1 t2 hg => by have := b4 T t1 t2; rw [hg.2.2.2] at this; cases this)
          · rw [t_eq, hz] at c2
            rw [t_lt, hz] at c3
            rcases hL with ⟨b1, b2⟩ | ⟨b1, b2, b3, b4⟩
            · exact Or.inr b1
            · rw [if_neg (by omega)] at c3
              exact Or.inl (by omega)
        · rw [if_pos (t_eq.mpr e6)]
          exact hrc _ _ _ _ _ hlt ⟨i + 1, hl4, by omega, rfl, hm, bmI_skip hB (fun T t1 t2 t3 hg => hc hg.2.2.1)⟩
      have d1 := dv_ok (x := l4) (y := 2) (by omega) (by decide)
      rw [d1.2.2.1]
      refine wp_some (wp_if (fun c2 => ?_) (fun c2 => ?_))
      · rw [t_eq, d1.2.2.2, hl] at c2
        have c2 : (i : Int) % 2 = 1 := c2
        have e1 : (l4 + 1).toInt = (i : Int) + 1 := by rw [hl4]; omega
        have e2 : (-(l4 + 1)).toInt = -((i : Int) + 1) := by rw [neg_small (by rw [e1]; omega), e1]
        have e3 : 2 * (((i + 1) / 2 : Nat) : Int) = (i : Int) + 1 := by omega
        have hneg : (-(l4 + 1)).toInt = -(2 * (((i + 1) / 2 : Nat) : Int)) := by rw [e2, e3]
        have d2 := dvn hneg (by omega) (by omega)
        rw [d2.1]
        refine wp_some (go _ ?_)
        rw [d2.2]
        unfold nk
        rw [if_pos (by omega)]
      · rw [t_eq, d1.2.2.2, hl] at c2
        have c2 : ¬ (i : Int) % 2 = 1 := c2
        rw [d1.1]
        refine wp_some (go _ ?_)
        rw [d1.2.1, hl, show Int32.toInt 2 = 2 from rfl]
        unfold nk
        rw [if_neg (by omega)]
        omega
end BMR
