/-! the class's search for the slowest loop -/
def CB (m : ax_M) (ν : Nv) (P : Nat → (Nat → Nat) → Prop) : Prop := BS ν P (m.1 41 5).toInt (fun i => (m.1 45 i).toInt) (m.2 41 6).toInt (m.2 41 7).toInt
def PX (ν : Nv) (s : Nat) (pre : Nat → Nat) (k : Nat) (qq : Nat → Nat) : Prop := 1 ≤ k ∧ pre 0 = s ∧ (∀ i, i < k → pre i < nC ν ∧ Fb ν (pre i) = false ∧ s ≤ pre i) ∧ (∀ i j, i < k → j < k → pre i = pre j → i = j) ∧ ∀ i, i + 1 < k → qq i < nP ν ∧ Fr ν (qq i) = pre i ∧ To ν (qq i) = pre (i + 1)
theorem cmp_gt (x y : Int64) : 0 < lg_cmp x y ↔ y.toInt < x.toInt := by
  have h := cmp_le x y
  rw [t_le] at h
  rw [t_lt]
  have z : Int32.toInt 0 = 0 := rfl
  omega
section LOK
variable {μ : ax_M} {ν : Nv}
theorem px_le {s k : Nat} {pre qq : Nat → Nat} (h : PX ν s pre k qq) : k ≤ nC ν := by
  by_cases e : k ≤ nC ν
  · exact e
  · exfalso
    obtain ⟨i, j, hij, hj, he⟩ := pigeon (nC ν) pre (fun i hi => (h.2.2.1 i (by omega)).1)
    have := h.2.2.2.1 i j (by omega) (by omega) he
    omega
theorem sX0_weigh (hv : Vd ν) {P : Nat → (Nat → Nat) → Prop} (h : CB μ ν P) {k : Nat} {pre w0 : Nat → Nat} (l0 : Lop ν k pre w0) (h44 : ∀ i, i < k → (μ.1 44 i).toInt = (pre i : Nat)) (hlex : ∀ m r q, Lop ν m r q → P m r → m = k → lexle r pre k) (kk : Int32) (d s : Int64) (hk : kk.toInt = (k : Int)) (hd : d.toInt = DD ν k w0) (hs : s.toInt = SS ν k w0) : Wp (fX0_weigh kk d s μ) (fun _ m => CB m ν (Pp P k pre) ∧ (∀ a, a ≠ 41 → a ≠ 45 → m.1 a = μ.1 a) ∧ ∀ j, j ≠ 5 → m.1 41 j = μ.1 41 j) := by
  have hn := vd_nums hv
  have b0 := lop_bd hv l0
  have k10 := (lop_nC hv l0).2
  have b1 := bs_bd hv h
  have m1 : DD ν k w0 * (μ.2 41 7).toInt ≤ 766080 * 640 := Int.mul_le_mul b0.2.1 b1.2.2.2.2.2 (by omega) (by decide)
  have m2 : (μ.2 41 6).toInt * SS ν k w0 ≤ 766080 * 640 := Int.mul_le_mul b1.2.2.2.1 b0.2.2.2 (by omega) (by decide)
  have m3 : 0 ≤ DD ν k w0 * (μ.2 41 7).toInt := Int.mul_nonneg b0.1 (by omega)
  have m4 : 0 ≤ (μ.2 41 6).toInt * SS ν k w0 := Int.mul_nonneg b1.2.2.1 (by omega)
  have ev : ((d * (μ.2 41 7)) - ((μ.2 41 6) * s)).toInt = DD ν k w0 * (μ.2 41 7).toInt - (μ.2 41 6).toInt * SS ν k w0 := by
    rw [t_sub64, t_mul64, t_mul64, hd, hs]
    omega
  have z0 : Int64.toInt 0 = 0 := rfl
  have take : ((μ.1 41 5).toInt = 0 ∨ (∀ m r q, Lop ν m r q → (μ.1 41 5).toInt = (m : Int) → (∀ i, i < m → (μ.1 45 i).toInt = (r i : Nat)) → (μ.2 41 6).toInt = DD ν m q → (μ.2 41 7).toInt = SS ν m q → ge ν k pre w0 m r q)) → Wp (fX0_weigh_K45 kk d s μ) (fun _ m => CB m ν (Pp P k pre) ∧ (∀ a, a ≠ 41 → a ≠ 45 → m.1 a = μ.1 a) ∧ ∀ j, j ≠ 5 → m.1 41 j = μ.1 41 j) := by
    intro hc
    unfold fX0_weigh_K45 fX0_weigh_K75
    refine wp_cp 0 0 k rfl rfl hk (by omega) (by omega) ?_
    intro m2 hk2 hc2 hl2
    refine wp_let (wp_let (wp_let (wp_ret ⟨?_, fun a h1 h2 => ?_, fun j hj => ?_⟩)))
    · have := bs_take hv h l0 (fun i => (m2.1 45 i).toInt) (fun i hi => by
        show (m2.1 45 i).toInt = _
        rw [hc2 i, if_pos (by omega), Nat.zero_add, Nat.sub_zero]
        exact h44 i hi) hc
      unfold CB
      have e5 : ((ax_wl (ax_wl (ax_wi m2 41 5 kk) 41 6 d) 41 7 s).1 41 5).toInt = (k : Int) := by
        show ((ax_wi m2 41 5 kk).1 41 5).toInt = _
        rw [wi_self]; exact hk
      have e45 : ∀ i, (ax_wl (ax_wl (ax_wi m2 41 5 kk) 41 6 d) 41 7 s).1 45 i = m2.1 45 i := by
        intro i
        show (ax_wi m2 41 5 kk).1 45 i = _
        rw [wi_ne (by omega)]
      have e6 : (ax_wl (ax_wl (ax_wi m2 41 5 kk) 41 6 d) 41 7 s).2 41 6 = d := by rw [wl_other (by omega), wl_self]
      have e7 : (ax_wl (ax_wl (ax_wi m2 41 5 kk) 41 6 d) 41 7 s).2 41 7 = s := wl_self
      rw [e5, e6, e7, hd, hs]
      simp only [e45]
      exact this
    · show (ax_wi m2 41 5 kk).1 a = _
      rw [wi_ne h1]; exact hk2 a h2
    · show (ax_wi m2 41 5 kk).1 41 j = _
      rw [wi_other hj, hk2 41 (by omega)]
  unfold fX0_weigh
  refine wp_let (wp_if (fun c => take (Or.inl (q0.mp c))) (fun c => wp_if (fun c2 => take (Or.inr ?_)) (fun c2 => wp_if (fun c3 => wp_if (fun c4 => ?_) (fun c4 => take (Or.inr ?_))) (fun c3 => ?_))))
  · rw [cmp_gt, ev, z0] at c2
    intro m r q l e1 e2 e3 e4
    rw [e3, e4] at c2
    exact Or.inl (by omega)
  · rw [cmp_eq, ev, z0] at c3
    rw [t_le, hk] at c4
    unfold fX0_weigh_K75
    refine wp_ret ⟨?_, fun _ _ _ => rfl, fun _ _ => rfl⟩
    refine bs_leave hv h l0 (fun g => c (q0.mpr g)) (fun m r q l hP e1 e2 e3 e4 => ?_)
    rw [e3, e4] at c3
    refine Or.inr ⟨by omega, ?_⟩
    by_cases e : m < k
    · exact Or.inl e
    · have : m = k := by omega
      exact Or.inr ⟨this, by rw [this]; exact hlex m r q l hP this⟩
  · rw [cmp_eq, ev, z0] at c3
    rw [t_le, hk] at c4
    intro m r q l e1 e2 e3 e4
    rw [e3, e4] at c3
    exact Or.inr ⟨by omega, Or.inl (by omega)⟩
  · rw [cmp_gt, ev, z0] at c2
    rw [cmp_eq, ev, z0] at c3
    unfold fX0_weigh_K75
    refine wp_ret ⟨?_, fun _ _ _ => rfl, fun _ _ => rfl⟩
    refine bs_leave hv h l0 (fun g => c (q0.mpr g)) (fun m r q l hP e1 e2 e3 e4 => ?_)
    rw [e3, e4] at c2 c3
    exact Or.inl (by omega)
theorem lop_next {m k : Nat} {r q : Nat → Nat} (l : Lop ν m r q) {d : Nat} (hd : k = d + 1) (hkm : k < m) : q d < nP ν ∧ Fr ν (q d) = r d ∧ To ν (q d) = r k ∧ Fb ν (r d) = false ∧ Fb ν (r k) = false := by
  have a := l.2.1 d (by omega)
  have b := l.2.1 k hkm
  refine ⟨a.1, a.2.1, ?_, a.2.2.2.1, b.2.2.2.1⟩
  rw [a.2.2.1]
  unfold nx
  rw [if_neg (by omega), hd]
theorem lop_last {m : Nat} {r q : Nat → Nat} (l : Lop ν m r q) {d : Nat} (hd : m = d + 1) : q d < nP ν ∧ Fr ν (q d) = r d ∧ To ν (q d) = r 0 ∧ Fb ν (r d) = false ∧ Fb ν (r 0) = false := by
  have a := l.2.1 d (by omega)
  have b := l.2.1 0 (by omega)
  refine ⟨a.1, a.2.1, ?_, a.2.2.2.1, b.2.2.2.1⟩
  rw [a.2.2.1]
  unfold nx
  rw [if_pos hd.symm]
theorem follow_ok (hv : Vd ν) : ∀ n d : Nat, n + d = 12 → ∀ (s : Nat) (pre qq : Nat → Nat), PX ν s pre (d + 1) qq → ∀ (p1 p2 p3 p4 p5 p6 : Int32) (S : Nat) (μ : ax_M), p1.toInt = (s : Nat) → p2.toInt = (pre d : Nat) → p3.toInt = (d : Nat) → p4 = Int32.ofNat S → S < 1024 → (∀ x, x < 10 → (S.testBit x = true ↔ ∃ i, i < d + 1 ∧ pre i = x)) → p5.toInt = sm (fun i => Dl ν (qq i)) d → p6.toInt = sm (fun i => Sh ν (qq i)) d → CN μ ν → LK μ ν → (∀ i, i < d → (μ.1 44 i).toInt = (pre i : Nat)) → CB μ ν (Bef s pre (d + 1) s) →
    Wp (fX0_follow_n n p1 p2 p3 p4 p5 p6 μ) (fun _ m => CN m ν ∧ LK m ν ∧ (∀ i, i < d + 1 → (m.1 44 i).toInt = (pre i : Nat)) ∧ CB m ν (Bef s pre (d + 1) (nC ν)) ∧ m.1 41 8 = μ.1 41 8) := by
  intro n
  induction n with
  | zero =>
    intro d hd s pre qq hP
    have := px_le hP
    have := vd_nums hv
    omega
  | succ n ih =>
    intro d hd s pre qq hP p1 p2 p3 p4 p5 p6 S μ h1 h2 h3 h4 hS hSb h5 h6 hm0 hL0 h44 hB
    have hn := vd_nums hv
    have hcc := vd_cast hv
    have hk := px_le hP
    obtain ⟨x1, x2, x3, x4, x5⟩ := id hP
    have hd10 : d < 10 := by omega
    have hpd := x3 d (by omega)
    have hs0 := x3 0 (by omega)
    show Wp (gX0_follow (fX0_follow_n n) p1 p2 p3 p4 p5 p6 μ) _
    unfold gX0_follow
    rw [if_pos (by rw [t_lt, h3, show Int32.toInt 10 = 10 from rfl]; omega)]
    refine wp_wr d h3 hd10 ?_
    have f8 : (ax_wi μ 44 d p2).1 41 8 = μ.1 41 8 := by rw [wi_ne (by omega)]
    have fB : CB (ax_wi μ 44 d p2) ν (Bef s pre (d + 1) s) := by
      unfold CB
      rw [wi_ne (show 41 ≠ 44 by omega), wi_ne (show 45 ≠ 44 by omega)]
      exact hB
    have f44 : ∀ i, i < d + 1 → ((ax_wi μ 44 d p2).1 44 i).toInt = (pre i : Nat) := by
      intro i hi
      by_cases e : i = d
      · rw [e, wi_self]; exact h2
      · rw [wi_other e]; exact h44 i (by omega)
    refine wp_lp1 (fun j (l : Int32) m => ∃ x : Nat, l.toInt = (x : Int) ∧ s ≤ x ∧ x ≤ nC ν ∧ j = nC ν - x ∧ CN m ν ∧ LK m ν ∧ (∀ i, i < d + 1 → (m.1 44 i).toInt = (pre i : Nat)) ∧ CB m ν (Bef s pre (d + 1) x) ∧ m.1 41 8 = μ.1 41 8) ax_FU ?_ (nC ν - s) (by unfold ax_FU; omega) ⟨s, h1, by omega, by omega, rfl, CN_wi hm0 (by omega), LK_keep hL0 (wi_ne (by omega)) (wi_ne (by omega)), f44, fB, f8⟩
    rintro j rc hrc l m ⟨x, hl, hsx, hx, hj, hm, hL, g44, gB, g8⟩
    have en : (m.1 2 13).toInt = ν 0 1 := hm.1.2.1
    unfold fX0_follow_B17
    refine wp_if (fun c1 => wp_ret ⟨hm, hL, g44, ?_, g8⟩) (fun c1 => ?_)
    · rw [t_le, en, hl] at c1
      have : x = nC ν := by omega
      rw [this] at gB
      exact gB
    · rw [t_le, en, hl] at c1
      have hx2 : x < nC ν := by omega
      have inl := inc hl (i := x) (by omega)
      -- on to the next cell
      have go : ∀ m : ax_M, CN m ν → LK m ν → (∀ i, i < d + 1 → (m.1 44 i).toInt = (pre i : Nat)) → CB m ν (Bef s pre (d + 1) (x + 1)) → m.1 41 8 = μ.1 41 8 → Wp (fX0_follow_K141 (fX0_follow_n n) p1 p2 p3 p4 p5 p6 l rc m) (fun _ m => CN m ν ∧ LK m ν ∧ (∀ i, i < d + 1 → (m.1 44 i).toInt = (pre i : Nat)) ∧ CB m ν (Bef s pre (d + 1) (nC ν)) ∧ m.1 41 8 = μ.1 41 8) := by
        intro m a b c e f
        unfold fX0_follow_K141
        exact hrc (nC ν - (x + 1)) _ _ (by omega) ⟨x + 1, inl, by omega, by omega, rfl, a, b, c, e, f⟩
      refine wp_rd (pre d) h2 (by omega) ?_
      rw [hL.1 (pre d) (by omega)]
      refine wp_if (fun c2 => ?_) (fun c2 => ?_)
      · rw [pv_test (by omega) hl] at c2
        have nolink : ∀ p, p < nP ν → Fr ν p = pre d → To ν p = x → Fb ν (pre d) = false → Fb ν x = false → False := by
          intro p a1 a2 a3 a4 a5
          have := lkb_iff.mpr ⟨p, a1, a2, a3, a4, a5⟩
          rw [c2] at this; cases this
        refine go m hm hL g44 (bs_iff gB (fun m2 r q lo => bef_next (fun e1 e2 e3 => ?_) (fun e1 e2 e3 => ?_))) g8
        · obtain ⟨b1, b2, b3, b4, b5⟩ := lop_last lo e1
          rw [e2 d (by omega)] at b2 b4
          rw [e2 0 (by omega), x2, e3] at b3 b5
          exact nolink _ b1 b2 b3 b4 b5
        · obtain ⟨b1, b2, b3, b4, b5⟩ := lop_next lo rfl e1
          rw [e2 d (by omega)] at b2 b4
          rw [e3] at b3 b5
          exact nolink _ b1 b2 b3 b4 b5
      · rw [pv_test (by omega) hl] at c2
        obtain ⟨p, a1, a2, a3, a4, a5⟩ := lkb_iff.mp (by simpa using c2 : lkb ν (pre d) x (nP ν) = true)
        have e43 := hL.2 p a1 (by rw [a2]; exact a4) (by rw [a3]; exact a5)
        rw [a2, a3] at e43
        have db := dl_bd hv p a1
        have sb := sh_bd hv p a1
        have qb : ∀ i, i < d → qq i < nP ν := fun i hi => (x5 i (by omega)).1
        have sums := dd_bd hv (m := d) (q := qq) qb (by omega)
        have s1 : DD ν d qq = sm (fun i => Dl ν (qq i)) d := rfl
        have s2 : SS ν d qq = sm (fun i => Sh ν (qq i)) d := rfl
        have sc : ∀ f : Nat → Int, sm (fun i => f (snoc qq d p i)) (d + 1) = sm (fun i => f (qq i)) d + f p := by
          intro f
          show sm (fun i => f (snoc qq d p i)) d + f (snoc qq d p d) = _
          rw [snoc_at, sm_congr (fun i hi => by rw [snoc_ne (by omega)])]
        have ix := ix10 h2 hl (by omega) (by omega)
        refine wp_rd (pre d * 10 + x) ix (by omega) (wp_rdf (sX1_delayOf hm hv _ p e43 a1) (fun r4 e4 => wp_let (wp_rdf (sX1_shiftOf hm hv _ p e43 a1) (fun r7 e7 => wp_let ?_))))
        have v6 : (p5 + r4).toInt = sm (fun i => Dl ν (snoc qq d p i)) (d + 1) := by
          rw [sc (fun p => Dl ν p), t_add, h5, e4]
          omega
        have v9 : (p6 + r7).toInt = sm (fun i => Sh ν (snoc qq d p i)) (d + 1) := by
          rw [sc (fun p => Sh ν p), t_add, h6, e7]
          omega
        have i3 : (p3 + 1).toInt = ((d + 1 : Nat) : Int) := inc h3 (by omega)
        refine wp_if (fun c3 => ?_) (fun c3 => ?_)
        · rw [t_eq, hl, h1] at c3
          have exs : x = s := by omega
          have l0 : Lop ν (d + 1) pre (snoc qq d p) := by
            refine ⟨by omega, fun i hi => ?_, x4⟩
            have xi := x3 i hi
            by_cases e : i = d
            · rw [e, snoc_at]
              refine ⟨a1, a2, ?_, a4, by rw [x2]; exact hpd.2.2⟩
              unfold nx
              rw [if_pos rfl, x2, a3, exs]
            · rw [snoc_ne e]
              have yi := x5 i (by omega)
              refine ⟨yi.1, yi.2.1, ?_, xi.2.1, by rw [x2]; exact xi.2.2⟩
              unfold nx
              rw [if_neg (by omega)]; exact yi.2.2
          rw [exs] at gB
          refine wp_bd (wp_mono (sX0_weigh hv gB l0 g44 (fun m2 r q lo hb he => by subst he; exact bef_lex hb) _ _ _ i3 (by rw [t_64]; exact v6) (by rw [t_64]; exact v9)) ?_)
          rintro _ m14 ⟨w1, w2, w3⟩
          refine go m14 (CN_keep hm (fun a _ _ => w2 a (by omega) (by omega))) (LK_keep hL (w2 42 (by omega) (by omega)) (w2 43 (by omega) (by omega))) (fun i hi => by rw [w2 44 (by omega) (by omega)]; exact g44 i hi) ?_ (by rw [w3 8 (by omega)]; exact g8)
          rw [exs]
          refine bs_iff w1 (fun m2 r q lo => bef_close (fun e1 e2 e3 => ?_))
          have := lo.2.2 (d + 1) 0 e1 (by omega) (by rw [e3, e2 0 (by omega), x2])
          omega
        · rw [t_eq, hl, h1] at c3
          have hsx2 : s < x := by omega
          rw [h4]
          refine wp_if (fun c4 => ?_) (fun c4 => ?_)
          · have c4 : S.testBit x = false := by
              rw [i_nat hl, b_test S hS x (by omega)] at c4
              exact c4
            have hnew : ¬ ∃ i, i < d + 1 ∧ pre i = x := fun g => by
              have := (hSb x (by omega)).mpr g
              rw [c4] at this; cases this
            have hP2 : PX ν s (snoc pre (d + 1) x) (d + 1 + 1) (snoc qq d p) := by
              refine ⟨by omega, by rw [snoc_ne (by omega)]; exact x2, fun i hi => ?_, fun i j hi hj he => ?_, fun i hi => ?_⟩
              · by_cases e : i = d + 1
                · rw [e, snoc_at]; exact ⟨hx2, a5, by omega⟩
                · rw [snoc_ne e]; exact x3 i (by omega)
              · by_cases ei : i = d + 1
                · by_cases ej : j = d + 1
                  · omega
                  · rw [ei, snoc_at, snoc_ne ej] at he
                    exact absurd ⟨j, by omega, he.symm⟩ hnew
                · by_cases ej : j = d + 1
                  · rw [ej, snoc_at, snoc_ne ei] at he
                    exact absurd ⟨i, by omega, he⟩ hnew
                  · rw [snoc_ne ei, snoc_ne ej] at he
                    exact x4 i j (by omega) (by omega) he
              · by_cases e : i = d
                · rw [e, snoc_at, snoc_ne (by omega), snoc_at]
                  exact ⟨a1, a2, a3⟩
                · rw [snoc_ne e, snoc_ne (by omega), snoc_ne (by omega)]
                  exact x5 i (by omega)
            rw [i_nat hl, b_or2 S hS x (by omega), ← i_nat hl]
            have hS2 : S ||| 2 ^ x < 1024 := Nat.or_lt_two_pow (n := 10) hS (Nat.pow_lt_pow_right (by omega) (by omega))
            have key := ih (d + 1) (by omega) s (snoc pre (d + 1) x) (snoc qq d p) hP2 p1 l (p3 + 1) _ (p5 + r4) (p6 + r7) (S ||| 2 ^ x) m h1 (by rw [snoc_at]; exact hl) i3 rfl hS2 (fun y hy => ?_) v6 v9 hm hL (fun i hi => by rw [snoc_ne (by omega)]; exact g44 i hi) (bs_iff gB (fun m2 r q lo => bef_in hsx2 (fun e1 e2 => ?_)))
            · refine wp_bd (wp_mono key ?_)
              rintro _ m11 ⟨k1, k2, k3, k4, k5⟩
              refine go m11 k1 k2 (fun i hi => by rw [k3 i (by omega), snoc_ne (by omega)]) (bs_iff k4 (fun m2 r q lo => (bef_out hsx2 (by omega) (fun e1 => (lop_nC hv lo).1 _ e1)).symm)) (k5.trans g8)
            · rw [Nat.testBit_or, Bool.or_eq_true, hSb y hy, Nat.testBit_two_pow, decide_eq_true_iff]
              constructor
              · rintro (⟨i, g1, g2⟩ | g)
                · exact ⟨i, by omega, by rw [snoc_ne (by omega)]; exact g2⟩
                · exact ⟨d + 1, by omega, by rw [snoc_at]; exact g⟩
              · rintro ⟨i, g1, g2⟩
                by_cases e : i = d + 1
                · rw [e, snoc_at] at g2; exact Or.inr g2
                · rw [snoc_ne e] at g2; exact Or.inl ⟨i, by omega, g2⟩
            · have := (lo.2.1 _ e1).2.2.2.2
              have e0 := e2 0 (by omega)
              rw [snoc_ne (by omega), x2] at e0
              omega
          · have c4 : ¬ S.testBit x = false := by
              rw [i_nat hl, b_test S hS x (by omega)] at c4
              exact c4
            obtain ⟨i, i1, i2⟩ := (hSb x (by omega)).mp (by simpa using c4)
            have hgo := go m hm hL g44 (bs_iff gB (fun m2 r q lo => bef_next (fun e1 e2 e3 => by omega) (fun e1 e2 e3 => ?_))) g8
            · rw [h4] at hgo
              exact hgo
            · have := lo.2.2 (d + 1) i e1 (by omega) (by rw [e3, e2 i i1, i2])
              omega
/-! how the ratio is shortened -/
theorem dl_ok {x y : Int64} {a b : Nat} (hx : x.toInt = (a : Int)) (hy : y.toInt = (b : Int)) (hb : 0 < b) : ax_dl x y = some (x / y) ∧ (x / y).toInt = ((a / b : Nat) : Int) ∧ ax_ml x y = some (x - x / y * y) ∧ (x - x / y * y).toInt = ((a % b : Nat) : Int) := by
  have h1 := t_hi64 x
  have hy0 : ¬ y = 0 := by rw [t_eq64, hy]; have : Int64.toInt 0 = 0 := rfl; omega
  have le : a / b ≤ a := Nat.div_le_self a b
  have hv : (x / y).toInt = ((a / b : Nat) : Int) := by
    rw [Int64.toInt_div, t_bmod64, hx, hy, Int.tdiv_eq_ediv_of_nonneg (by omega), ← Int.natCast_ediv]
    generalize a / b = z at le ⊢
    omega
  have b3 : ((a / b : Nat) : Int) * (b : Int) = ((a / b * b : Nat) : Int) := by rw [Int.natCast_mul]
  have b4 : a / b * b + a % b = a := by rw [Nat.mul_comm]; exact Nat.div_add_mod a b
  refine ⟨by unfold ax_dl; rw [if_neg hy0], hv, by unfold ax_ml; rw [if_neg hy0], ?_⟩
  rw [t_sub64, t_mul64, hv, hx, hy, b3]
  clear hv le b3
  generalize a / b * b = z at b4 ⊢
  generalize a % b = w at b4 ⊢
  omega
theorem mod_half {a b : Nat} (h1 : b < a) (h0 : 0 < b) : 2 * (a % b) < a := by
  have h2 : a % b < b := Nat.mod_lt a h0
  have h3 : a % b ≤ a - b := by
    rw [Nat.mod_eq_sub_mod (by omega)]
    exact Nat.mod_le _ _
  omega
theorem sX0_reduce (D S : Nat) (hD : (μ.2 41 6).toInt = (D : Int)) (hS : (μ.2 41 7).toInt = (S : Int)) (h1 : 1 ≤ S) (h2 : S ≤ 640) : Wp (fX0_reduce μ) (fun _ m => m.1 = μ.1 ∧ (m.2 41 6).toInt = ((D / Nat.gcd D S : Nat) : Int) ∧ (m.2 41 7).toInt = ((S / Nat.gcd D S : Nat) : Int)) := by
  have hg : 0 < Nat.gcd D S := Nat.gcd_pos_of_pos_right D h1
  have z0 : Int64.toInt 0 = 0 := rfl
  have z64 : Int32.toInt 64 = 64 := rfl
  have fin : ∀ l1 : Int64, l1.toInt = (Nat.gcd D S : Nat) → Wp (fX0_reduce_K42 l1 μ) (fun _ m => m.1 = μ.1 ∧ (m.2 41 6).toInt = ((D / Nat.gcd D S : Nat) : Int) ∧ (m.2 41 7).toInt = ((S / Nat.gcd D S : Nat) : Int)) := by
    intro l1 hl1
    unfold fX0_reduce_K42 fX0_reduce_K68
    rw [if_neg (by rw [cmp_le, hl1, z0]; omega)]
    have d1 := dl_ok hD hl1 hg
    have d2 := dl_ok hS hl1 hg
    rw [d1.1]
    refine wp_some (wp_let ?_)
    rw [show (ax_wl μ 41 6 (μ.2 41 6 / l1)).2 41 7 = μ.2 41 7 from wl_other (by omega), d2.1]
    refine wp_some (wp_let (wp_ret ⟨rfl, ?_, ?_⟩))
    · rw [wl_other (by omega), wl_self]; exact d1.2.1
    · rw [wl_self]; exact d2.2.1
  unfold fX0_reduce
  refine wp_let (wp_let ?_)
  refine wp_lp3 (fun j (l1 l3 : Int64) (l5 : Int32) m => m = μ ∧ ∃ (i a b k : Nat), l5.toInt = (i : Int) ∧ i ≤ 64 ∧ j = 64 - i ∧ l1.toInt = (a : Int) ∧ l3.toInt = (b : Int) ∧ Nat.gcd a b = Nat.gcd D S ∧ ((b < 2 ^ k ∧ 2 * k + i ≤ 64) ∨ (a < 2 ^ k ∧ b < a ∧ 2 * k + i ≤ 65))) ax_FU ?_ 64 (by decide) ⟨rfl, 0, D, S, 10, rfl, by omega, rfl, hD, hS, rfl, Or.inl ⟨by omega, by omega⟩⟩
  rintro j rc hrc l1 l3 l5 m ⟨rfl, i, a, b, k, hl5, hi, hj, hl1, hl3, hgc, hst⟩
  unfold fX0_reduce_B13
  have done : b = 0 → l1.toInt = (Nat.gcd D S : Nat) := by
    intro hb
    rw [hl1, ← hgc, hb, Nat.gcd_zero_right]
  refine wp_if (fun c => fin _ (done ?_)) (fun c => wp_if (fun c2 => fin _ (done ?_)) (fun c2 => ?_))
  · rw [t_le, z64, hl5] at c
    rcases hst with ⟨g1, g2⟩ | ⟨g1, g2, g3⟩
    · have : k = 0 := by omega
      subst this
      rw [Nat.pow_zero] at g1
      omega
    · have : k = 0 := by omega
      subst this
      rw [Nat.pow_zero] at g1
      omega
  · rw [cmp_le, hl3, z0] at c2
    clear hst
    omega
  · rw [t_le, z64, hl5] at c
    rw [cmp_le, hl3, z0] at c2
    have hb : 0 < b := by clear hst; omega
    have d := dl_ok hl1 hl3 hb
    rw [d.2.2.1]
    have hmod : a % b < b := Nat.mod_lt a hb
    have hgc2 : Nat.gcd b (a % b) = Nat.gcd D S := by rw [← hgc, Nat.gcd_comm a b, Nat.gcd_rec b a, Nat.gcd_comm]
    have hlt : 64 - (i + 1) < j := by clear hst; omega
    have inl := inc hl5 (i := i) (by clear hst; omega)
    have hi64 : i + 1 ≤ 64 := by clear hst; omega
    refine wp_some ?_
    rcases hst with ⟨g1, g2⟩ | ⟨g1, g2, g3⟩
    · exact hrc _ _ _ _ _ hlt ⟨rfl, i + 1, b, a % b, k, inl, hi64, rfl, hl3, d.2.2.2, hgc2, Or.inr ⟨g1, hmod, by omega⟩⟩
    · obtain ⟨k2, rfl⟩ : ∃ k2, k = k2 + 1 := by
        cases k with
        | zero => rw [Nat.pow_zero] at g1; omega
        | succ k2 => exact ⟨k2, rfl⟩
      have := mod_half g2 hb
      rw [Nat.pow_succ] at g1
      exact hrc _ _ _ _ _ hlt ⟨rfl, i + 1, b, a % b, k2, inl, hi64, rfl, hl3, d.2.2.2, hgc2, Or.inl ⟨by omega, by omega⟩⟩
def LOk (m : ax_M) (ν : Nv) : Prop := ∃ D S : Nat, BS ν (fun _ _ => True) (m.1 41 5).toInt (fun i => (m.1 45 i).toInt) (D : Int) (S : Int) ∧ (m.2 41 6).toInt = ((D / Nat.gcd D S : Nat) : Int) ∧ (m.2 41 7).toInt = ((S / Nat.gcd D S : Nat) : Int)
def LIn (m : ax_M) (ν : Nv) : Prop := (m.1 41 8).toInt = 0 ∨ ((m.1 41 8).toInt = 1 ∧ LOk m ν)
theorem sX0_look (h : CN μ ν) (hv : Vd ν) (hI : LIn μ ν) : Wp (fX0_look μ) (fun _ m => CN m ν ∧ LOk m ν ∧ (m.1 41 8).toInt = 1) := by
  have hn := vd_nums hv
  have hcc := vd_cast hv
  unfold fX0_look
  refine wp_if (fun c => ?_) (fun c => ?_)
  · refine wp_let (wp_let (wp_let (wp_let ?_)))
    have hm4 : CN (ax_wl (ax_wl (ax_wi (ax_wi μ 41 8 1) 41 5 0) 41 6 0) 41 7 1) ν := CN_wi (CN_wi h (by omega)) (by omega)
    have e8 : (ax_wl (ax_wl (ax_wi (ax_wi μ 41 8 1) 41 5 0) 41 6 0) 41 7 1).1 41 8 = 1 := by
      show (ax_wi (ax_wi μ 41 8 1) 41 5 0).1 41 8 = 1
      rw [wi_other (by omega), wi_self]
    have e5 : (ax_wl (ax_wl (ax_wi (ax_wi μ 41 8 1) 41 5 0) 41 6 0) 41 7 1).1 41 5 = 0 := by
      show (ax_wi (ax_wi μ 41 8 1) 41 5 0).1 41 5 = 0
      rw [wi_self]
    have e6 : (ax_wl (ax_wl (ax_wi (ax_wi μ 41 8 1) 41 5 0) 41 6 0) 41 7 1).2 41 6 = 0 := by rw [wl_other (by omega), wl_self]
    have e7 : (ax_wl (ax_wl (ax_wi (ax_wi μ 41 8 1) 41 5 0) 41 6 0) 41 7 1).2 41 7 = 1 := wl_self
    generalize ax_wl (ax_wl (ax_wi (ax_wi μ 41 8 1) 41 5 0) 41 6 0) 41 7 1 = m4 at hm4 e8 e5 e6 e7 ⊢
    refine wp_bd (wp_mono (wp_keep (sX0_linkCells hm4 hv) (kf_X0_linkCells m4)) ?_)
    rintro _ m6 ⟨⟨hm6, hL6⟩, hk6⟩
    have k41 := hk6 41 (by decide)
    have hB6 : CB m6 ν (fun _ r => r 0 < 0) := by
      unfold CB
      rw [k41.1, k41.2, e5, e6, e7]
      exact Or.inl ⟨rfl, rfl, rfl, fun m r q _ g => by omega⟩
    refine wp_lp1 (fun j (l : Int32) m => ∃ s : Nat, l.toInt = (s : Int) ∧ s ≤ nC ν ∧ j = nC ν - s ∧ CN m ν ∧ LK m ν ∧ CB m ν (fun _ r => r 0 < s) ∧ m.1 41 8 = 1) ax_FU ?_ (nC ν) (by unfold ax_FU; omega) ⟨0, rfl, by omega, rfl, hm6, hL6, hB6, by rw [k41.1]; exact e8⟩
    rintro j rc hrc l m ⟨s, hl, hs, hj, hm, hL, hB, h8⟩
    have en : (m.1 2 13).toInt = ν 0 1 := hm.1.2.1
    unfold fX0_look_B34 fX0_look_K68
    refine wp_if (fun c1 => ?_) (fun c1 => ?_)
    · rw [t_le, en, hl] at c1
      have hsn : s = nC ν := by omega
      have hB2 : CB m ν (fun _ _ => True) := bs_iff hB (fun m2 r q lo => ⟨fun _ => by rw [hsn]; exact (lop_nC hv lo).1 0 (by have := lo.1; omega), fun _ => trivial⟩)
      have bb := bs_bd hv hB2
      have eD : (m.2 41 6).toInt = (((m.2 41 6).toInt.toNat : Nat) : Int) := by omega
      have eS : (m.2 41 7).toInt = (((m.2 41 7).toInt.toNat : Nat) : Int) := by omega
      refine wp_bd (wp_mono (sX0_reduce (m.2 41 6).toInt.toNat (m.2 41 7).toInt.toNat eD eS (by omega) (by omega)) ?_)
      rintro _ m8 ⟨w1, w2, w3⟩
      refine wp_ret ⟨CN_keep hm (fun a _ _ => by rw [w1]), ⟨_, _, ?_, w2, w3⟩, by rw [w1, h8]; rfl⟩
      rw [w1, ← eD, ← eS]
      exact hB2
    · rw [t_le, en, hl] at c1
      have hs2 : s < nC ν := by omega
      have inl := inc hl (i := s) (by omega)
      refine wp_rdf (sX1_isFlop hm hv l s hl hs2) (fun r9 e9 => wp_if (fun c2 => ?_) (fun c2 => ?_))
      · have hf : Fb ν s = false := by simpa using not_of e9 c2
        have hP : PX ν s (fun _ => s) (0 + 1) (fun _ => 0) := ⟨by omega, rfl, fun i _ => ⟨hs2, hf, Nat.le_refl _⟩, fun i j hi hj _ => by omega, fun i hi => by omega⟩
        have hB0 : CB m ν (Bef s (fun _ => s) (0 + 1) s) := by
          refine bs_iff hB (fun m2 r q lo => ?_)
          unfold Bef
          constructor
          · rintro (⟨i, g1, g2, g3, g4⟩ | ⟨g1, -⟩ | ⟨-, -, g3⟩ | ⟨g1, g2, g3⟩)
            · have : i = 0 := by omega
              subst this
              exact g4
            · have := lo.1; omega
            · omega
            · have := (lo.2.1 _ g1).2.2.2.2
              have := g2 0 (by omega)
              omega
          · intro g
            exact Or.inl ⟨0, by omega, by have := lo.1; omega, fun j hj => by omega, g⟩
        have key := follow_ok hv 12 0 rfl s (fun _ => s) (fun _ => 0) hP l l 0 ((1 : Int32) <<< (l &&& 31)) 0 0 (2 ^ s) m hl hl rfl (by rw [i_nat hl, b_shl1 s (by omega)]) (by have : 2 ^ s ≤ 2 ^ 9 := Nat.pow_le_pow_right (by omega) (by omega); omega) (fun x hx => by rw [Nat.testBit_two_pow, decide_eq_true_iff]; exact ⟨fun g => ⟨0, by omega, g⟩, fun ⟨_, _, g⟩ => g⟩) rfl rfl hm hL (fun i hi => by omega) hB0
        refine wp_bd (wp_mono key ?_)
        rintro _ m12 ⟨k1, k2, k3, k4, k5⟩
        refine hrc (nC ν - (s + 1)) _ _ (by omega) ⟨s + 1, inl, by omega, rfl, k1, k2, bs_iff k4 (fun m2 r q lo => ?_), k5.trans h8⟩
        unfold Bef
        constructor
        · intro g
          by_cases e : r 0 < s
          · exact Or.inl ⟨0, by omega, by have := lo.1; omega, fun j hj => by omega, e⟩
          · have e0 : ∀ j, j < 0 + 1 → r j = s := fun j hj => by
              have : j = 0 := by omega
              rw [this]
              omega
            by_cases e2 : m2 = 1
            · exact Or.inr (Or.inr (Or.inl ⟨e2, e0, hs2⟩))
            · exact Or.inr (Or.inr (Or.inr ⟨by have := lo.1; omega, e0, (lop_nC hv lo).1 _ (by have := lo.1; omega)⟩))
        · rintro (⟨i, g1, g2, g3, g4⟩ | ⟨g1, -⟩ | ⟨-, g2, -⟩ | ⟨-, g2, -⟩)
          · have : i = 0 := by omega
            subst this
            have g4 : r 0 < s := g4
            omega
          · have := lo.1; omega
          · have g5 : r 0 = s := g2 0 (by omega)
            omega
          · have g5 : r 0 = s := g2 0 (by omega)
            omega
      · have hf := yes_of e9 c2
        refine hrc (nC ν - (s + 1)) _ _ (by omega) ⟨s + 1, inl, by omega, rfl, hm, hL, bs_iff hB (fun m2 r q lo => ⟨fun g => ?_, fun g => by omega⟩), h8⟩
        by_cases e : r 0 = s
        · have := (lo.2.1 0 (by have := lo.1; omega)).2.2.2.1
          rw [e, hf] at this; cases this
        · omega
  · rcases hI with hI | ⟨hI, hO⟩
    · exact absurd (q0.mpr hI) c
    · exact wp_ret ⟨h, hO, hI⟩
def AnsRt (ν : Nv) (p r : Int) : Prop := ∃ (len : Int) (rw : Nat → Int) (D S : Nat), BS ν (fun _ _ => True) len rw (D : Int) (S : Int) ∧ r = if p = 0 then ((D / Nat.gcd D S : Nat) : Int) else ((S / Nat.gcd D S : Nat) : Int)
theorem ansRt_unique (hv : Vd ν) {p r s : Int} (h : AnsRt ν p r) (h2 : AnsRt ν p s) : r = s := by
  obtain ⟨len, rw1, D, S, a1, a2⟩ := h
  obtain ⟨len2, rw2, D2, S2, b1, b2⟩ := h2
  obtain ⟨e1, e2, e3, e4⟩ := bs_unique hv a1 b1
  have e2 : D = D2 := by omega
  have e3 : S = S2 := by omega
  subst e2
  subst e3
  rw [a2, b2]
def AnsLo (ν : Nv) (i r : Int) : Prop := (i < 0 ∧ r = -1) ∨ (0 ≤ i ∧ ∃ (len : Int) (rw : Nat → Int) (D S : Int), BS ν (fun _ _ => True) len rw D S ∧ r = if i < len then rw i.toNat else -2)
theorem ansLo_unique (hv : Vd ν) {i r s : Int} (h : AnsLo ν i r) (h2 : AnsLo ν i s) : r = s := by
  rcases h with ⟨a1, a2⟩ | ⟨a0, len, rw1, D, S, a1, a2⟩ <;> rcases h2 with ⟨b1, b2⟩ | ⟨b0, len2, rw2, D2, S2, b1, b2⟩
  · omega
  · omega
  · omega
  · obtain ⟨e1, e2, e3, e4⟩ := bs_unique hv a1 b1
    subst e1
    rw [a2, b2]
    by_cases e : i < len
    · rw [if_pos e, if_pos e, e4 i.toNat (by omega)]
    · rw [if_neg e, if_neg e]
theorem sX8_ratio (h : CN μ ν) (hv : Vd ν) (hI : LIn μ ν) (p : Int32) : Wp (fX8_ratio p μ) (fun r m => AnsRt ν p.toInt r.toInt ∧ CN m ν ∧ LIn m ν) := by
  unfold fX8_ratio fX8_ratio_K28
  refine wp_bd (wp_mono (sX0_look h hv hI) ?_)
  rintro _ m ⟨hm, hO, h8⟩
  have hI2 : LIn m ν := Or.inr ⟨h8, hO⟩
  obtain ⟨D, S, o1, o2, o3⟩ := hO
  refine wp_if (fun c => wp_ret ⟨⟨_, _, D, S, o1, ?_⟩, hm, hI2⟩) (fun c => wp_ret ⟨⟨_, _, D, S, o1, ?_⟩, hm, hI2⟩)
  · rw [if_pos (q0.mp c)]; exact o2
  · rw [if_neg (mt q0.mpr c)]; exact o3
theorem sX8_loop (h : CN μ ν) (hv : Vd ν) (hI : LIn μ ν) (i : Int32) : Wp (fX8_loop i μ) (fun r m => AnsLo ν i.toInt r.toInt ∧ CN m ν ∧ LIn m ν) := by
  have z0 : Int32.toInt 0 = 0 := rfl
  unfold fX8_loop fX8_loop_K38
  refine wp_if (fun c => ?_) (fun c => wp_ret ⟨Or.inl ⟨?_, rfl⟩, h, hI⟩)
  · rw [t_le, z0] at c
    refine wp_bd (wp_mono (sX0_look h hv hI) ?_)
    rintro _ m ⟨hm, hO, h8⟩
    have hI2 : LIn m ν := Or.inr ⟨h8, hO⟩
    obtain ⟨D, S, o1, o2, o3⟩ := hO
    have bb := bs_bd hv o1
    refine wp_if (fun c2 => wp_ret ⟨Or.inr ⟨c, _, _, _, _, o1, ?_⟩, hm, hI2⟩) (fun c2 => wp_rd i.toInt.toNat ?_ ?_ (wp_ret ⟨Or.inr ⟨c, _, _, _, _, o1, ?_⟩, hm, hI2⟩))
    · rw [t_le] at c2
      rw [if_neg (by omega)]; rfl
    · omega
    · rw [t_le] at c2; omega
    · rw [t_le] at c2
      rw [if_pos (by omega)]
  · rw [t_le, z0] at c; omega
end LOK
