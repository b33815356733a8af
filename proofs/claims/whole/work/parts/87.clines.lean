/-! the class's lines -/
section CLL
variable {m : ax_M} {T : Nat → Int} {n : Nat} {r : Rs} {D : Nv}
theorem c_num2 (h : CO m T n r) (hT : Tp T) {lo hi : Int32} (l u : Int) (hl : lo.toInt = l) (hu : hi.toInt = u) (hhi : ∀ a, r = .ok a → u ≤ 99999) : Wp (fX3_readNumber lo hi m) (fun v m2 => (CO m2 T n (sNum T n l u r) ∧ ∀ a, sNum T n l u r = .ok a → v.toInt = rv T n r) ∧ FX m2 m) := by
  subst hl
  subst hu
  exact c_num h hT lo hi hhi
theorem CD_FX {m2 : ax_M} (hd : CD m D) (hf : FX m2 m) : CD m2 D := by
  refine CD_nums hd (fun x h1 h2 => hf.1 x (by omega)) (fun j hj => by rw [hf.1 16 (by decide)]) (fun _ _ _ _ => rfl) ?_ ?_ ?_ ?_ ?_ ?_
  · rw [hf.1 16 (by decide)]; exact hd.1.2.2.2.1
  · rw [hf.1 16 (by decide)]; exact hd.1.2.2.2.2.1
  · rw [hf.1 16 (by decide)]; exact hd.1.2.2.2.2.2
  · rw [hf.2.2.1]; exact hd.2.2.2.2.2.1
  · rw [hf.2.2.2.1]; exact hd.2.2.2.2.2.2.1
  · rw [hf.2.2.2.2]; exact hd.2.2.2.2.2.2.2
theorem c_refuse (h : CO m T n r) {c : Int32} {p : Int} (hc : c.toInt ≠ 0) (hp : ∀ a, r = .ok a → (m.1 15 8).toInt = p) : Wp (fX3_refuse c m) (fun _ m2 => CO m2 T n (sIf True c.toInt p r) ∧ FX m2 m) := by
  have h1 := c_if (s1 := 1) h hc hp
  unfold fX3_refuseIf at h1
  rw [if_neg (by decide)] at h1
  obtain ⟨x, m2, e, h2, h3⟩ := h1
  cases hr : fX3_refuse c m with
  | none => rw [hr] at e; cases e
  | some q =>
    rw [hr] at e
    have e2 : m2 = q.2 := by
      cases e
      rfl
    subst e2
    refine ⟨q.1, q.2, rfl, ?_, h3⟩
    rw [sIf_congr (c := ((1 : Int32) ≠ 0)) (fun _ _ => ⟨fun _ => by decide, fun _ => trivial⟩)]
    exact h2.1
theorem cl_skew {a : Nat} {p0 : Int} (h : CO m T n (.ok a)) (hT : Tp T) (hd : CD m D) (hp : (m.1 15 8).toInt = p0) : Wp (fX3_readSkew m) (fun _ m2 => LO m2 T n (lnOnce T n D 5 4 0 99 p0 a) ∧ m2.1 15 1 = m.1 15 1) := by
  unfold fX3_readSkew
  refine wp_bd (wp_mono (c_if h (by decide) (fun _ _ => hp)) ?_)
  rintro _ m2 ⟨⟨h2, _⟩, f2⟩
  have e0 : (m.1 15 11 ≠ 0) ↔ (D 14 5 ≠ 0) := by rw [← hd.2.2.2.2.2.2.1, ne_eq, ne_eq, t_eq]; rfl
  have h2 : CO m2 T n (sIf (D 14 5 ≠ 0) 3 p0 (.ok a)) := by
    rw [← sIf_congr (x := 3) (p := p0) (r := .ok a) (fun _ _ => e0)]
    exact h2
  refine wp_let (wp_bd (wp_mono (c_num2 (CO_wi h2 (by decide) (fun _ => by decide)) hT 0 99 rfl rfl (fun _ _ => by decide)) ?_))
  rintro v m5 ⟨⟨h5, v5⟩, f5⟩
  refine wp_let (wp_bd (wp_mono (c_stop (CO_wi h5 (by decide) (fun g => absurd g (by decide))) hT) ?_))
  rintro _ m8 ⟨h8, f8⟩
  refine wp_ret ⟨?_, ?_⟩
  · unfold lnOnce
    generalize hr : sStop T n (sNum T n 0 99 (sIf (D 14 5 ≠ 0) 3 p0 (.ok a))) = r8 at h8
    cases r8 with
    | error e => exact h8
    | ok b =>
      refine ⟨h8, ?_⟩
      show CD m8 (up (up D 14 5 1) 0 4 (rv T n (sIf (D 14 5 ≠ 0) 3 p0 (.ok a))))
      obtain ⟨b2, g1, _⟩ := sStop_inv hr
      have hv := v5 b2 g1
      have q16 : ∀ j, m8.1 16 j = (ax_wi m5 16 17 v).1 16 j := fun j => by rw [f8.1 16 (by decide)]
      have q5 : ∀ j, m5.1 16 j = m.1 16 j := fun j => by rw [f5.1 16 (by decide), wi_ne (by decide), f2.1 16 (by decide)]
      refine CD_nums hd (fun x h1 h2 => ?_) (fun j hj => ?_) (fun k i h1 h2 => ?_) ?_ ?_ ?_ ?_ ?_ ?_
      · rw [f8.1 x (by omega), wi_ne (by omega), f5.1 x (by omega), wi_ne (by omega), f2.1 x (by omega)]
      · rw [q16, wi_other (by omega), q5]
      · by_cases e : k = 0
        · rw [up_i (by have := h2 e; omega), up_k h1]
        · rw [up_k e, up_k h1]
      · rw [q16, wi_other (by omega), q5, up_i (by omega), up_k (by omega)]; exact hd.1.2.2.2.1
      · rw [q16, wi_self, up_at]; exact hv
      · rw [q16, wi_other (by omega), q5, up_i (by omega), up_k (by omega)]; exact hd.1.2.2.2.2.2
      · rw [f8.2.2.1, wi_ne (by decide), f5.2.2.1, wi_other (by omega), f2.2.2.1, up_k (by omega), up_i (by omega)]; exact hd.2.2.2.2.2.1
      · rw [f8.2.2.2.1, wi_ne (by decide), f5.2.2.2.1, wi_self, up_k (by omega), up_at]; rfl
      · rw [f8.2.2.2.2, wi_ne (by decide), f5.2.2.2.2, wi_other (by omega), f2.2.2.2.2, up_k (by omega), up_i (by omega)]; exact hd.2.2.2.2.2.2.2
  · rw [f8.2.1, wi_ne (by decide), f5.2.1, wi_other (by decide), f2.2.1]
theorem cl_seed {a : Nat} {p0 : Int} (h : CO m T n (.ok a)) (hT : Tp T) (hd : CD m D) (hp : (m.1 15 8).toInt = p0) : Wp (fX3_readSeed m) (fun _ m2 => LO m2 T n (lnOnce T n D 6 5 0 99999 p0 a) ∧ m2.1 15 1 = m.1 15 1) := by
  unfold fX3_readSeed
  refine wp_bd (wp_mono (c_if h (by decide) (fun _ _ => hp)) ?_)
  rintro _ m2 ⟨⟨h2, _⟩, f2⟩
  have e0 : (m.1 15 12 ≠ 0) ↔ (D 14 6 ≠ 0) := by rw [← hd.2.2.2.2.2.2.2, ne_eq, ne_eq, t_eq]; rfl
  have h2 : CO m2 T n (sIf (D 14 6 ≠ 0) 3 p0 (.ok a)) := by
    rw [← sIf_congr (x := 3) (p := p0) (r := .ok a) (fun _ _ => e0)]
    exact h2
  refine wp_let (wp_bd (wp_mono (c_num2 (CO_wi h2 (by decide) (fun _ => by decide)) hT 0 99999 rfl rfl (fun _ _ => by decide)) ?_))
  rintro v m5 ⟨⟨h5, v5⟩, f5⟩
  refine wp_let (wp_bd (wp_mono (c_stop (CO_wi h5 (by decide) (fun g => absurd g (by decide))) hT) ?_))
  rintro _ m8 ⟨h8, f8⟩
  refine wp_ret ⟨?_, ?_⟩
  · unfold lnOnce
    generalize hr : sStop T n (sNum T n 0 99999 (sIf (D 14 6 ≠ 0) 3 p0 (.ok a))) = r8 at h8
    cases r8 with
    | error e => exact h8
    | ok b =>
      refine ⟨h8, ?_⟩
      show CD m8 (up (up D 14 6 1) 0 5 (rv T n (sIf (D 14 6 ≠ 0) 3 p0 (.ok a))))
      obtain ⟨b2, g1, _⟩ := sStop_inv hr
      have hv := v5 b2 g1
      have q16 : ∀ j, m8.1 16 j = (ax_wi m5 16 18 v).1 16 j := fun j => by rw [f8.1 16 (by decide)]
      have q5 : ∀ j, m5.1 16 j = m.1 16 j := fun j => by rw [f5.1 16 (by decide), wi_ne (by decide), f2.1 16 (by decide)]
      refine CD_nums hd (fun x h1 h2 => ?_) (fun j hj => ?_) (fun k i h1 h2 => ?_) ?_ ?_ ?_ ?_ ?_ ?_
      · rw [f8.1 x (by omega), wi_ne (by omega), f5.1 x (by omega), wi_ne (by omega), f2.1 x (by omega)]
      · rw [q16, wi_other (by omega), q5]
      · by_cases e : k = 0
        · rw [up_i (by have := h2 e; omega), up_k h1]
        · rw [up_k e, up_k h1]
      · rw [q16, wi_other (by omega), q5, up_i (by omega), up_k (by omega)]; exact hd.1.2.2.2.1
      · rw [q16, wi_other (by omega), q5, up_i (by omega), up_k (by omega)]; exact hd.1.2.2.2.2.1
      · rw [q16, wi_self, up_at]; exact hv
      · rw [f8.2.2.1, wi_ne (by decide), f5.2.2.1, wi_other (by omega), f2.2.2.1, up_k (by omega), up_i (by omega)]; exact hd.2.2.2.2.2.1
      · rw [f8.2.2.2.1, wi_ne (by decide), f5.2.2.2.1, wi_other (by omega), f2.2.2.2.1, up_k (by omega), up_i (by omega)]; exact hd.2.2.2.2.2.2.1
      · rw [f8.2.2.2.2, wi_ne (by decide), f5.2.2.2.2, wi_self, up_k (by omega), up_at]; rfl
  · rw [f8.2.1, wi_ne (by decide), f5.2.1, wi_other (by decide), f2.2.1]
theorem CD_addH {m2 : ax_M} {x o w : Int} (hd : CD m D) (hv : Vd D) (h20 : ∀ a, 20 ≤ a → a ≤ 28 → m2.1 a = m.1 a) (h16 : ∀ j, j ≠ 12 → m2.1 16 j = m.1 16 j) (hcnt : (m2.1 16 12).toInt = D 0 0 + 1) (h17 : ∀ a j, 17 ≤ a → a ≤ 19 → j ≠ nH D → m2.1 a j = m.1 a j) (hx : (m2.1 17 (nH D)).toInt = x) (ho : (m2.1 18 (nH D)).toInt = o) (hw : (m2.1 19 (nH D)).toInt = w) (h15 : ∀ j, 10 ≤ j → j ≤ 12 → m2.1 15 j = m.1 15 j) : CD m2 (addH D x o w) := by
  obtain ⟨⟨c1, c2, c3, c4, c5, c6⟩, d1, d2, d3, d4, d5, d6, d7⟩ := hd
  have n0 : nH (addH D x o w) = nH D + 1 := addH_nH hv.1.1
  refine ⟨⟨?_, ?_, ?_, ?_, ?_, ?_⟩, fun i hi => ?_, fun c hc => ?_, fun p hp => ?_, ?_, ?_, ?_, ?_⟩
  · rw [addH_0]; exact hcnt
  · rw [h16 13 (by omega), addH_o (by omega) (by omega)]; exact c2
  · rw [h16 14 (by omega), addH_o (by omega) (by omega)]; exact c3
  · rw [h16 16 (by omega), addH_o (by omega) (by omega)]; exact c4
  · rw [h16 17 (by omega), addH_o (by omega) (by omega)]; exact c5
  · rw [h16 18 (by omega), addH_o (by omega) (by omega)]; exact c6
  · by_cases e : i = nH D
    · rw [e, hx, ho, hw, addH_12, addH_1, addH_2]
      exact ⟨rfl, rfl, rfl⟩
    · rw [h17 17 i (by omega) (by omega) e, h17 18 i (by omega) (by omega) e, h17 19 i (by omega) (by omega) e, addH_o (by omega) (by omega), addH_o (by omega) (by omega), addH_o (by omega) (by omega)]
      exact d1 i (by omega)
  · rw [addH_nC] at hc
    rw [h20 20 (by omega) (by omega), h20 21 (by omega) (by omega), h20 22 (by omega) (by omega), h20 23 (by omega) (by omega), h20 24 (by omega) (by omega), addH_o (by omega) (by omega), addH_o (by omega) (by omega), addH_o (by omega) (by omega), addH_o (by omega) (by omega), addH_o (by omega) (by omega)]
    exact d2 c hc
  · rw [addH_nP] at hp
    rw [h20 25 (by omega) (by omega), h20 26 (by omega) (by omega), h20 27 (by omega) (by omega), h20 28 (by omega) (by omega), addH_o (by omega) (by omega), addH_o (by omega) (by omega), addH_o (by omega) (by omega), addH_o (by omega) (by omega)]
    exact d3 p hp
  · rw [h16 15 (by omega), d4, addH_nC, bt_congr (f := Fb (addH D x o w)) (g := Fb D) (fun c _ => by unfold Fb; rw [addH_o (by omega) (by omega)])]
  · rw [h15 10 (by omega) (by omega), addH_o (by omega) (by omega)]; exact d5
  · rw [h15 11 (by omega) (by omega), addH_o (by omega) (by omega)]; exact d6
  · rw [h15 12 (by omega) (by omega), addH_o (by omega) (by omega)]; exact d7
theorem cl_phase {a : Nat} {p0 : Int} (h : CO m T n (.ok a)) (hT : Tp T) (hd : CD m D) (hv : Vd D) (hp : (m.1 15 8).toInt = p0) : Wp (fX3_readPhase m) (fun _ m2 => LO m2 T n (lnPhase T n D p0 a) ∧ m2.1 15 1 = m.1 15 1) := by
  have hc := vd_cast hv
  have k0 := hv.1
  have main : ∀ s1 : Int32, (s1 ≠ 0 ↔ ¬ D 0 0 < 4) → Wp (fX3_readPhase_K17 s1 m) (fun _ m2 => LO m2 T n (lnPhase T n D p0 a) ∧ m2.1 15 1 = m.1 15 1) := by
    intro s1 hs1
    unfold fX3_readPhase_K17
    refine wp_bd (wp_mono (c_if h (by decide) (fun _ _ => hp)) ?_)
    rintro _ m2 ⟨⟨h2, _⟩, f2⟩
    have h2 : CO m2 T n (p0s D p0 a) := by
      unfold p0s
      rw [← sIf_congr (x := 2) (p := p0) (r := .ok a) (fun _ _ => hs1)]
      exact h2
    have d2 := CD_FX hd f2
    refine wp_bd (wp_mono (c_name1 h2 hT (m2.1 16 12) (nH D) (D 12) (by rw [d2.1.1]; exact hc.1) (by omega) (fun i hi => (d2.2.1 i hi).1)) ?_)
    rintro v3 m4 ⟨⟨h4, g4⟩, f4⟩
    have main2 : ∀ s2 : Int32, (∀ b, sName T n (p0s D p0 a) = .ok b → (s2 ≠ 0 ↔ nf (D 12) (nH D) (rv T n (p0s D p0 a)) = false)) → Wp (fX3_readPhase_K49 s2 m4) (fun _ m2 => LO m2 T n (lnPhase T n D p0 a) ∧ m2.1 15 1 = m.1 15 1) := by
      intro s2 hs2
      unfold fX3_readPhase_K49 fX3_readPhase_K140
      refine wp_bd (wp_mono (c_if h4 (by decide) (fun b e => (g4 b e).2.2)) ?_)
      rintro _ m6 ⟨⟨h6, e9, _⟩, f6⟩
      have h6 : CO m6 T n (p1s T n D p0 a) := by
        unfold p1s
        rw [← sIf_congr (x := 3) (p := rp T n (p0s D p0 a)) hs2]
        exact h6
      refine wp_let (wp_bd (wp_mono (c_num2 h6 hT 0 63 rfl rfl (fun _ _ => by decide)) ?_))
      rintro v8 m9 ⟨⟨h9, v9⟩, f9⟩
      refine wp_bd (wp_mono (c_num2 h9 hT 1 63 rfl rfl (fun _ _ => by decide)) ?_)
      rintro v10 m11 ⟨⟨h11, v11⟩, f11⟩
      refine wp_bd (wp_mono (c_stop h11 hT) ?_)
      rintro _ m13 ⟨h13, f13⟩
      have ff : FX m13 m := FX_tr f13 (FX_tr f11 (FX_tr f9 (FX_tr f6 (FX_tr f4 f2))))
      have dd := CD_FX hd ff
      refine wp_if (fun z0 => ?_) (fun z0 => ?_)
      · obtain ⟨b, eb⟩ := CO_zero h13 z0
        obtain ⟨b2, i1, _⟩ := sStop_inv eb
        obtain ⟨b3, i2, _⟩ := sNum_inv i1
        obtain ⟨b4, i3, _⟩ := sNum_inv i2
        obtain ⟨i4, _⟩ := sIf_inv i3
        obtain ⟨b5, i5, _⟩ := sName_inv i4
        obtain ⟨_, i6⟩ := sIf_inv i5
        have hlt : D 0 0 < 4 := Classical.not_not.mp i6
        have x7 : (m6.1 15 9).toInt = rv T n (p0s D p0 a) := by rw [e9]; exact (g4 _ i4).2.1
        have x8 := v9 _ i2
        have x10 := v11 _ i1
        have ek : (m13.1 16 12).toInt = (nH D : Int) := by rw [dd.1.1]; exact hc.1
        refine wp_let (wp_wr (nH D) ek (by omega) (wp_wr (nH D) ek (by omega) (wp_wr (nH D) ek (by omega) (wp_let (wp_ret ⟨?_, ?_⟩)))))
        · unfold lnPhase
          rw [eb] at h13 ⊢
          refine ⟨CO_wi (CO_wi (CO_wi (CO_wi h13 (by decide) (fun g => absurd g (by decide))) (by decide) (fun g => absurd g (by decide))) (by decide) (fun g => absurd g (by decide))) (by decide) (fun g => absurd g (by decide)), ?_⟩
          refine CD_addH dd hv (fun x h1 h2 => ?_) (fun j hj => ?_) ?_ (fun x j h1 h2 hj => ?_) ?_ ?_ ?_ (fun j h1 h2 => ?_)
          · rw [wi_ne (by omega), wi_ne (by omega), wi_ne (by omega), wi_ne (by omega)]
          · rw [wi_other hj, wi_ne (by decide), wi_ne (by decide), wi_ne (by decide)]
          · rw [wi_self, wi_ne (by decide), wi_ne (by decide), wi_ne (by decide), inc ek (by omega)]
            omega
          · rw [wi_ne (by omega), wi_other hj, wi_other hj, wi_other hj]
          · rw [wi_ne (by decide), wi_ne (by decide), wi_ne (by decide), wi_self]; exact x7
          · rw [wi_ne (by decide), wi_ne (by decide), wi_self]; exact x8
          · rw [wi_ne (by decide), wi_self]; exact x10
          · rw [wi_ne (by decide), wi_ne (by decide), wi_ne (by decide), wi_ne (by decide)]
        · rw [wi_ne (by decide), wi_ne (by decide), wi_ne (by decide), wi_ne (by decide), ff.2.1]
      · obtain ⟨e, ee⟩ := CO_nz h13 z0
        refine wp_ret ⟨?_, ff.2.1⟩
        unfold lnPhase
        rw [ee] at h13 ⊢
        exact h13
    refine wp_if (fun z => main2 0 (fun b e => ?_)) (fun z => main2 1 (fun b e => ?_))
    · have := (nf_neg (g4 b e).1).1 (qm1.mp z)
      rw [this]
      exact ⟨fun g => absurd rfl g, fun g => by cases g⟩
    · have : ¬ nf (D 12) (nH D) (rv T n (p0s D p0 a)) = true := fun g => z (qm1.mpr ((nf_neg (g4 b e).1).2 g))
      exact ⟨fun _ => Bool.eq_false_iff.mpr this, fun _ => by decide⟩
  unfold fX3_readPhase
  have e4 : Int32.toInt 4 = 4 := rfl
  refine wp_if (fun z => main 0 ?_) (fun z => main 1 ?_)
  · rw [t_lt, hd.1.1, e4] at z
    exact ⟨fun g => absurd rfl g, fun g => absurd z g⟩
  · rw [t_lt, hd.1.1, e4] at z
    exact ⟨fun _ => z, fun _ => by decide⟩
end CLL
