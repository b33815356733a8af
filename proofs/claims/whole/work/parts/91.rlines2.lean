/-! the reference's lines: phases, cells, paths -/
section RLP
variable {m m2 : ax_M} {T : Nat → Int} {n : Nat} {r : Rs} {D : Nv}
theorem RD_addH {x o w : Int} (hd : RD m D) (hv : Vd D) (h59 : ∀ j, j ≠ 7 → m2.1 59 j = m.1 59 j) (hcnt : (m2.1 59 7).toInt = D 0 0 + 1) (h60 : m2.1 60 = m.1 60) (h61 : ∀ a j, 61 ≤ a → a ≤ 63 → j ≠ 4 + nH D → m2.1 a j = m.1 a j) (hx : (m2.1 61 (4 + nH D)).toInt = x) (ho : (m2.1 62 (4 + nH D)).toInt = o) (hw : (m2.1 63 (4 + nH D)).toInt = w) (h64 : ∀ a, 64 ≤ a → a ≤ 73 → m2.1 a = m.1 a) : RD m2 (addH D x o w) := by
  obtain ⟨⟨c1, c2, c3, c4, c5, c6⟩, d1, d2, d3, d5, d6, d7⟩ := hd
  have n0 : nH (addH D x o w) = nH D + 1 := addH_nH hv.1.1
  refine ⟨⟨?_, ?_, ?_, ?_, ?_, ?_⟩, fun i hi => ?_, fun c hc => ?_, fun p hp => ?_, ?_, ?_, ?_⟩
  · rw [addH_0]; exact hcnt
  · rw [h59 8 (by omega), addH_o (by omega) (by omega)]; exact c2
  · rw [h59 9 (by omega), addH_o (by omega) (by omega)]; exact c3
  · rw [h59 6 (by omega), addH_o (by omega) (by omega)]; exact c4
  · rw [h59 11 (by omega), addH_o (by omega) (by omega)]; exact c5
  · rw [h59 10 (by omega), addH_o (by omega) (by omega)]; exact c6
  · by_cases e : i = nH D
    · rw [e, hx, ho, hw, addH_12, addH_1, addH_2]
      exact ⟨rfl, rfl, rfl⟩
    · rw [h61 61 (4 + i) (by omega) (by omega) (by omega), h61 62 (4 + i) (by omega) (by omega) (by omega), h61 63 (4 + i) (by omega) (by omega) (by omega), addH_o (by omega) (by omega), addH_o (by omega) (by omega), addH_o (by omega) (by omega)]
      exact d1 i (by omega)
  · rw [addH_nC] at hc
    rw [h64 64 (by omega) (by omega), h64 65 (by omega) (by omega), h64 66 (by omega) (by omega), h64 67 (by omega) (by omega), h64 68 (by omega) (by omega), h64 69 (by omega) (by omega), addH_o (by omega) (by omega), addH_o (by omega) (by omega), addH_o (by omega) (by omega), addH_o (by omega) (by omega), addH_o (by omega) (by omega), addH_o (by omega) (by omega)]
    exact d2 c hc
  · rw [addH_nP] at hp
    rw [h64 70 (by omega) (by omega), h64 71 (by omega) (by omega), h64 72 (by omega) (by omega), h64 73 (by omega) (by omega), addH_o (by omega) (by omega), addH_o (by omega) (by omega), addH_o (by omega) (by omega), addH_o (by omega) (by omega)]
    exact d3 p hp
  · rw [h60, addH_o (by omega) (by omega)]; exact d5
  · rw [h60, addH_o (by omega) (by omega)]; exact d6
  · rw [h60, addH_o (by omega) (by omega)]; exact d7
theorem RD_addC {x h s o t fl : Int} (hd : RD m D) (hv : Vd D) (h59 : ∀ j, j ≠ 8 → m2.1 59 j = m.1 59 j) (hcnt : (m2.1 59 8).toInt = D 0 1 + 1) (h60 : ∀ a, 60 ≤ a → a ≤ 63 → m2.1 a = m.1 a) (h64 : ∀ a j, 64 ≤ a → a ≤ 69 → j ≠ 10 + nC D → m2.1 a j = m.1 a j) (hx : (m2.1 64 (10 + nC D)).toInt = x) (hh : (m2.1 65 (10 + nC D)).toInt = h) (hs : (m2.1 66 (10 + nC D)).toInt = s) (ho : (m2.1 67 (10 + nC D)).toInt = o) (ht : (m2.1 68 (10 + nC D)).toInt = t) (hf : (m2.1 69 (10 + nC D)).toInt = fl) (h70 : ∀ a, 70 ≤ a → a ≤ 73 → m2.1 a = m.1 a) : RD m2 (addC D x h s o t fl) := by
  obtain ⟨⟨c1, c2, c3, c4, c5, c6⟩, d1, d2, d3, d5, d6, d7⟩ := hd
  have n0 : nC (addC D x h s o t fl) = nC D + 1 := addC_nC hv.1.2.2.1
  refine ⟨⟨?_, ?_, ?_, ?_, ?_, ?_⟩, fun i hi => ?_, fun c hc => ?_, fun p hp => ?_, ?_, ?_, ?_⟩
  · rw [h59 7 (by omega), addC_o (by omega) (by omega)]; exact c1
  · rw [addC_0]; exact hcnt
  · rw [h59 9 (by omega), addC_o (by omega) (by omega)]; exact c3
  · rw [h59 6 (by omega), addC_o (by omega) (by omega)]; exact c4
  · rw [h59 11 (by omega), addC_o (by omega) (by omega)]; exact c5
  · rw [h59 10 (by omega), addC_o (by omega) (by omega)]; exact c6
  · rw [addC_nH] at hi
    rw [h60 61 (by omega) (by omega), h60 62 (by omega) (by omega), h60 63 (by omega) (by omega), addC_o (by omega) (by omega), addC_o (by omega) (by omega), addC_o (by omega) (by omega)]
    exact d1 i hi
  · by_cases e : c = nC D
    · rw [e, hx, hh, hs, ho, ht, hf, addC_13, addC_3, addC_4, addC_5, addC_6, addC_11]
      exact ⟨rfl, rfl, rfl, rfl, rfl, rfl⟩
    · rw [h64 64 (10 + c) (by omega) (by omega) (by omega), h64 65 (10 + c) (by omega) (by omega) (by omega), h64 66 (10 + c) (by omega) (by omega) (by omega), h64 67 (10 + c) (by omega) (by omega) (by omega), h64 68 (10 + c) (by omega) (by omega) (by omega), h64 69 (10 + c) (by omega) (by omega) (by omega), addC_o (by omega) (by omega), addC_o (by omega) (by omega), addC_o (by omega) (by omega), addC_o (by omega) (by omega), addC_o (by omega) (by omega), addC_o (by omega) (by omega)]
      exact d2 c (by omega)
  · rw [addC_nP] at hp
    rw [h70 70 (by omega) (by omega), h70 71 (by omega) (by omega), h70 72 (by omega) (by omega), h70 73 (by omega) (by omega), addC_o (by omega) (by omega), addC_o (by omega) (by omega), addC_o (by omega) (by omega), addC_o (by omega) (by omega)]
    exact d3 p hp
  · rw [h60 60 (by omega) (by omega), addC_o (by omega) (by omega)]; exact d5
  · rw [h60 60 (by omega) (by omega), addC_o (by omega) (by omega)]; exact d6
  · rw [h60 60 (by omega) (by omega), addC_o (by omega) (by omega)]; exact d7
theorem RD_addP {f t mo le : Int} (hd : RD m D) (hv : Vd D) (h59 : ∀ j, j ≠ 9 → m2.1 59 j = m.1 59 j) (hcnt : (m2.1 59 9).toInt = D 0 2 + 1) (h60 : ∀ a, 60 ≤ a → a ≤ 69 → m2.1 a = m.1 a) (h70 : ∀ a j, 70 ≤ a → a ≤ 73 → j ≠ 24 + nP D → m2.1 a j = m.1 a j) (hf : (m2.1 70 (24 + nP D)).toInt = f) (ht : (m2.1 71 (24 + nP D)).toInt = t) (hm : (m2.1 72 (24 + nP D)).toInt = mo) (hl : (m2.1 73 (24 + nP D)).toInt = le) : RD m2 (addP D f t mo le) := by
  obtain ⟨⟨c1, c2, c3, c4, c5, c6⟩, d1, d2, d3, d5, d6, d7⟩ := hd
  have n0 : nP (addP D f t mo le) = nP D + 1 := addP_nP hv.1.2.2.2.2.1
  refine ⟨⟨?_, ?_, ?_, ?_, ?_, ?_⟩, fun i hi => ?_, fun c hc => ?_, fun p hp => ?_, ?_, ?_, ?_⟩
  · rw [h59 7 (by omega), addP_o (by omega) (by omega)]; exact c1
  · rw [h59 8 (by omega), addP_o (by omega) (by omega)]; exact c2
  · rw [addP_0]; exact hcnt
  · rw [h59 6 (by omega), addP_o (by omega) (by omega)]; exact c4
  · rw [h59 11 (by omega), addP_o (by omega) (by omega)]; exact c5
  · rw [h59 10 (by omega), addP_o (by omega) (by omega)]; exact c6
  · rw [addP_nH] at hi
    rw [h60 61 (by omega) (by omega), h60 62 (by omega) (by omega), h60 63 (by omega) (by omega), addP_o (by omega) (by omega), addP_o (by omega) (by omega), addP_o (by omega) (by omega)]
    exact d1 i hi
  · rw [addP_nC] at hc
    rw [h60 64 (by omega) (by omega), h60 65 (by omega) (by omega), h60 66 (by omega) (by omega), h60 67 (by omega) (by omega), h60 68 (by omega) (by omega), h60 69 (by omega) (by omega), addP_o (by omega) (by omega), addP_o (by omega) (by omega), addP_o (by omega) (by omega), addP_o (by omega) (by omega), addP_o (by omega) (by omega), addP_o (by omega) (by omega)]
    exact d2 c hc
  · by_cases e : p = nP D
    · rw [e, hf, ht, hm, hl, addP_7, addP_8, addP_9, addP_10]
      exact ⟨rfl, rfl, rfl, rfl⟩
    · rw [h70 70 (24 + p) (by omega) (by omega) (by omega), h70 71 (24 + p) (by omega) (by omega) (by omega), h70 72 (24 + p) (by omega) (by omega) (by omega), h70 73 (24 + p) (by omega) (by omega) (by omega), addP_o (by omega) (by omega), addP_o (by omega) (by omega), addP_o (by omega) (by omega), addP_o (by omega) (by omega)]
      exact d3 p (by omega)
  · rw [h60 60 (by omega) (by omega), addP_o (by omega) (by omega)]; exact d5
  · rw [h60 60 (by omega) (by omega), addP_o (by omega) (by omega)]; exact d6
  · rw [h60 60 (by omega) (by omega), addP_o (by omega) (by omega)]; exact d7
theorem r_phase {a : Nat} {p0 : Int} (h : RO m T n (.ok a)) (hT : Tp T) (hd : RD m D) (hv : Vd D) (hp : (m.1 57 21).toInt = p0) : Wp (fX9_readPhase m) (fun _ m2 => RQ m2 m T n (addH D (rv T n (p0s D p0 a)) (rv T n (p1s T n D p0 a)) (rv T n (sNum T n 0 63 (p1s T n D p0 a)))) (sNum T n 1 63 (sNum T n 0 63 (p1s T n D p0 a)))) := by
  have hc := vd_cast hv
  have k0 := hv.1
  have ei : ((4 : Int32) + m.1 59 7).toInt = ((4 + nH D : Nat) : Int) := by
    rw [t_add, hd.1.1, show Int32.toInt 4 = 4 from rfl]
    omega
  have main : ∀ m2 : ax_M, FR m2 m → RO m2 T n (p0s D p0 a) → Wp (fX9_readPhase_K19 ((4 : Int32) + m.1 59 7) m2) (fun _ m2 => RQ m2 m T n (addH D (rv T n (p0s D p0 a)) (rv T n (p1s T n D p0 a)) (rv T n (sNum T n 0 63 (p1s T n D p0 a)))) (sNum T n 1 63 (sNum T n 0 63 (p1s T n D p0 a)))) := by
    intro m2 f2 g2
    have d2 := RD_keep hd (DK_FR f2)
    unfold fX9_readPhase_K19
    refine wp_rding 1 rfl (by omega) (wp_bd (wp_mono (r_new_1 g2 hT 4 (nH D) (D 12) _ _ rfl (by rw [d2.1.1]; exact hc.1) (by omega) (fun b e => ?_) (fun i hi => (d2.2.1 i hi).1)) ?_))
    · have := Classical.not_not.mp (sIf_inv e).2
      omega
    rintro _ m7 ⟨g7, f7, x7⟩
    have g7 : RLd m7 T n (p1s T n D p0 a) := g7
    refine wp_bd (wp_mono (r_num2 g7 hT 0 63 rfl rfl (fun _ _ => by decide)) ?_)
    rintro v8 m9 ⟨⟨g9, v9⟩, f9⟩
    refine wp_bd (wp_mono (r_num2 g9 hT 1 63 rfl rfl (fun _ _ => by decide)) ?_)
    rintro v10 m11 ⟨⟨g11, v11⟩, f11⟩
    have hl : Lh m11 m := Lh_tr (Lh_FR (FR_tr f11 f9)) (Lh_tr (Lh_FN (by unfold Uh; omega) f7) (Lh_FR f2))
    have hk : DK D m11 m := DK_tr (DK_FR (FR_tr f11 f9)) (DK_tr (DK_FN (by unfold Dr; omega) f7) (DK_FR f2))
    have d11 := RD_keep hd hk
    refine wp_if (fun z => ?_) (fun z => ?_)
    · obtain ⟨b, eb⟩ := RLd_zero g11 z
      obtain ⟨b3, i2, _⟩ := sNum_inv eb
      obtain ⟨b4, i3, _⟩ := sNum_inv i2
      obtain ⟨i4, _⟩ := sIf_inv i3
      obtain ⟨b5, i5, _⟩ := sName_inv i4
      obtain ⟨_, i6⟩ := sIf_inv i5
      have hlt : D 0 0 < 4 := Classical.not_not.mp i6
      have y7 : (m11.1 61 (4 + nH D)).toInt = rv T n (p0s D p0 a) := by
        rw [f11.1 61 (by decide), f9.1 61 (by decide)]
        exact x7 _ i3
      refine wp_wr (4 + nH D) ei (by omega) (wp_wr (4 + nH D) ei (by omega) (wp_rding 1 rfl (by omega) (wp_rdsin 1 rfl (by omega) (wp_ret ⟨RLd_w (RLd_w (RLd_w g11 (by decide) (by decide)) (by decide) (by decide)) (by decide) (by decide), ?_, fun b2 e2 => ?_⟩))))
      · exact Lh_wi (by unfold Uh; omega) (Lh_wi (by unfold Uh; omega) (Lh_wi (by unfold Uh; omega) hl))
      · refine RD_addH d11 hv (fun j hj => ?_) ?_ ?_ (fun x j h1 h2 hj => ?_) ?_ ?_ ?_ (fun x h1 h2 => ?_)
        · rw [wi_other hj, wi_ne (by decide), wi_ne (by decide)]
        · show ((ax_wi _ 59 7 _).1 59 7).toInt = _
          rw [wi_self, wi_ne (by decide), wi_ne (by decide), add1 (by rw [d11.1.1]; omega) (by rw [d11.1.1]; omega), d11.1.1]
        · rw [wi_ne (by decide), wi_ne (by decide), wi_ne (by decide)]
        · rw [wi_ne (by omega), wi_other hj, wi_other hj]
        · rw [wi_ne (by decide), wi_ne (by decide), wi_ne (by decide)]; exact y7
        · rw [wi_ne (by decide), wi_ne (by decide), wi_self]; exact v9 _ i2
        · rw [wi_ne (by decide), wi_self]; exact v11 _ eb
        · rw [wi_ne (by omega), wi_ne (by omega), wi_ne (by omega)]
    · obtain ⟨e, ee⟩ := RLd_nz g11 z
      refine wp_ret ⟨g11, hl, fun b2 e2 => ?_⟩
      rw [ee] at e2
      cases e2
  unfold fX9_readPhase
  refine wp_rding 1 rfl (by omega) (wp_let (wp_if (fun z => wp_bd (wp_mono (r_if (b := ¬ D 0 0 < 4) h hp (by decide) ?_) ?_)) (fun z => main m (FR_rf m) ?_)))
  · rw [t_eq] at z
    have z : ((4 : Int32) + m.1 59 7).toInt = 8 := z
    omega
  · rintro _ m3 ⟨w1, w2⟩
    exact main m3 w2 w1
  · have z : ¬ ((4 : Int32) + m.1 59 7).toInt = 8 := fun g => z (t_eq.mpr g)
    unfold p0s
    rw [sIf_f (by omega)]
    exact h
theorem r_cell {a : Nat} {p0 fl : Int} {l1 : Int32} (h : RO m T n (.ok a)) (hT : Tp T) (hd : RD m D) (hv : Vd D) (hp : (m.1 57 21).toInt = p0) (hl1 : (vp_nar .boolean l1).toInt = fl) : Wp (fX9_readCell l1 m) (fun _ m2 => RQ m2 m T n (addC D (rv T n (c0s D p0 a)) (ix (D 12) (nH D) (rv T n (c1s T n D p0 a))) (rv T n (c2s T n D p0 a)) (rv T n (sNum T n 0 99 (c2s T n D p0 a))) (rv T n (sNum T n 0 99 (sNum T n 0 99 (c2s T n D p0 a)))) fl) (sNum T n 0 99 (sNum T n 0 99 (sNum T n 0 99 (c2s T n D p0 a))))) := by
  have hc := vd_cast hv
  have k0 := hv.1
  have ei : ((10 : Int32) + m.1 59 8).toInt = ((10 + nC D : Nat) : Int) := by
    rw [t_add, hd.1.2.1, show Int32.toInt 10 = 10 from rfl]
    omega
  have main : ∀ m2 : ax_M, FR m2 m → RO m2 T n (c0s D p0 a) → Wp (fX9_readCell_K20 l1 ((10 : Int32) + m.1 59 8) m2) (fun _ m2 => RQ m2 m T n (addC D (rv T n (c0s D p0 a)) (ix (D 12) (nH D) (rv T n (c1s T n D p0 a))) (rv T n (c2s T n D p0 a)) (rv T n (sNum T n 0 99 (c2s T n D p0 a))) (rv T n (sNum T n 0 99 (sNum T n 0 99 (c2s T n D p0 a)))) fl) (sNum T n 0 99 (sNum T n 0 99 (sNum T n 0 99 (c2s T n D p0 a))))) := by
    intro m2 f2 g2
    have d2 := RD_keep hd (DK_FR f2)
    unfold fX9_readCell_K20
    refine wp_rding 2 rfl (by omega) (wp_bd (wp_mono (r_new g2 hT 10 (nC D) (D 13) _ _ rfl (by rw [d2.1.2.1]; exact hc.2.1) (by omega) (fun b e => ?_) (fun i hi => (d2.2.2.1 i hi).1)) ?_))
    · have := Classical.not_not.mp (sIf_inv e).2
      omega
    rintro _ m7 ⟨g7, f7, x7⟩
    have g7 : RLd m7 T n (c1s T n D p0 a) := g7
    have d7 := RD_keep hd (DK_tr (DK_FN (by unfold Dr; omega) f7) (DK_FR f2))
    refine wp_rding 1 rfl (by omega) (wp_bd (wp_mono (r_old g7 4 (nH D) (D 12) _ _ rfl (by rw [d7.1.1]; exact hc.1) (by omega) (fun i hi => (d7.2.1 i hi).1)) ?_))
    rintro v10 m11 ⟨⟨g11, x11⟩, f11⟩
    have g11 : RO m11 T n (c2s T n D p0 a) := g11
    refine wp_bd (wp_mono (r_goOn g11 hT) ?_)
    rintro _ m13 ⟨g13, f13⟩
    refine wp_bd (wp_mono (r_num2 g13 hT 0 99 rfl rfl (fun _ _ => by decide)) ?_)
    rintro v14 m15 ⟨⟨g15, v15⟩, f15⟩
    refine wp_bd (wp_mono (r_num2 g15 hT 0 99 rfl rfl (fun _ _ => by decide)) ?_)
    rintro v16 m17 ⟨⟨g17, v17⟩, f17⟩
    refine wp_bd (wp_mono (r_num2 g17 hT 0 99 rfl rfl (fun _ _ => by decide)) ?_)
    rintro v18 m19 ⟨⟨g19, v19⟩, f19⟩
    have ff : FR m19 m7 := FR_tr f19 (FR_tr f17 (FR_tr f15 (FR_tr f13 f11)))
    have hl : Lh m19 m := Lh_tr (Lh_FR ff) (Lh_tr (Lh_FN (by unfold Uh; omega) f7) (Lh_FR f2))
    have d19 := RD_keep d7 (DK_FR ff)
    refine wp_if (fun z => ?_) (fun z => ?_)
    · obtain ⟨b, eb⟩ := RLd_zero g19 z
      obtain ⟨b3, i2, _⟩ := sNum_inv eb
      obtain ⟨b4, i3, _⟩ := sNum_inv i2
      obtain ⟨b5, i4, _⟩ := sNum_inv i3
      obtain ⟨i5, _⟩ := sIf_inv i4
      obtain ⟨b6, i6, _⟩ := sName_inv i5
      obtain ⟨i7, _⟩ := sIf_inv i6
      obtain ⟨b7, i8, _⟩ := sName_inv i7
      obtain ⟨_, i9⟩ := sIf_inv i8
      have hlt : D 0 1 < 10 := Classical.not_not.mp i9
      have y7 : (m19.1 64 (10 + nC D)).toInt = rv T n (c0s D p0 a) := by
        rw [ff.1 64 (by decide)]
        exact x7 _ i6
      refine wp_wr (10 + nC D) ei (by omega) (wp_wr (10 + nC D) ei (by omega) (wp_wr (10 + nC D) ei (by omega) (wp_wr (10 + nC D) ei (by omega) (wp_wz (10 + nC D) ei (by omega) (wp_rding 2 rfl (by omega) (wp_rdsin 2 rfl (by omega) (wp_ret ⟨RLd_w (RLd_w (RLd_w (RLd_w (RLd_w (RLd_w g19 (by decide) (by decide)) (by decide) (by decide)) (by decide) (by decide)) (by decide) (by decide)) (by decide) (by decide)) (by decide) (by decide), ?_, fun b2 e2 => ?_⟩)))))))
      · exact Lh_wi (by unfold Uh; omega) (Lh_wi (by unfold Uh; omega) (Lh_wi (by unfold Uh; omega) (Lh_wi (by unfold Uh; omega) (Lh_wi (by unfold Uh; omega) (Lh_wi (by unfold Uh; omega) hl)))))
      · refine RD_addC d19 hv (fun j hj => ?_) ?_ (fun x h1 h2 => ?_) (fun x j h1 h2 hj => ?_) ?_ ?_ ?_ ?_ ?_ ?_ (fun x h1 h2 => ?_)
        · rw [wi_other hj, wi_ne (by decide), wi_ne (by decide), wi_ne (by decide), wi_ne (by decide), wi_ne (by decide)]
        · show ((ax_wi _ 59 8 _).1 59 8).toInt = _
          rw [wi_self, wi_ne (by decide), wi_ne (by decide), wi_ne (by decide), wi_ne (by decide), wi_ne (by decide), add1 (by rw [d19.1.2.1]; omega) (by rw [d19.1.2.1]; omega), d19.1.2.1]
        · rw [wi_ne (by omega), wi_ne (by omega), wi_ne (by omega), wi_ne (by omega), wi_ne (by omega), wi_ne (by omega)]
        · rw [wi_ne (by omega), wi_other hj, wi_other hj, wi_other hj, wi_other hj, wi_other hj]
        · rw [wi_ne (by decide), wi_ne (by decide), wi_ne (by decide), wi_ne (by decide), wi_ne (by decide), wi_ne (by decide)]; exact y7
        · rw [wi_ne (by decide), wi_ne (by decide), wi_ne (by decide), wi_ne (by decide), wi_ne (by decide), wi_self]; exact (ix_eq (x11 _ i4)).symm
        · rw [wi_ne (by decide), wi_ne (by decide), wi_ne (by decide), wi_ne (by decide), wi_self]; exact v15 _ i3
        · rw [wi_ne (by decide), wi_ne (by decide), wi_ne (by decide), wi_self]; exact v17 _ i2
        · rw [wi_ne (by decide), wi_ne (by decide), wi_self]; exact v19 _ eb
        · rw [wi_ne (by decide), wi_self]; exact hl1
        · rw [wi_ne (by omega), wi_ne (by omega), wi_ne (by omega), wi_ne (by omega), wi_ne (by omega), wi_ne (by omega)]
    · obtain ⟨e, ee⟩ := RLd_nz g19 z
      refine wp_ret ⟨g19, hl, fun b2 e2 => ?_⟩
      rw [ee] at e2
      cases e2
  unfold fX9_readCell
  refine wp_rding 2 rfl (by omega) (wp_let (wp_if (fun z => wp_bd (wp_mono (r_if (b := ¬ D 0 1 < 10) h hp (by decide) ?_) ?_)) (fun z => main m (FR_rf m) ?_)))
  · rw [t_eq] at z
    have z : ((10 : Int32) + m.1 59 8).toInt = 20 := z
    omega
  · rintro _ m3 ⟨w1, w2⟩
    exact main m3 w2 w1
  · have z : ¬ ((10 : Int32) + m.1 59 8).toInt = 20 := fun g => z (t_eq.mpr g)
    unfold c0s
    rw [sIf_f (by omega)]
    exact h
theorem r_pathOf (hd : RD m D) (hv : Vd D) (p1 p2 l1 l2 : Int32) (h1 : p1.toInt = 24) (h2 : p2.toInt = D 0 2) : Wp (fX9_pathOf p1 p2 l1 l2 m) (fun v m2 => m2 = m ∧ (v = -1 ↔ ¬ tp D l1.toInt l2.toInt)) := by
  have hc := vd_cast hv
  have k0 := hv.1
  unfold fX9_pathOf
  refine lp_find (nP D) (fun i => D 7 i = l1.toInt ∧ D 8 i = l2.toInt) (by omega) (fun rc l i hl hi hno hgo => ?_) (fun rc l hl hno => ?_)
  · unfold fX9_pathOf_B3 fX9_pathOf_K39
    rw [if_neg (by rw [t_le, hl, h2]; omega)]
    have d := hd.2.2.2.1 i hi
    have ei : (p1 + l).toInt = ((24 + i : Nat) : Int) := by
      rw [t_add, h1, hl]
      omega
    refine wp_rd (24 + i) ei (by omega) (wp_if (fun c => wp_rd (24 + i) ei (by omega) (wp_if (fun c2 => wp_ret ⟨rfl, ?_⟩) (fun c2 => hgo (fun g => c2 ?_) _ (inc hl (by omega))))) (fun c => hgo (fun g => c ?_) _ (inc hl (by omega))))
    · have ht : tp D l1.toInt l2.toInt := ⟨i, hi, by rw [← d.1, c], by rw [← d.2.1, c2]⟩
      refine ⟨fun g => ?_, fun g => absurd ht g⟩
      have := qm1.mp g
      omega
    · rw [t_eq, d.2.1]; exact g.2
    · rw [t_eq, d.1]; exact g.1
  · unfold fX9_pathOf_B3
    rw [if_pos (by rw [t_le, hl, h2]; omega)]
    exact wp_ret ⟨rfl, fun _ => fun ⟨i, hi, g⟩ => hno i hi g, fun _ => rfl⟩
theorem r_path {a : Nat} {p0 : Int} (h : RO m T n (.ok a)) (hT : Tp T) (hd : RD m D) (hv : Vd D) (hp : (m.1 57 21).toInt = p0) : Wp (fX9_readPath m) (fun _ m2 => RQ m2 m T n (addP D (ix (D 13) (nC D) (rv T n (w0s D p0 a))) (ix (D 13) (nC D) (rv T n (w1s T n D p0 a))) (rv T n (w3s T n D p0 a)) (rv T n (sNum T n 0 999 (w3s T n D p0 a)))) (sNum T n 0 (rv T n (w3s T n D p0 a)) (sNum T n 0 999 (w3s T n D p0 a)))) := by
  have hc := vd_cast hv
  have k0 := hv.1
  have ei : ((24 : Int32) + m.1 59 9).toInt = ((24 + nP D : Nat) : Int) := by
    rw [t_add, hd.1.2.2.1, show Int32.toInt 24 = 24 from rfl]
    omega
  have main : ∀ m2 : ax_M, FR m2 m → RO m2 T n (w0s D p0 a) → Wp (fX9_readPath_K20 ((24 : Int32) + m.1 59 9) m2) (fun _ m2 => RQ m2 m T n (addP D (ix (D 13) (nC D) (rv T n (w0s D p0 a))) (ix (D 13) (nC D) (rv T n (w1s T n D p0 a))) (rv T n (w3s T n D p0 a)) (rv T n (sNum T n 0 999 (w3s T n D p0 a)))) (sNum T n 0 (rv T n (w3s T n D p0 a)) (sNum T n 0 999 (w3s T n D p0 a)))) := by
    intro m2 f2 g2
    unfold fX9_readPath_K20
    refine wp_bd (wp_mono (r_goOn g2 hT) ?_)
    rintro _ m5 ⟨g5, f5⟩
    have ff5 : FR m5 m := FR_tr f5 f2
    have d5 := RD_keep hd (DK_FR ff5)
    refine wp_rding 2 rfl (by omega) (wp_bd (wp_mono (r_old_1 g5 10 (nC D) (D 13) _ _ rfl (by rw [d5.1.2.1]; exact hc.2.1) (by omega) (fun i hi => (d5.2.2.1 i hi).1)) ?_))
    rintro v8 m9 ⟨⟨g9, x9⟩, f9⟩
    have g9 : RO m9 T n (w1s T n D p0 a) := g9
    refine wp_bd (wp_mono (r_goOn g9 hT) ?_)
    rintro _ m11 ⟨g11, f11⟩
    have ff11 : FR m11 m := FR_tr f11 (FR_tr f9 ff5)
    have d11 := RD_keep hd (DK_FR ff11)
    refine wp_rding 2 rfl (by omega) (wp_bd (wp_mono (wp_keq (r_old_1 g11 10 (nC D) (D 13) _ _ rfl (by rw [d11.1.2.1]; exact hc.2.1) (by omega) (fun i hi => (d11.2.2.1 i hi).1)) (kw_X9_oldName_1 _ _ _)) ?_))
    rintro v14 m15 ⟨⟨⟨g15, x15⟩, f15⟩, k15⟩
    have g15 : RO m15 T n (w2s T n D p0 a) := g15
    have ff15 : FR m15 m := FR_tr f15 ff11
    have d15 := RD_keep hd (DK_FR ff15)
    have ixs : ∀ b, w2s T n D p0 a = .ok b → ix (D 13) (nC D) (rv T n (w0s D p0 a)) = v8.toInt ∧ ix (D 13) (nC D) (rv T n (w1s T n D p0 a)) = v14.toInt ∧ (m15.1 57 21).toInt = rp T n (w1s T n D p0 a) := by
      intro b e
      obtain ⟨i1, _⟩ := sIf_inv e
      obtain ⟨b2, i2, _⟩ := sName_inv i1
      refine ⟨ix_eq (x9 _ i2), ix_eq (x15 _ e), ?_⟩
      rw [k15 57 21 (by decide) (by decide)]
      rw [i2] at g11 ⊢
      exact (RK_tk g11.2.2).2.2.1
    have tail : ∀ m3 : ax_M, FR m3 m → RO m3 T n (w3s T n D p0 a) → Wp (fX9_readPath_K89 ((24 : Int32) + m.1 59 9) v8 v14 m3) (fun _ m2 => RQ m2 m T n (addP D (ix (D 13) (nC D) (rv T n (w0s D p0 a))) (ix (D 13) (nC D) (rv T n (w1s T n D p0 a))) (rv T n (w3s T n D p0 a)) (rv T n (sNum T n 0 999 (w3s T n D p0 a)))) (sNum T n 0 (rv T n (w3s T n D p0 a)) (sNum T n 0 999 (w3s T n D p0 a)))) := by
      intro m3 f3 g3
      unfold fX9_readPath_K89
      refine wp_bd (wp_mono (r_goOn g3 hT) ?_)
      rintro _ m17 ⟨g17, f17⟩
      refine wp_bd (wp_mono (r_num2 g17 hT 0 999 rfl rfl (fun _ _ => by decide)) ?_)
      rintro v18 m19 ⟨⟨g19, v19⟩, f19⟩
      refine wp_bd (wp_mono (r_num g19 hT 0 v18 (fun b e => ?_)) ?_)
      · obtain ⟨_, _, _, i1, _⟩ := sNum_inv e
        rw [v19 b e]
        omega
      rintro v20 m21 ⟨⟨g21, v21⟩, f21⟩
      have hu : sNum T n (Int32.toInt 0) v18.toInt (sNum T n 0 999 (w3s T n D p0 a)) = sNum T n 0 (rv T n (w3s T n D p0 a)) (sNum T n 0 999 (w3s T n D p0 a)) := sNum_u (fun b e => v19 b e)
      rw [hu] at g21 v21
      have ff : FR m21 m := FR_tr f21 (FR_tr f19 (FR_tr f17 f3))
      have d21 := RD_keep hd (DK_FR ff)
      refine wp_if (fun z => ?_) (fun z => ?_)
      · obtain ⟨b, eb⟩ := RLd_zero g21 z
        obtain ⟨b3, i2, _⟩ := sNum_inv eb
        obtain ⟨b4, i3, _⟩ := sNum_inv i2
        obtain ⟨i4, _⟩ := sIf_inv i3
        obtain ⟨y3, y7, _⟩ := ixs _ i4
        obtain ⟨i5, _⟩ := sIf_inv i4
        obtain ⟨b6, i6, _⟩ := sName_inv i5
        obtain ⟨i7, _⟩ := sIf_inv i6
        obtain ⟨b7, i8, _⟩ := sName_inv i7
        obtain ⟨_, i9⟩ := sIf_inv i8
        have hlt : D 0 2 < 24 := Classical.not_not.mp i9
        refine wp_wr (24 + nP D) ei (by omega) (wp_wr (24 + nP D) ei (by omega) (wp_wr (24 + nP D) ei (by omega) (wp_wr (24 + nP D) ei (by omega) (wp_rding 3 rfl (by omega) (wp_rdsin 3 rfl (by omega) (wp_ret ⟨RLd_w (RLd_w (RLd_w (RLd_w (RLd_w g21 (by decide) (by decide)) (by decide) (by decide)) (by decide) (by decide)) (by decide) (by decide)) (by decide) (by decide), ?_, fun b2 e2 => ?_⟩))))))
        · exact Lh_wi (by unfold Uh; omega) (Lh_wi (by unfold Uh; omega) (Lh_wi (by unfold Uh; omega) (Lh_wi (by unfold Uh; omega) (Lh_wi (by unfold Uh; omega) (Lh_FR ff)))))
        · refine RD_addP d21 hv (fun j hj => ?_) ?_ (fun x h1 h2 => ?_) (fun x j h1 h2 hj => ?_) ?_ ?_ ?_ ?_
          · rw [wi_other hj, wi_ne (by decide), wi_ne (by decide), wi_ne (by decide), wi_ne (by decide)]
          · show ((ax_wi _ 59 9 _).1 59 9).toInt = _
            rw [wi_self, wi_ne (by decide), wi_ne (by decide), wi_ne (by decide), wi_ne (by decide), add1 (by rw [d21.1.2.2.1]; omega) (by rw [d21.1.2.2.1]; omega), d21.1.2.2.1]
          · rw [wi_ne (by omega), wi_ne (by omega), wi_ne (by omega), wi_ne (by omega), wi_ne (by omega)]
          · rw [wi_ne (by omega), wi_other hj, wi_other hj, wi_other hj, wi_other hj]
          · rw [wi_ne (by decide), wi_ne (by decide), wi_ne (by decide), wi_ne (by decide), wi_self]; exact y3.symm
          · rw [wi_ne (by decide), wi_ne (by decide), wi_ne (by decide), wi_self]; exact y7.symm
          · rw [wi_ne (by decide), wi_ne (by decide), wi_self]; exact v19 _ i2
          · rw [wi_ne (by decide), wi_self]; exact v21 _ eb
      · obtain ⟨e, ee⟩ := RLd_nz g21 z
        refine wp_ret ⟨g21, Lh_FR ff, fun b2 e2 => ?_⟩
        rw [ee] at e2
        cases e2
    cases h2s : w2s T n D p0 a with
    | error e =>
      have e3 : w3s T n D p0 a = .error e := by unfold w3s; rw [h2s]; rfl
      rw [h2s] at g15
      rw [if_neg (re_ne g15)]
      exact tail m15 ff15 (by rw [e3]; exact g15)
    | ok b =>
      obtain ⟨y3, y7, y21⟩ := ixs b h2s
      rw [h2s] at g15
      rw [if_pos (ro_eq g15.2.1)]
      refine wp_rding 3 rfl (by omega) (wp_bd (wp_mono (r_pathOf d15 hv _ _ v8 v14 rfl d15.1.2.2.1) ?_))
      rintro v33 m34 ⟨e34, g33⟩
      rw [e34]
      refine wp_if (fun z => tail m15 ff15 ?_) (fun z => wp_bd (wp_mono (r_if (b := tp D v8.toInt v14.toInt) g15 y21 (by decide) (Classical.not_not.mp (fun g => z (g33.2 g)))) ?_))
      · unfold w3s
        rw [y3, y7, h2s, sIf_f (g33.1 z)]
        exact g15
      · rintro _ m36 ⟨w1, w2⟩
        refine tail m36 (FR_tr w2 ff15) ?_
        unfold w3s
        rw [y3, y7, h2s]
        exact w1
  unfold fX9_readPath
  refine wp_rding 3 rfl (by omega) (wp_let (wp_if (fun z => wp_bd (wp_mono (r_if (b := ¬ D 0 2 < 24) h hp (by decide) ?_) ?_)) (fun z => main m (FR_rf m) ?_)))
  · rw [t_eq] at z
    have z : ((24 : Int32) + m.1 59 9).toInt = 48 := z
    omega
  · rintro _ m3 ⟨w1, w2⟩
    exact main m3 w2 w1
  · have z : ¬ ((24 : Int32) + m.1 59 9).toInt = 48 := fun g => z (t_eq.mpr g)
    unfold w0s
    rw [sIf_f (by omega)]
    exact h
end RLP
