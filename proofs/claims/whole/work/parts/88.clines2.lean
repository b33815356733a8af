/-! the class's lines: cells and paths -/
theorem fl_or1 : ∀ n, n < 1024 → ∀ c, c < 10 → n < 2 ^ c → (Int32.ofNat n ||| ((1 : Int32) <<< (Int32.ofNat c &&& 31))).toInt = ((n + 2 ^ c : Nat) : Int) := by decide +kernel
theorem fl_or0 : ∀ n, n < 1024 → ∀ c, c < 10 → (Int32.ofNat n ||| ((0 : Int32) <<< (Int32.ofNat c &&& 31))).toInt = (n : Int) := by decide +kernel
theorem bt_orl {x y l : Int32} {f : Nat → Bool} {c : Nat} {b : Bool} (hx : x.toInt = (bt f c : Nat)) (hy : y.toInt = (c : Int)) (hc : c < 10) (hl : l = 0 ∧ b = false ∨ l = 1 ∧ b = true) : (x ||| (l <<< (y &&& 31))).toInt = ((bt f c + if b = true then 2 ^ c else 0 : Nat) : Int) := by
  have h1 := bt_lt f c
  have h2 : bt f c < 1024 := Nat.lt_of_lt_of_le h1 (Nat.pow_le_pow_right (n := 2) (by omega) (show c ≤ 10 by omega))
  rw [i_nat hx, i_nat hy]
  rcases hl with ⟨rfl, rfl⟩ | ⟨rfl, rfl⟩
  · rw [if_neg (by decide), Nat.add_zero]
    exact fl_or0 _ h2 _ hc
  · rw [if_pos rfl]
    exact fl_or1 _ h2 _ hc h1
section CLK
variable {m : ax_M} {T : Nat → Int} {n : Nat} {r : Rs} {D : Nv}
theorem CD_addC {m2 : ax_M} {x h s o t fl : Int} (hd : CD m D) (hv : Vd D) (h17 : ∀ a, 17 ≤ a → a ≤ 19 → m2.1 a = m.1 a) (h25 : ∀ a, 25 ≤ a → a ≤ 28 → m2.1 a = m.1 a) (h16 : ∀ j, j ≠ 13 → j ≠ 15 → m2.1 16 j = m.1 16 j) (hcnt : (m2.1 16 13).toInt = D 0 1 + 1) (hfl : (m2.1 16 15).toInt = ((bt (Fb D) (nC D) + if decide (fl = 1) = true then 2 ^ (nC D) else 0 : Nat) : Int)) (h20 : ∀ a j, 20 ≤ a → a ≤ 24 → j ≠ nC D → m2.1 a j = m.1 a j) (hx : (m2.1 20 (nC D)).toInt = x) (hh : (m2.1 21 (nC D)).toInt = h) (hs : (m2.1 22 (nC D)).toInt = s) (ho : (m2.1 23 (nC D)).toInt = o) (ht : (m2.1 24 (nC D)).toInt = t) (h15 : ∀ j, 10 ≤ j → j ≤ 12 → m2.1 15 j = m.1 15 j) : CD m2 (addC D x h s o t fl) := by
  obtain ⟨⟨c1, c2, c3, c4, c5, c6⟩, d1, d2, d3, d4, d5, d6, d7⟩ := hd
  have n0 : nC (addC D x h s o t fl) = nC D + 1 := addC_nC hv.1.2.2.1
  refine ⟨⟨?_, ?_, ?_, ?_, ?_, ?_⟩, fun i hi => ?_, fun c hc => ?_, fun p hp => ?_, ?_, ?_, ?_, ?_⟩
  · rw [h16 12 (by omega) (by omega), addC_o (by omega) (by omega)]; exact c1
  · rw [addC_0]; exact hcnt
  · rw [h16 14 (by omega) (by omega), addC_o (by omega) (by omega)]; exact c3
  · rw [h16 16 (by omega) (by omega), addC_o (by omega) (by omega)]; exact c4
  · rw [h16 17 (by omega) (by omega), addC_o (by omega) (by omega)]; exact c5
  · rw [h16 18 (by omega) (by omega), addC_o (by omega) (by omega)]; exact c6
  · rw [addC_nH] at hi
    rw [h17 17 (by omega) (by omega), h17 18 (by omega) (by omega), h17 19 (by omega) (by omega), addC_o (by omega) (by omega), addC_o (by omega) (by omega), addC_o (by omega) (by omega)]
    exact d1 i hi
  · by_cases e : c = nC D
    · rw [e, hx, hh, hs, ho, ht, addC_13, addC_3, addC_4, addC_5, addC_6]
      exact ⟨rfl, rfl, rfl, rfl, rfl⟩
    · rw [h20 20 c (by omega) (by omega) e, h20 21 c (by omega) (by omega) e, h20 22 c (by omega) (by omega) e, h20 23 c (by omega) (by omega) e, h20 24 c (by omega) (by omega) e, addC_o (by omega) (by omega), addC_o (by omega) (by omega), addC_o (by omega) (by omega), addC_o (by omega) (by omega), addC_o (by omega) (by omega)]
      exact d2 c (by omega)
  · rw [addC_nP] at hp
    rw [h25 25 (by omega) (by omega), h25 26 (by omega) (by omega), h25 27 (by omega) (by omega), h25 28 (by omega) (by omega), addC_o (by omega) (by omega), addC_o (by omega) (by omega), addC_o (by omega) (by omega), addC_o (by omega) (by omega)]
    exact d3 p hp
  · rw [hfl, n0]
    show _ = ((bt (Fb (addC D x h s o t fl)) (nC D) + (if Fb (addC D x h s o t fl) (nC D) = true then 2 ^ (nC D) else 0) : Nat) : Int)
    rw [show Fb (addC D x h s o t fl) (nC D) = decide (fl = 1) from by unfold Fb; rw [addC_11], bt_congr (f := Fb (addC D x h s o t fl)) (g := Fb D) (fun c hc => by unfold Fb; rw [addC_o (by omega) (by omega)])]
  · rw [h15 10 (by omega) (by omega), addC_o (by omega) (by omega)]; exact d5
  · rw [h15 11 (by omega) (by omega), addC_o (by omega) (by omega)]; exact d6
  · rw [h15 12 (by omega) (by omega), addC_o (by omega) (by omega)]; exact d7
theorem CD_addP {m2 : ax_M} {f t mo le : Int} (hd : CD m D) (hv : Vd D) (h17 : ∀ a, 17 ≤ a → a ≤ 24 → m2.1 a = m.1 a) (h16 : ∀ j, j ≠ 14 → m2.1 16 j = m.1 16 j) (hcnt : (m2.1 16 14).toInt = D 0 2 + 1) (h25 : ∀ a j, 25 ≤ a → a ≤ 28 → j ≠ nP D → m2.1 a j = m.1 a j) (hf : (m2.1 25 (nP D)).toInt = f) (ht : (m2.1 26 (nP D)).toInt = t) (hm : (m2.1 27 (nP D)).toInt = mo) (hl : (m2.1 28 (nP D)).toInt = le) (h15 : ∀ j, 10 ≤ j → j ≤ 12 → m2.1 15 j = m.1 15 j) : CD m2 (addP D f t mo le) := by
  obtain ⟨⟨c1, c2, c3, c4, c5, c6⟩, d1, d2, d3, d4, d5, d6, d7⟩ := hd
  have n0 : nP (addP D f t mo le) = nP D + 1 := addP_nP hv.1.2.2.2.2.1
  refine ⟨⟨?_, ?_, ?_, ?_, ?_, ?_⟩, fun i hi => ?_, fun c hc => ?_, fun p hp => ?_, ?_, ?_, ?_, ?_⟩
  · rw [h16 12 (by omega), addP_o (by omega) (by omega)]; exact c1
  · rw [h16 13 (by omega), addP_o (by omega) (by omega)]; exact c2
  · rw [addP_0]; exact hcnt
  · rw [h16 16 (by omega), addP_o (by omega) (by omega)]; exact c4
  · rw [h16 17 (by omega), addP_o (by omega) (by omega)]; exact c5
  · rw [h16 18 (by omega), addP_o (by omega) (by omega)]; exact c6
  · rw [addP_nH] at hi
    rw [h17 17 (by omega) (by omega), h17 18 (by omega) (by omega), h17 19 (by omega) (by omega), addP_o (by omega) (by omega), addP_o (by omega) (by omega), addP_o (by omega) (by omega)]
    exact d1 i hi
  · rw [addP_nC] at hc
    rw [h17 20 (by omega) (by omega), h17 21 (by omega) (by omega), h17 22 (by omega) (by omega), h17 23 (by omega) (by omega), h17 24 (by omega) (by omega), addP_o (by omega) (by omega), addP_o (by omega) (by omega), addP_o (by omega) (by omega), addP_o (by omega) (by omega), addP_o (by omega) (by omega)]
    exact d2 c hc
  · by_cases e : p = nP D
    · rw [e, hf, ht, hm, hl, addP_7, addP_8, addP_9, addP_10]
      exact ⟨rfl, rfl, rfl, rfl⟩
    · rw [h25 25 p (by omega) (by omega) e, h25 26 p (by omega) (by omega) e, h25 27 p (by omega) (by omega) e, h25 28 p (by omega) (by omega) e, addP_o (by omega) (by omega), addP_o (by omega) (by omega), addP_o (by omega) (by omega), addP_o (by omega) (by omega)]
      exact d3 p (by omega)
  · rw [h16 15 (by omega), d4, addP_nC, bt_congr (f := Fb (addP D f t mo le)) (g := Fb D) (fun c _ => by unfold Fb; rw [addP_o (by omega) (by omega)])]
  · rw [h15 10 (by omega) (by omega), addP_o (by omega) (by omega)]; exact d5
  · rw [h15 11 (by omega) (by omega), addP_o (by omega) (by omega)]; exact d6
  · rw [h15 12 (by omega) (by omega), addP_o (by omega) (by omega)]; exact d7
theorem nf_t {f : Nat → Int} {N : Nat} {z : Int} {v : Int32} (h : FndA f N z v.toInt) (hz : v = -1) : nf f N z = true := (nf_neg h).1 (qm1.mp hz)
theorem nf_f {f : Nat → Int} {N : Nat} {z : Int} {v : Int32} (h : FndA f N z v.toInt) (hz : ¬ v = -1) : nf f N z = false := Bool.eq_false_iff.mpr (fun g => hz (qm1.mpr ((nf_neg h).2 g)))
theorem cl_cell {a : Nat} {p0 fl : Int} {l1 : Int32} (h : CO m T n (.ok a)) (hT : Tp T) (hd : CD m D) (hv : Vd D) (hp : (m.1 15 8).toInt = p0) (hl1 : l1 = 0 ∧ decide (fl = 1) = false ∨ l1 = 1 ∧ decide (fl = 1) = true) : Wp (fX3_readCell l1 m) (fun _ m2 => LO m2 T n (lnCell T n D fl p0 a) ∧ m2.1 15 1 = m.1 15 1) := by
  have hc := vd_cast hv
  have k0 := hv.1
  have main : ∀ s1 : Int32, (s1 ≠ 0 ↔ ¬ D 0 1 < 10) → Wp (fX3_readCell_K18 l1 s1 m) (fun _ m2 => LO m2 T n (lnCell T n D fl p0 a) ∧ m2.1 15 1 = m.1 15 1) := by
    intro s1 hs1
    unfold fX3_readCell_K18
    refine wp_bd (wp_mono (c_if h (by decide) (fun _ _ => hp)) ?_)
    rintro _ m2 ⟨⟨h2, _⟩, f2⟩
    have h2 : CO m2 T n (c0s D p0 a) := by
      unfold c0s
      rw [← sIf_congr (x := 2) (p := p0) (r := .ok a) (fun _ _ => hs1)]
      exact h2
    have d2 := CD_FX hd f2
    refine wp_bd (wp_mono (c_name h2 hT (m2.1 16 13) (nC D) (D 13) (by rw [d2.1.2.1]; exact hc.2.1) (by omega) (fun i hi => (d2.2.2.1 i hi).1)) ?_)
    rintro v3 m4 ⟨⟨h4, g4⟩, f4⟩
    have main2 : ∀ s2 : Int32, (∀ b, sName T n (c0s D p0 a) = .ok b → (s2 ≠ 0 ↔ nf (D 13) (nC D) (rv T n (c0s D p0 a)) = false)) → Wp (fX3_readCell_K50 l1 s2 m4) (fun _ m2 => LO m2 T n (lnCell T n D fl p0 a) ∧ m2.1 15 1 = m.1 15 1) := by
      intro s2 hs2
      unfold fX3_readCell_K50
      refine wp_bd (wp_mono (c_if h4 (by decide) (fun b e => (g4 b e).2.2)) ?_)
      rintro _ m6 ⟨⟨h6, e9, _⟩, f6⟩
      have h6 : CO m6 T n (c1s T n D p0 a) := by
        unfold c1s
        rw [← sIf_congr (x := 3) (p := rp T n (c0s D p0 a)) hs2]
        exact h6
      have d6 := CD_FX hd (FX_tr f6 (FX_tr f4 f2))
      refine wp_let (wp_bd (wp_mono (c_name1 h6 hT (m6.1 16 12) (nH D) (D 12) (by rw [d6.1.1]; exact hc.1) (by omega) (fun i hi => (d6.2.1 i hi).1)) ?_))
      rintro v8 m9 ⟨⟨h9, g9⟩, f9⟩
      have main3 : ∀ s3 : Int32, (∀ b, sName T n (c1s T n D p0 a) = .ok b → (s3 ≠ 0 ↔ nf (D 12) (nH D) (rv T n (c1s T n D p0 a)) = true)) → Wp (fX3_readCell_K89 l1 (m6.1 15 9) v8 s3 m9) (fun _ m2 => LO m2 T n (lnCell T n D fl p0 a) ∧ m2.1 15 1 = m.1 15 1) := by
        intro s3 hs3
        unfold fX3_readCell_K89 fX3_readCell_K227
        refine wp_bd (wp_mono (c_if h9 (by decide) (fun b e => (g9 b e).2.2)) ?_)
        rintro _ m11 ⟨⟨h11, _⟩, f11⟩
        have h11 : CO m11 T n (c2s T n D p0 a) := by
          unfold c2s
          rw [← sIf_congr (x := 4) (p := rp T n (c1s T n D p0 a)) hs3]
          exact h11
        refine wp_bd (wp_mono (c_num2 h11 hT 0 99 rfl rfl (fun _ _ => by decide)) ?_)
        rintro v12 m13 ⟨⟨h13, v13⟩, f13⟩
        refine wp_bd (wp_mono (c_num2 h13 hT 0 99 rfl rfl (fun _ _ => by decide)) ?_)
        rintro v14 m15 ⟨⟨h15, v15⟩, f15⟩
        refine wp_bd (wp_mono (c_num2 h15 hT 0 99 rfl rfl (fun _ _ => by decide)) ?_)
        rintro v16 m17 ⟨⟨h17, v17⟩, f17⟩
        refine wp_bd (wp_mono (c_stop h17 hT) ?_)
        rintro _ m19 ⟨h19, f19⟩
        have ff : FX m19 m := FX_tr f19 (FX_tr f17 (FX_tr f15 (FX_tr f13 (FX_tr f11 (FX_tr f9 (FX_tr f6 (FX_tr f4 f2)))))))
        have dd := CD_FX hd ff
        refine wp_if (fun z0 => ?_) (fun z0 => ?_)
        · obtain ⟨b, eb⟩ := CO_zero h19 z0
          obtain ⟨b2, i1, _⟩ := sStop_inv eb
          obtain ⟨b3, i2, _⟩ := sNum_inv i1
          obtain ⟨b4, i3, _⟩ := sNum_inv i2
          obtain ⟨b5, i4, _⟩ := sNum_inv i3
          obtain ⟨i5, _⟩ := sIf_inv i4
          obtain ⟨b6, i6, _⟩ := sName_inv i5
          obtain ⟨i7, _⟩ := sIf_inv i6
          obtain ⟨b7, i8, _⟩ := sName_inv i7
          obtain ⟨_, i9⟩ := sIf_inv i8
          have hlt : D 0 1 < 10 := Classical.not_not.mp i9
          have x7 : (m6.1 15 9).toInt = rv T n (c0s D p0 a) := by rw [e9]; exact (g4 _ i7).2.1
          have x8 : v8.toInt = ix (D 12) (nH D) (rv T n (c1s T n D p0 a)) := (ix_eq (g9 _ i5).1).symm
          have x12 := v13 _ i3
          have x14 := v15 _ i2
          have x16 := v17 _ i1
          have ek : (m19.1 16 13).toInt = (nC D : Int) := by rw [dd.1.2.1]; exact hc.2.1
          refine wp_let (wp_wr (nC D) ek (by omega) (wp_wr (nC D) ek (by omega) (wp_wr (nC D) ek (by omega) (wp_wr (nC D) ek (by omega) (wp_wr (nC D) ek (by omega) (wp_let (wp_let (wp_ret ⟨?_, ?_⟩))))))))
          · unfold lnCell
            rw [eb] at h19 ⊢
            refine ⟨CO_wi (CO_wi (CO_wi (CO_wi (CO_wi (CO_wi (CO_wi h19 (by decide) (fun g => absurd g (by decide))) (by decide) (fun g => absurd g (by decide))) (by decide) (fun g => absurd g (by decide))) (by decide) (fun g => absurd g (by decide))) (by decide) (fun g => absurd g (by decide))) (by decide) (fun g => absurd g (by decide))) (by decide) (fun g => absurd g (by decide)), ?_⟩
            refine CD_addC dd hv (fun x h1 h2 => ?_) (fun x h1 h2 => ?_) (fun j hj hj2 => ?_) ?_ ?_ (fun x j h1 h2 hj => ?_) ?_ ?_ ?_ ?_ ?_ (fun j h1 h2 => ?_)
            · rw [wi_ne (by omega), wi_ne (by omega), wi_ne (by omega), wi_ne (by omega), wi_ne (by omega), wi_ne (by omega), wi_ne (by omega)]
            · rw [wi_ne (by omega), wi_ne (by omega), wi_ne (by omega), wi_ne (by omega), wi_ne (by omega), wi_ne (by omega), wi_ne (by omega)]
            · rw [wi_other hj, wi_other hj2, wi_ne (by decide), wi_ne (by decide), wi_ne (by decide), wi_ne (by decide), wi_ne (by decide)]
            · rw [wi_self, wi_other (by decide), wi_ne (by decide), wi_ne (by decide), wi_ne (by decide), wi_ne (by decide), wi_ne (by decide), inc ek (by omega)]
              omega
            · rw [wi_other (by decide), wi_self, wi_ne (by decide), wi_ne (by decide), wi_ne (by decide), wi_ne (by decide), wi_ne (by decide)]
              exact bt_orl dd.2.2.2.2.1 ek (by omega) hl1
            · rw [wi_ne (by omega), wi_ne (by omega), wi_other hj, wi_other hj, wi_other hj, wi_other hj, wi_other hj]
            · rw [wi_ne (by decide), wi_ne (by decide), wi_ne (by decide), wi_ne (by decide), wi_ne (by decide), wi_ne (by decide), wi_self]; exact x7
            · rw [wi_ne (by decide), wi_ne (by decide), wi_ne (by decide), wi_ne (by decide), wi_ne (by decide), wi_self]; exact x8
            · rw [wi_ne (by decide), wi_ne (by decide), wi_ne (by decide), wi_ne (by decide), wi_self]; exact x12
            · rw [wi_ne (by decide), wi_ne (by decide), wi_ne (by decide), wi_self]; exact x14
            · rw [wi_ne (by decide), wi_ne (by decide), wi_self]; exact x16
            · rw [wi_ne (by decide), wi_ne (by decide), wi_ne (by decide), wi_ne (by decide), wi_ne (by decide), wi_ne (by decide), wi_ne (by decide)]
          · rw [wi_ne (by decide), wi_ne (by decide), wi_ne (by decide), wi_ne (by decide), wi_ne (by decide), wi_ne (by decide), wi_ne (by decide), ff.2.1]
        · obtain ⟨e, ee⟩ := CO_nz h19 z0
          refine wp_ret ⟨?_, ff.2.1⟩
          unfold lnCell
          rw [ee] at h19 ⊢
          exact h19
      refine wp_if (fun z => main3 1 (fun b e => ?_)) (fun z => main3 0 (fun b e => ?_))
      · exact ⟨fun _ => nf_t (g9 b e).1 z, fun _ => by decide⟩
      · rw [nf_f (g9 b e).1 z]
        exact ⟨fun g => absurd rfl g, fun g => by cases g⟩
    refine wp_if (fun z => main2 0 (fun b e => ?_)) (fun z => main2 1 (fun b e => ?_))
    · rw [nf_t (g4 b e).1 z]
      exact ⟨fun g => absurd rfl g, fun g => by cases g⟩
    · exact ⟨fun _ => nf_f (g4 b e).1 z, fun _ => by decide⟩
  unfold fX3_readCell
  have e4 : Int32.toInt 10 = 10 := rfl
  refine wp_if (fun z => main 0 ?_) (fun z => main 1 ?_)
  · rw [t_lt, hd.1.2.1, e4] at z
    exact ⟨fun g => absurd rfl g, fun g => absurd z g⟩
  · rw [t_lt, hd.1.2.1, e4] at z
    exact ⟨fun _ => z, fun _ => by decide⟩
theorem c_between (hd : CD m D) (hv : Vd D) (l1 l2 : Int32) : Wp (fX1_pathBetween l1 l2 m) (fun v m2 => m2 = m ∧ (v = -1 ↔ ¬ tp D l1.toInt l2.toInt)) := by
  have hc := vd_cast hv
  have k0 := hv.1
  unfold fX1_pathBetween
  refine lp_find (nP D) (fun i => D 7 i = l1.toInt ∧ D 8 i = l2.toInt) (by omega) (fun rc l i hl hi hno hgo => ?_) (fun rc l hl hno => ?_)
  · unfold fX1_pathBetween_B2 fX1_pathBetween_K32
    rw [if_neg (by rw [t_le, hl, hd.1.2.2.1]; omega)]
    have d := hd.2.2.2.1 i hi
    refine wp_rd i hl (by omega) (wp_if (fun c => wp_rd i hl (by omega) (wp_if (fun c2 => wp_ret ⟨rfl, ?_⟩) (fun c2 => hgo (fun g => c2 ?_) _ (inc hl (by omega))))) (fun c => hgo (fun g => c ?_) _ (inc hl (by omega))))
    · have ht : tp D l1.toInt l2.toInt := ⟨i, hi, by rw [← d.1, c], by rw [← d.2.1, c2]⟩
      refine ⟨fun g => ?_, fun g => absurd ht g⟩
      have := qm1.mp g
      omega
    · rw [t_eq, d.2.1]; exact g.2
    · rw [t_eq, d.1]; exact g.1
  · unfold fX1_pathBetween_B2
    rw [if_pos (by rw [t_le, hl, hd.1.2.2.1]; omega)]
    exact wp_ret ⟨rfl, fun _ => fun ⟨i, hi, g⟩ => hno i hi g, fun _ => rfl⟩
theorem sNum_u {l u1 u2 : Int} (h : ∀ a, r = .ok a → u1 = u2) : sNum T n l u1 r = sNum T n l u2 r := by
  cases r with
  | error e => rfl
  | ok a => rw [h a rfl]
theorem cl_path {a : Nat} {p0 : Int} (h : CO m T n (.ok a)) (hT : Tp T) (hd : CD m D) (hv : Vd D) (hp : (m.1 15 8).toInt = p0) : Wp (fX3_readPath m) (fun _ m2 => LO m2 T n (lnPath T n D p0 a) ∧ m2.1 15 1 = m.1 15 1) := by
  have hc := vd_cast hv
  have k0 := hv.1
  have main : ∀ s1 : Int32, (s1 ≠ 0 ↔ ¬ D 0 2 < 24) → Wp (fX3_readPath_K18 s1 m) (fun _ m2 => LO m2 T n (lnPath T n D p0 a) ∧ m2.1 15 1 = m.1 15 1) := by
    intro s1 hs1
    unfold fX3_readPath_K18
    refine wp_bd (wp_mono (c_if h (by decide) (fun _ _ => hp)) ?_)
    rintro _ m2 ⟨⟨h2, _⟩, f2⟩
    have h2 : CO m2 T n (w0s D p0 a) := by
      unfold w0s
      rw [← sIf_congr (x := 2) (p := p0) (r := .ok a) (fun _ _ => hs1)]
      exact h2
    have d2 := CD_FX hd f2
    refine wp_bd (wp_mono (c_name h2 hT (m2.1 16 13) (nC D) (D 13) (by rw [d2.1.2.1]; exact hc.2.1) (by omega) (fun i hi => (d2.2.2.1 i hi).1)) ?_)
    rintro v3 m4 ⟨⟨h4, g4⟩, f4⟩
    have main2 : ∀ s2 : Int32, (∀ b, sName T n (w0s D p0 a) = .ok b → (s2 ≠ 0 ↔ nf (D 13) (nC D) (rv T n (w0s D p0 a)) = true)) → Wp (fX3_readPath_K52 v3 s2 m4) (fun _ m2 => LO m2 T n (lnPath T n D p0 a) ∧ m2.1 15 1 = m.1 15 1) := by
      intro s2 hs2
      unfold fX3_readPath_K52
      refine wp_bd (wp_mono (c_if h4 (by decide) (fun b e => (g4 b e).2.2)) ?_)
      rintro _ m6 ⟨⟨h6, _⟩, f6⟩
      have h6 : CO m6 T n (w1s T n D p0 a) := by
        unfold w1s
        rw [← sIf_congr (x := 4) (p := rp T n (w0s D p0 a)) hs2]
        exact h6
      have d6 := CD_FX hd (FX_tr f6 (FX_tr f4 f2))
      refine wp_bd (wp_mono (c_name h6 hT (m6.1 16 13) (nC D) (D 13) (by rw [d6.1.2.1]; exact hc.2.1) (by omega) (fun i hi => (d6.2.2.1 i hi).1)) ?_)
      rintro v7 m8 ⟨⟨h8, g8⟩, f8⟩
      have main3 : ∀ s3 : Int32, (∀ b, sName T n (w1s T n D p0 a) = .ok b → (s3 ≠ 0 ↔ nf (D 13) (nC D) (rv T n (w1s T n D p0 a)) = true)) → Wp (fX3_readPath_K86 v3 v7 s3 m8) (fun _ m2 => LO m2 T n (lnPath T n D p0 a) ∧ m2.1 15 1 = m.1 15 1) := by
        intro s3 hs3
        unfold fX3_readPath_K86
        refine wp_bd (wp_mono (c_if h8 (by decide) (fun b e => (g8 b e).2.2)) ?_)
        rintro _ m10 ⟨⟨h10, _, e8⟩, f10⟩
        have h10 : CO m10 T n (w2s T n D p0 a) := by
          unfold w2s
          rw [← sIf_congr (x := 4) (p := rp T n (w1s T n D p0 a)) hs3]
          exact h10
        have ixs : ∀ b, w2s T n D p0 a = .ok b → ix (D 13) (nC D) (rv T n (w0s D p0 a)) = v3.toInt ∧ ix (D 13) (nC D) (rv T n (w1s T n D p0 a)) = v7.toInt ∧ (m10.1 15 8).toInt = rp T n (w1s T n D p0 a) := by
          intro b e
          obtain ⟨i1, _⟩ := sIf_inv e
          obtain ⟨b2, i2, _⟩ := sName_inv i1
          obtain ⟨i3, _⟩ := sIf_inv i2
          exact ⟨ix_eq (g4 _ i3).1, ix_eq (g8 _ i1).1, by rw [e8]; exact (g8 _ i1).2.2⟩
        have d10 := CD_FX hd (FX_tr f10 (FX_tr f8 (FX_tr f6 (FX_tr f4 f2))))
        refine wp_bd (wp_mono (c_between d10 hv v3 v7) ?_)
        rintro v11 m12 ⟨e12, g11⟩
        rw [e12]
        have main4 : ∀ s4 : Int32, (s4 ≠ 0 ↔ tp D v3.toInt v7.toInt) → Wp (fX3_readPath_K109 v3 v7 s4 m10) (fun _ m2 => LO m2 T n (lnPath T n D p0 a) ∧ m2.1 15 1 = m.1 15 1) := by
          intro s4 hs4
          unfold fX3_readPath_K109 fX3_readPath_K208
          refine wp_bd (wp_mono (c_if h10 (by decide) (fun b e => (ixs b e).2.2)) ?_)
          rintro _ m14 ⟨⟨h14, _⟩, f14⟩
          have h14 : CO m14 T n (w3s T n D p0 a) := by
            unfold w3s
            rw [← sIf_congr (b := (s4 ≠ 0)) (x := 3) (p := rp T n (w1s T n D p0 a)) (fun b e => by rw [(ixs b e).1, (ixs b e).2.1]; exact hs4)]
            exact h14
          refine wp_bd (wp_mono (c_num2 h14 hT 0 999 rfl rfl (fun _ _ => by decide)) ?_)
          rintro v15 m16 ⟨⟨h16, v16⟩, f16⟩
          refine wp_bd (wp_mono (c_num h16 hT 0 v15 (fun b e => ?_)) ?_)
          · obtain ⟨_, _, _, i1, _⟩ := sNum_inv e
            rw [v16 b e]
            omega
          rintro v17 m18 ⟨⟨h18, v18⟩, f18⟩
          have hu : sNum T n (Int32.toInt 0) v15.toInt (sNum T n 0 999 (w3s T n D p0 a)) = sNum T n 0 (rv T n (w3s T n D p0 a)) (sNum T n 0 999 (w3s T n D p0 a)) := sNum_u (fun b e => v16 b e)
          rw [hu] at h18 v18
          refine wp_bd (wp_mono (c_stop h18 hT) ?_)
          rintro _ m20 ⟨h20, f20⟩
          have ff : FX m20 m := FX_tr f20 (FX_tr f18 (FX_tr f16 (FX_tr f14 (FX_tr f10 (FX_tr f8 (FX_tr f6 (FX_tr f4 f2)))))))
          have dd := CD_FX hd ff
          refine wp_if (fun z0 => ?_) (fun z0 => ?_)
          · obtain ⟨b, eb⟩ := CO_zero h20 z0
            obtain ⟨b2, i1, _⟩ := sStop_inv eb
            obtain ⟨b3, i2, _⟩ := sNum_inv i1
            obtain ⟨b4, i3, _⟩ := sNum_inv i2
            obtain ⟨i4, _⟩ := sIf_inv i3
            obtain ⟨y3, y7, _⟩ := ixs _ i4
            obtain ⟨i5, _⟩ := sIf_inv i4
            obtain ⟨b6, i6, _⟩ := sName_inv i5
            obtain ⟨i7, _⟩ := sIf_inv i6
            obtain ⟨b7, i8, _⟩ := sName_inv i7
            obtain ⟨_, i9⟩ := sIf_inv i8
            have hlt : D 0 2 < 24 := Classical.not_not.mp i9
            have x15 := v16 _ i2
            have x17 := v18 _ i1
            have ek : (m20.1 16 14).toInt = (nP D : Int) := by rw [dd.1.2.2.1]; exact hc.2.2
            refine wp_let (wp_wr (nP D) ek (by omega) (wp_wr (nP D) ek (by omega) (wp_wr (nP D) ek (by omega) (wp_wr (nP D) ek (by omega) (wp_let (wp_ret ⟨?_, ?_⟩))))))
            · unfold lnPath
              rw [eb] at h20 ⊢
              refine ⟨CO_wi (CO_wi (CO_wi (CO_wi (CO_wi h20 (by decide) (fun g => absurd g (by decide))) (by decide) (fun g => absurd g (by decide))) (by decide) (fun g => absurd g (by decide))) (by decide) (fun g => absurd g (by decide))) (by decide) (fun g => absurd g (by decide)), ?_⟩
              refine CD_addP dd hv (fun x h1 h2 => ?_) (fun j hj => ?_) ?_ (fun x j h1 h2 hj => ?_) ?_ ?_ ?_ ?_ (fun j h1 h2 => ?_)
              · rw [wi_ne (by omega), wi_ne (by omega), wi_ne (by omega), wi_ne (by omega), wi_ne (by omega)]
              · rw [wi_other hj, wi_ne (by decide), wi_ne (by decide), wi_ne (by decide), wi_ne (by decide)]
              · rw [wi_self, wi_ne (by decide), wi_ne (by decide), wi_ne (by decide), wi_ne (by decide), inc ek (by omega)]
                omega
              · rw [wi_ne (by omega), wi_other hj, wi_other hj, wi_other hj, wi_other hj]
              · rw [wi_ne (by decide), wi_ne (by decide), wi_ne (by decide), wi_ne (by decide), wi_self]; exact y3.symm
              · rw [wi_ne (by decide), wi_ne (by decide), wi_ne (by decide), wi_self]; exact y7.symm
              · rw [wi_ne (by decide), wi_ne (by decide), wi_self]; exact x15
              · rw [wi_ne (by decide), wi_self]; exact x17
              · rw [wi_ne (by decide), wi_ne (by decide), wi_ne (by decide), wi_ne (by decide), wi_ne (by decide)]
            · rw [wi_ne (by decide), wi_ne (by decide), wi_ne (by decide), wi_ne (by decide), wi_ne (by decide), ff.2.1]
          · obtain ⟨e, ee⟩ := CO_nz h20 z0
            refine wp_ret ⟨?_, ff.2.1⟩
            unfold lnPath
            rw [ee] at h20 ⊢
            exact h20
        refine wp_if (fun z => main4 0 ?_) (fun z => main4 1 ?_)
        · exact ⟨fun g => absurd rfl g, fun g => absurd g (g11.1 z)⟩
        · exact ⟨fun _ => Classical.not_not.mp (fun g => z (g11.2 g)), fun _ => by decide⟩
      refine wp_if (fun z => main3 1 (fun b e => ?_)) (fun z => main3 0 (fun b e => ?_))
      · exact ⟨fun _ => nf_t (g8 b e).1 z, fun _ => by decide⟩
      · rw [nf_f (g8 b e).1 z]
        exact ⟨fun g => absurd rfl g, fun g => by cases g⟩
    refine wp_if (fun z => main2 1 (fun b e => ?_)) (fun z => main2 0 (fun b e => ?_))
    · exact ⟨fun _ => nf_t (g4 b e).1 z, fun _ => by decide⟩
    · rw [nf_f (g4 b e).1 z]
      exact ⟨fun g => absurd rfl g, fun g => by cases g⟩
  unfold fX3_readPath
  have e4 : Int32.toInt 24 = 24 := rfl
  refine wp_if (fun z => main 0 ?_) (fun z => main 1 ?_)
  · rw [t_lt, hd.1.2.2.1, e4] at z
    exact ⟨fun g => absurd rfl g, fun g => absurd z g⟩
  · rw [t_lt, hd.1.2.2.1, e4] at z
    exact ⟨fun _ => z, fun _ => by decide⟩
end CLK
