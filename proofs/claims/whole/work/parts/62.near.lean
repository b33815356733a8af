/-! near, nearest, from: both sides -/
def rkn (ν : Nv) (p : Nat) : Int := sm (fun o => on (nr ν o < nr ν p ∨ (nr ν o = nr ν p ∧ o < p))) (nP ν)
def AnsNt (ν : Nv) (k r : Int) : Prop := (k < 0 ∧ r = -1) ∨ (0 ≤ k ∧ (bd ν (ν 0 3) = false ∨ ν 0 2 ≤ k) ∧ r = -2) ∨ (0 ≤ k ∧ k < ν 0 2 ∧ bd ν (ν 0 3) = true ∧ ∃ q, FndA (rkn ν) (nP ν) k q ∧ r = if q = -1 then -2 else q)
theorem ansNt_unique {ν : Nv} {k r s : Int} (h : AnsNt ν k r) (h2 : AnsNt ν k s) : r = s := by
  rcases h with ⟨a1, a2⟩ | ⟨a1, a2, a3⟩ | ⟨a1, a2, a3, q, a4, a5⟩ <;> rcases h2 with ⟨b1, b2⟩ | ⟨b1, b2, b3⟩ | ⟨b1, b2, b3, q2, b4, b5⟩
  · omega
  · omega
  · omega
  · omega
  · omega
  · rcases a2 with a2 | a2
    · rw [a2] at b3; cases b3
    · omega
  · omega
  · rcases b2 with b2 | b2
    · rw [b2] at a3; cases a3
    · omega
  · have := fndA_unique a4 b4
    rw [a5, b5, this]
def LtA (ν : Nv) (c : Nat) (r : Int) : Prop := (r = -1 ∧ ∀ p, p < nP ν → To ν p ≠ c) ∨ ∃ p : Nat, p < nP ν ∧ r = (p : Int) ∧ To ν p = c ∧ vv ν p = CC ν (ν 0 3) c ∧ ∀ q, q < p → ¬ (To ν q = c ∧ vv ν q = CC ν (ν 0 3) c)
theorem ltA_unique {ν : Nv} {c : Nat} {r s : Int} (h : LtA ν c r) (h2 : LtA ν c s) : r = s := by
  rcases h with ⟨a1, a2⟩ | ⟨p, a1, a2, a3, a4, a5⟩ <;> rcases h2 with ⟨b1, b2⟩ | ⟨q, b1, b2, b3, b4, b5⟩
  · omega
  · exact absurd b3 (a2 q b1)
  · exact absurd a3 (b2 p a1)
  · by_cases h1 : p < q
    · exact absurd ⟨a3, a4⟩ (b5 p h1)
    · by_cases h2 : q < p
      · exact absurd ⟨b3, b4⟩ (a5 q h2)
      · omega
def AnsFr (ν : Nv) (p r : Int) : Prop := (¬ (0 ≤ p ∧ p < ν 0 1) ∧ r = -1) ∨ ((0 ≤ p ∧ p < ν 0 1) ∧ bd ν (ν 0 3) = false ∧ r = -2) ∨ ((0 ≤ p ∧ p < ν 0 1) ∧ bd ν (ν 0 3) = true ∧ ∃ q, LtA ν p.toNat q ∧ r = if q = -1 then -2 else q)
theorem ansFr_unique {ν : Nv} {p r s : Int} (h : AnsFr ν p r) (h2 : AnsFr ν p s) : r = s := by
  rcases h with ⟨a1, a2⟩ | ⟨a1, a2, a3⟩ | ⟨a1, a2, q, a4, a5⟩ <;> rcases h2 with ⟨b1, b2⟩ | ⟨b1, b2, b3⟩ | ⟨b1, b2, q2, b4, b5⟩
  · omega
  · exact absurd b1 a1
  · exact absurd b1 a1
  · exact absurd a1 b1
  · omega
  · rw [a2] at b2; cases b2
  · exact absurd a1 b1
  · rw [a2] at b2; cases b2
  · have := ltA_unique a4 b4
    rw [a5, b5, this]
section NEA
variable {μ : ax_M} {ν : Nv}
theorem vv_bd (hv : Vd ν) (p : Nat) (hp : p < nP ν) : -640000 ≤ vv ν p ∧ vv ν p ≤ 900000 := by
  have h0 := hv.1
  have a := ll_bd hv (T := ν 0 3) (by omega) (by omega) (Fr ν p)
  have b := wt_bd hv p hp (ν 0 3) (by omega) (by omega)
  unfold vv
  omega
theorem sX5_comesBy (h : CN μ ν) (hv : Vd ν) (ht : TOk μ ν) (hb : bd ν (ν 0 3) = true) (p : Int32) (k : Nat) (hp : p.toInt = (k : Nat)) (hk : k < nP ν) : Rd (fX5_comesBy p μ) μ (vv ν k) := by
  obtain ⟨a1, a2, a3, a4, a5, a6⟩ := vd_path hv k hk
  obtain ⟨t1, t2, t3⟩ := tok_get ht hb
  have e := h.2.2.2.1 k hk
  have b := vv_bd hv k hk
  have e1 := t1 _ a2
  have e2 := t3 k hk
  unfold fX5_comesBy
  refine rd_wp (wp_rd k hp a1 (wp_rd (Fr ν k) (by rw [e.1, a4]) (by omega) (wp_rd k hp a1 (wp_ret ⟨?_, rfl⟩))))
  rw [t_add, e1, e2]
  unfold vv at b ⊢
  omega
theorem sX5_roomBy (h : CN μ ν) (hv : Vd ν) (ht : TOk μ ν) (hb : bd ν (ν 0 3) = true) (p : Int32) (k : Nat) (hp : p.toInt = (k : Nat)) (hk : k < nP ν) : Rd (fX5_roomBy p μ) μ (nr ν k) := by
  obtain ⟨a1, a2, a3, a4, a5, a6⟩ := vd_path hv k hk
  have e := h.2.2.2.1 k hk
  have b := vv_bd hv k hk
  unfold fX5_roomBy
  refine rd_wp (wp_rd k hp a1 (wp_rdf (sX5_comesBy h hv ht hb p k hp hk) (fun r2 e2 => wp_rdf (sX1_roomBy h hv _ r2 (To ν k) (by rw [e.2.1, a5]) a3 (by omega) (by omega)) (fun r4 e4 => wp_ret ⟨?_, rfl⟩))))
  rw [e4, e2]
  rfl
theorem sX8_near (h : CN μ ν) (hv : Vd ν) (ht : TIn μ ν) (p : Int32) : Wp (fX8_near p μ) (fun r m => r.toInt = nrv ν p.toInt ∧ CN m ν ∧ TIn m ν) := by
  unfold fX8_near fX8_near_K21
  refine wp_rdf (sX1_hasPath h p) (fun r e => wp_if (fun c => wp_ret ⟨?_, h, ht⟩) (fun c => ?_))
  · unfold nrv; rw [if_neg (fun g => not_of e c g.1)]; rfl
  · have hin := yes_of e c
    obtain ⟨k, hk, ek⟩ := in_nat (N := nP ν) hin rfl
    refine isF h hv ht (fun r m hr hb hm hT hI => ?_) (fun r m hr hb hm hI => ?_)
    · rw [if_pos hr]
      refine wp_rdf (sX5_roomBy hm hv hT hb p k ek hk) (fun r1 e1 => wp_ret ⟨?_, hm, hI⟩)
      rw [t_64, e1]
      have hh : (0 ≤ p.toInt ∧ p.toInt < ν 0 2) ∧ bd ν (ν 0 3) = true := ⟨hin, hb⟩
      unfold nrv; rw [if_pos hh, ek, tn]
    · rw [if_neg hr]
      refine wp_ret ⟨?_, hm, hI⟩
      unfold nrv; rw [if_neg (fun g => by have := g.2; rw [hb] at this; cases this)]; rfl
theorem sX9_nearOf (h : RN μ ν) (hv : Vd ν) (hL : ∀ c, c < nC ν → (μ.2 76 c).toInt = LL ν (ν 0 3) c ∧ (μ.2 77 c).toInt = CC ν (ν 0 3) c) (p : Int32) (k : Nat) (hp : p.toInt = (k : Nat)) (hk : k < nP ν) : Rd6 (fX9_nearOf p μ) μ (nr ν k) := by
  obtain ⟨a1, a2, a3, a4, a5, a6⟩ := vd_path hv k hk
  have e := h.2.2.2 k hk
  have b := vv_bd hv k hk
  have lb := lc_bd hv _ a2
  have e1 := (hL _ a2).1
  have e71 : (μ.1 71 k).toInt = (To ν k : Nat) := by rw [e.2.1, a5]
  have z0 : Int64.toInt 0 = 0 := rfl
  unfold fX9_nearOf fX9_nearOf_K30
  refine rd6_wp (wp_rd k hp (by omega) (wp_rd6f (sX9_comesBy_1 h hv p k hp hk (by omega)) (fun r2 e2 => ?_)))
  have e2 : r2.toInt = vv ν k := by rw [e2, e1]; rfl
  refine wp_if (fun c => wp_rd6f (sX9_roomOf h hv _ _ _ (To ν k) e71 a3 (by omega) (by omega) (by omega) (by omega)) (fun r4 e4 => wp_ret ⟨?_, rfl⟩)) (fun c => wp_rd6f (sX9_roomOf h hv _ _ _ (To ν k) e71 a3 (by omega) (by omega) (by omega) (by omega)) (fun r4 e4 => wp_ret ⟨?_, rfl⟩))
  · rw [cmp_ge, e2, z0] at c
    rw [e4, e2]
    unfold nr
    rw [if_neg (show ¬ vv ν k < 0 by omega)]
  · rw [cmp_ge, e2, z0] at c
    rw [e4, e2, z0]
    unfold nr
    rw [if_pos (show vv ν k < 0 by omega)]
theorem sX9_near (h0 : RN μ ν) (hv : Vd ν) (p : Int32) : Wp (fX9_near p μ) (fun r m => r.toInt = nrv ν p.toInt ∧ RN m ν) := by
  have h : RN (ax_wi μ 57 0 0) ν := RN_wi57 h0
  unfold fX9_near fX9_near_K39
  refine wp_let (wp_rdf (sX9_isPath h p) (fun r e => wp_if (fun c => wp_ret ⟨?_, h⟩) (fun c => ?_)))
  · unfold nrv; rw [if_neg (fun g => not_of e c g.1)]; rfl
  · have hin := yes_of e c
    obtain ⟨k, hk, ek⟩ := in_nat (N := nP ν) hin rfl
    refine setS h hv (fun r m hr hb hm hL => ?_) (fun r m hr hb hm => ?_)
    · rw [if_pos hr]
      refine wp_rd6f (sX9_nearOf hm hv hL p k ek hk) (fun r1 e1 => wp_ret ⟨?_, hm⟩)
      have hh : (0 ≤ p.toInt ∧ p.toInt < ν 0 2) ∧ bd ν (ν 0 3) = true := ⟨hin, hb⟩
      rw [e1]
      unfold nrv; rw [if_pos hh, ek, tn]
    · rw [if_neg hr]
      refine wp_ret ⟨?_, hm⟩
      unfold nrv; rw [if_neg (fun g => by have := g.2; rw [hb] at this; cases this)]; rfl
theorem nr_bd (hv : Vd ν) (p : Nat) (hp : p < nP ν) : -10000000 ≤ nr ν p ∧ nr ν p ≤ 10000000 := by
  have h0 := hv.1
  have b := vv_bd hv p hp
  have l := lm_bd hv (T := ν 0 3) (by omega) (by omega) _ (vd_path hv p hp).2.2.1
  unfold nr
  split
  · omega
  · split <;> omega
theorem sX8_nearest (h : CN μ ν) (hv : Vd ν) (ht : TIn μ ν) (k : Int32) : Wp (fX8_nearest k μ) (fun r m => AnsNt ν k.toInt r.toInt ∧ CN m ν ∧ TIn m ν) := by
  have hn := vd_nums hv
  have hc := vd_cast hv
  have z0 : Int32.toInt 0 = 0 := rfl
  unfold fX8_nearest fX8_nearest_K27
  refine wp_if (fun c => ?_) (fun c => wp_ret ⟨Or.inl ⟨?_, rfl⟩, h, ht⟩)
  · rw [t_le, z0] at c
    refine isF h hv ht (fun r m hr hb hm hT hI => ?_) (fun r m hr hb hm hI => ?_)
    · rw [if_pos hr]
      have en : (m.1 2 14).toInt = ν 0 2 := hm.1.2.2.1
      refine wp_if (fun c2 => ?_) (fun c2 => wp_ret ⟨Or.inr (Or.inl ⟨c, Or.inr ?_, rfl⟩), hm, hI⟩)
      · rw [t_lt, en] at c2
        have key : Wp (fX5_pathByRoom k m) (fun r m2 => (∃ q, FndA (rkn ν) (nP ν) k.toInt q ∧ r.toInt = if q = -1 then -2 else q) ∧ CN m2 ν ∧ TIn m2 ν) := by
          unfold fX5_pathByRoom
          refine wp_lp1 (fun j (l : Int32) m2 => ∃ i : Nat, l.toInt = (i : Int) ∧ i ≤ nP ν ∧ j = nP ν - i ∧ (∀ a, a ≠ 34 → m2.1 a = m.1 a) ∧ ∀ p, p < i → (m2.1 34 p).toInt = nr ν p) ax_FU ?_ (nP ν) (by unfold ax_FU; omega) ⟨0, rfl, by omega, rfl, fun _ _ => rfl, fun p hp => by omega⟩
          rintro j rc hrc l m2 ⟨i, hl, hi, hj, kx, hw⟩
          have hm2 : CN m2 ν := CN_keep hm (fun a _ _ => kx a (by omega))
          have hT2 : TOk m2 ν := TOk_keep hT (by rw [kx 32 (by omega)]) (kx 35 (by omega)) (kx 36 (by omega)) (kx 33 (by omega))
          have hI2 : TIn m2 ν := by
            rcases hI with g | ⟨g, -⟩
            · exact Or.inl (by rw [kx 32 (by omega)]; exact g)
            · exact Or.inr ⟨by rw [kx 32 (by omega)]; exact g, hT2⟩
          have en2 : (m2.1 2 14).toInt = ν 0 2 := hm2.1.2.2.1
          unfold fX5_pathByRoom_B2
          refine wp_if (fun c3 => ?_) (fun c3 => ?_)
          · rw [t_le, en2, hl] at c3
            have hw : ∀ p, p < nP ν → (m2.1 34 p).toInt = nr ν p := fun p hp => hw p (by omega)
            refine lp_find (nP ν) (fun p => rkn ν p = k.toInt) (by omega) (fun rc1 l1 p hl1 hp hno hgo => ?_) (fun rc1 l1 hl1 hno => ?_)
            · unfold fX5_pathByRoom_B32
              rw [if_neg (by rw [t_le, en2, hl1]; omega)]
              refine lp_sum (nP ν) (fun o => on (nr ν o < nr ν p ∨ (nr ν o = nr ν p ∧ o < p))) (fun _ _ => on_bd _) (by omega) (fun rc2 a l2 o hl2 ho a0 a1 hgo2 => ?_) (fun rc2 a l2 hl2 ha => ?_)
              · unfold fX5_pathByRoom_B48 fX5_pathByRoom_K98 fX5_pathByRoom_K101
                rw [if_neg (by rw [t_le, en2, hl2]; omega)]
                have w1 := hw o ho
                have w2 := hw p hp
                refine wp_rd o hl2 (by omega) (wp_rd p hl1 (by omega) (wp_if (fun c4 => hgo2 _ _ ?_ (inc hl2 (by omega))) (fun c4 => wp_rd o hl2 (by omega) (wp_rd p hl1 (by omega) (wp_if (fun c5 => wp_if (fun c6 => hgo2 _ _ ?_ (inc hl2 (by omega))) (fun c6 => hgo2 _ _ ?_ (inc hl2 (by omega)))) (fun c5 => hgo2 _ _ ?_ (inc hl2 (by omega))))))))
                · rw [t_lt, w1, w2] at c4
                  rw [add1 a0 a1, on_t (Or.inl c4)]
                · rw [t_eq, w1, w2] at c5
                  rw [t_le, hl1, hl2] at c6
                  rw [on_f (by omega)]; omega
                · rw [t_eq, w1, w2] at c5
                  rw [t_le, hl1, hl2] at c6
                  rw [add1 a0 a1, on_t (Or.inr ⟨c5, by omega⟩)]
                · rw [t_lt, w1, w2] at c4
                  rw [t_eq, w1, w2] at c5
                  rw [on_f (by omega)]; omega
              · unfold fX5_pathByRoom_B48
                rw [if_pos (by rw [t_le, en2, hl2]; omega)]
                have ha : a.toInt = rkn ν p := ha
                refine wp_if (fun c4 => wp_ret ⟨⟨(p : Int), Or.inr ⟨p, hp, rfl, by rw [← ha, c4], hno⟩, by rw [if_neg (by omega)]; exact hl1⟩, hm2, hI2⟩) (fun c4 => hgo (fun hP => c4 ?_) _ (inc hl1 (by omega)))
                rw [t_eq, ha]; exact hP
            · unfold fX5_pathByRoom_B32
              rw [if_pos (by rw [t_le, en2, hl1]; omega)]
              exact wp_ret ⟨⟨-1, Or.inl ⟨rfl, hno⟩, rfl⟩, hm2, hI2⟩
          · rw [t_le, en2, hl] at c3
            have hi2 : i < nP ν := by omega
            refine wp_rdf (sX5_roomBy hm2 hv hT2 hb l i hl hi2) (fun r11 e11 => wp_wr i hl (by omega) (hrc (nP ν - (i + 1)) _ _ (by omega) ⟨i + 1, inc hl (by omega), by omega, rfl, fun a ha => by rw [wi_ne ha]; exact kx a ha, fun p hp => ?_⟩))
            by_cases ep : p = i
            · rw [ep, wi_self]; exact e11
            · rw [wi_other ep]; exact hw p (by omega)
        refine wp_bd (wp_mono key ?_)
        rintro r3 m4 ⟨a, b, d⟩
        exact wp_ret ⟨Or.inr (Or.inr ⟨c, c2, hb, a⟩), b, d⟩
      · rw [t_lt, en] at c2; omega
    · rw [if_neg hr]
      exact wp_ret ⟨Or.inr (Or.inl ⟨c, Or.inl hb, rfl⟩), hm, hI⟩
  · rw [t_le, z0] at c; omega
theorem sX9_nearest (h0 : RN μ ν) (hv : Vd ν) (k : Int32) : Wp (fX9_nearest k μ) (fun r m => AnsNt ν k.toInt r.toInt ∧ RN m ν) := by
  have hn := vd_nums hv
  have hc := vd_cast hv
  have z0 : Int32.toInt 0 = 0 := rfl
  have z6 : Int64.toInt 0 = 0 := rfl
  have h : RN (ax_wi μ 57 0 0) ν := RN_wi57 h0
  unfold fX9_nearest fX9_nearest_K30
  refine wp_let (wp_if (fun c => ?_) (fun c => wp_ret ⟨Or.inl ⟨?_, rfl⟩, h⟩))
  · rw [t_le, z0] at c
    refine setS h hv (fun r m hr hb hm hL => ?_) (fun r m hr hb hm => ?_)
    · rw [if_pos hr]
      refine wp_rdf (sX9_paths hm) (fun r4 e4 => wp_if (fun c2 => ?_) (fun c2 => wp_ret ⟨Or.inr (Or.inl ⟨c, Or.inr ?_, rfl⟩), hm⟩))
      · rw [t_lt, e4] at c2
        have yes : ∀ r : Int32, (∃ q, FndA (rkn ν) (nP ν) k.toInt q ∧ r.toInt = if q = -1 then -2 else q) → AnsNt ν k.toInt r.toInt ∧ RN m ν := fun r a => ⟨Or.inr (Or.inr ⟨c, c2, hb, a⟩), hm⟩
        refine lp_find (nP ν) (fun p => rkn ν p = k.toInt) (by omega) (fun rc1 l1 p hl1 hp hno hgo => ?_) (fun rc1 l1 hl1 hno => ?_)
        · unfold fX9_nearest_B35
          refine wp_rdf (sX9_paths hm) (fun r6 e6 => ?_)
          rw [if_neg (by rw [t_le, e6, hl1]; omega)]
          refine lp_sum (nP ν) (fun o => on (nr ν o < nr ν p ∨ (nr ν o = nr ν p ∧ o < p))) (fun _ _ => on_bd _) (by omega) (fun rc2 a l2 o hl2 ho a0 a1 hgo2 => ?_) (fun rc2 a l2 hl2 ha => ?_)
          · unfold fX9_nearest_B48 fX9_nearest_K92 fX9_nearest_K96 fX9_nearest_K97
            have b1 := nr_bd hv o ho
            have b2 := nr_bd hv p hp
            refine wp_rdf (sX9_paths hm) (fun r8 e8 => ?_)
            rw [if_neg (by rw [t_le, e8, hl2]; omega)]
            refine wp_rd6f (sX9_nearOf hm hv hL l2 o hl2 ho) (fun r11 e11 => wp_rd6f (sX9_nearOf hm hv hL l1 p hl1 hp) (fun r13 e13 => wp_let ?_))
            have e15 : (r11 - r13).toInt = nr ν o - nr ν p := by rw [t_sub64, e11, e13]; omega
            refine wp_if (fun c4 => wp_let (hgo2 _ _ ?_ (inc hl2 (by omega)))) (fun c4 => wp_if (fun c5 => wp_if (fun c6 => wp_let (hgo2 _ _ ?_ (inc hl2 (by omega)))) (fun c6 => wp_let (hgo2 _ _ ?_ (inc hl2 (by omega))))) (fun c5 => wp_let (hgo2 _ _ ?_ (inc hl2 (by omega)))))
            · rw [cmp_lt, e15, z6] at c4
              rw [add1 a0 a1, on_t (Or.inl (by omega))]
            · rw [cmp_eq, e15, z6] at c5
              rw [t_le, hl1, hl2] at c6
              rw [on_f (by omega), addv a0 a1 (by decide) (by decide)]; rfl
            · rw [cmp_eq, e15, z6] at c5
              rw [t_le, hl1, hl2] at c6
              rw [add1 a0 a1, on_t (Or.inr ⟨by omega, by omega⟩)]
            · rw [cmp_lt, e15, z6] at c4
              rw [cmp_eq, e15, z6] at c5
              rw [on_f (by omega), addv a0 a1 (by decide) (by decide)]; rfl
          · unfold fX9_nearest_B48
            refine wp_rdf (sX9_paths hm) (fun r8 e8 => ?_)
            rw [if_pos (by rw [t_le, e8, hl2]; omega)]
            have ha : a.toInt = rkn ν p := ha
            refine wp_if (fun c4 => wp_ret (yes _ ⟨(p : Int), Or.inr ⟨p, hp, rfl, by rw [← ha, c4], hno⟩, by rw [if_neg (by omega)]; exact hl1⟩)) (fun c4 => hgo (fun hP => c4 ?_) _ (inc hl1 (by omega)))
            rw [t_eq, ha]; exact hP
        · unfold fX9_nearest_B35
          refine wp_rdf (sX9_paths hm) (fun r6 e6 => ?_)
          rw [if_pos (by rw [t_le, e6, hl1]; omega)]
          exact wp_ret (yes _ ⟨-1, Or.inl ⟨rfl, hno⟩, rfl⟩)
      · rw [t_lt, e4] at c2; omega
    · rw [if_neg hr]
      exact wp_ret ⟨Or.inr (Or.inl ⟨c, Or.inl hb, rfl⟩), hm⟩
  · rw [t_le, z0] at c; omega
/-! from -/
theorem cc_vv (c : Nat) : (∃ p, p < nP ν ∧ To ν p = c ∧ CC ν (ν 0 3) c = vv ν p) ∨ ∀ p, p < nP ν → To ν p ≠ c := by
  rcases cm_cases (ν := ν) (fun p => LL ν (ν 0 3) (Fr ν p) + Wt ν (ν 0 3) p) c with ⟨p, hp, ht, e⟩ | ⟨hn, -⟩
  · exact Or.inl ⟨p, hp, ht, e⟩
  · exact Or.inr hn
theorem sX5_latestPath (h : CN μ ν) (hv : Vd ν) (ht : TOk μ ν) (hb : bd ν (ν 0 3) = true) (p : Int32) (c : Nat) (hp : p.toInt = (c : Nat)) (hc : c < nC ν) : Wp (fX5_latestPath p μ) (fun r m => m = μ ∧ LtA ν c r.toInt) := by
  have hn := vd_nums hv
  have hcc := vd_cast hv
  have en : (μ.1 2 14).toInt = ν 0 2 := h.1.2.2.1
  have e36 := (tok_get ht hb).2.1 c hc
  unfold fX5_latestPath
  refine lp_find (nP ν) (fun q => To ν q = c ∧ vv ν q = CC ν (ν 0 3) c) (by omega) (fun rc l i hl hi hno hgo => ?_) (fun rc l hl hno => ?_)
  · unfold fX5_latestPath_B2 fX5_latestPath_K42
    obtain ⟨a1, a2, a3, a4, a5, a6⟩ := vd_path hv i hi
    have e := h.2.2.2.1 i hi
    rw [if_neg (by rw [t_le, en, hl]; omega)]
    refine wp_rd i hl a1 (wp_if (fun c1 => wp_rdf (sX5_comesBy h hv ht hb l i hl hi) (fun r2 e2 => wp_rd c hp (by omega) (wp_if (fun c2 => wp_ret ⟨rfl, Or.inr ⟨i, hi, hl, ?_, ?_, hno⟩⟩) (fun c2 => hgo (fun hP => c2 ?_) _ (inc hl (by omega)))))) (fun c1 => hgo (fun hP => c1 ?_) _ (inc hl (by omega))))
    · rw [t_eq, e.2.1, a5, hp] at c1; omega
    · rw [t_eq, e2, e36] at c2; exact c2
    · rw [t_eq, e2, e36]; exact hP.2
    · rw [t_eq, e.2.1, a5, hp, hP.1]
  · unfold fX5_latestPath_B2
    rw [if_pos (by rw [t_le, en, hl]; omega)]
    refine wp_ret ⟨rfl, Or.inl ⟨rfl, fun p hp ht => ?_⟩⟩
    rcases cc_vv (ν := ν) c with ⟨q, q1, q2, q3⟩ | hno2
    · exact hno q q1 ⟨q2, q3.symm⟩
    · exact hno2 p hp ht
theorem sX9_latestTo (h : RN μ ν) (hv : Vd ν) (hL : ∀ c, c < nC ν → (μ.2 76 c).toInt = LL ν (ν 0 3) c) (p : Int32) (c : Nat) (hp : p.toInt = (c : Nat)) : Wp (fX9_latestTo p μ) (fun r m => m = μ ∧ ∃ q, LtA ν c q ∧ r.toInt = if q = -1 then -2 else q) := by
  have hn := vd_nums hv
  have hcc := vd_cast hv
  unfold fX9_latestTo
  refine wp_lp2 (fun k (b l : Int32) m => m = μ ∧ ∃ i : Nat, l.toInt = (i : Int) ∧ i ≤ nP ν ∧ k = nP ν - i ∧ ((b.toInt = -2 ∧ ∀ p, p < i → To ν p ≠ c) ∨ ∃ e : Nat, e < i ∧ b.toInt = (e : Int) ∧ To ν e = c ∧ (∀ q, q < i → To ν q = c → vv ν q ≤ vv ν e) ∧ ∀ q, q < e → To ν q = c → vv ν q < vv ν e)) ax_FU ?_ (nP ν) (by unfold ax_FU; omega) ⟨rfl, 0, rfl, by omega, rfl, Or.inl ⟨rfl, fun p hp => by omega⟩⟩
  rintro k rc hrc b l m ⟨rfl, i, hl, hi, hk, hB⟩
  unfold fX9_latestTo_B5 fX9_latestTo_K51 fX9_latestTo_K53
  have hlt : i < nP ν → nP ν - (i + 1) < k := by clear hB; omega
  refine wp_rdf (sX9_paths h) (fun r1 e1 => wp_if (fun c1 => wp_ret ⟨rfl, ?_⟩) (fun c1 => ?_))
  · rw [t_le, e1, hl] at c1
    have hi2 : i = nP ν := by clear hB; omega
    subst hi2
    rcases hB with ⟨b1, b2⟩ | ⟨e, b1, b2, b3, b4, b5⟩
    · exact ⟨-1, Or.inl ⟨rfl, b2⟩, b1⟩
    · refine ⟨(e : Int), Or.inr ⟨e, b1, rfl, b3, ?_, fun q hq hg => ?_⟩, by rw [if_neg (by omega)]; exact b2⟩
      · rcases cc_vv (ν := ν) c with ⟨q, q1, q2, q3⟩ | hno2
        · have g1 := b4 q q1 q2
          have g2 := cm_ge (ν := ν) (v := fun p => LL ν (ν 0 3) (Fr ν p) + Wt ν (ν 0 3) p) b1 b3
          have g2 : vv ν e ≤ CC ν (ν 0 3) c := g2
          omega
        · exact absurd b3 (hno2 e b1)
      · have g1 := b5 q hq hg.1
        have g2 := cm_ge (ν := ν) (v := fun p => LL ν (ν 0 3) (Fr ν p) + Wt ν (ν 0 3) p) b1 b3
        have g2 : vv ν e ≤ CC ν (ν 0 3) c := g2
        have := hg.2
        omega
  · rw [t_le, e1, hl] at c1
    have hi2 : i < nP ν := by clear hB; omega
    obtain ⟨a1, a2, a3, a4, a5, a6⟩ := vd_path hv i hi2
    have e := h.2.2.2 i hi2
    have lb := lc_bd hv _ a2
    have l76 := hL _ a2
    have inl := inc hl (i := i) (by clear hB; omega)
    refine wp_rd i hl (by clear hB; omega) (wp_if (fun c2 => ?_) (fun c2 => ?_))
    · rw [t_eq, e.2.1, a5, hp] at c2
      have c2 : To ν i = c := by clear hB; omega
      refine wp_if (fun c3 => ?_) (fun c3 => ?_)
      · refine hrc (nP ν - (i + 1)) _ _ _ (hlt hi2) ⟨rfl, i + 1, inl, hi2, rfl, Or.inr ⟨i, by omega, hl, c2, fun q hq hg => ?_, fun q hq hg => ?_⟩⟩
        · rcases hB with ⟨b1, b2⟩ | ⟨f, b1, b2, -⟩
          · by_cases eq : q = i
            · rw [eq]; exact Int.le_refl _
            · exact absurd hg (b2 q (by omega))
          · rw [qm2] at c3; omega
        · rcases hB with ⟨b1, b2⟩ | ⟨f, b1, b2, -⟩
          · exact absurd hg (b2 q hq)
          · rw [qm2] at c3; omega
      · rcases hB with ⟨b1, b2⟩ | ⟨f, b1, b2, b3, b4, b5⟩
        · exact absurd (qm2.mpr b1) c3
        · have hf : f < nP ν := by omega
          have lbf := lc_bd hv _ (vd_path hv f hf).2.1
          have l76f := hL _ (vd_path hv f hf).2.1
          refine wp_rd6f (sX9_comesBy_1 h hv l i hl hi2 (by omega)) (fun r4 e4 => wp_rd6f (sX9_comesBy_1 h hv b f b2 hf (by omega)) (fun r6 e6 => ?_))
          have e4 : r4.toInt = vv ν i := by rw [e4, l76]; rfl
          have e6 : r6.toInt = vv ν f := by rw [e6, l76f]; rfl
          refine wp_if (fun c4 => hrc (nP ν - (i + 1)) _ _ _ (hlt hi2) ⟨rfl, i + 1, inl, hi2, rfl, Or.inr ⟨f, by omega, b2, b3, fun q hq hg => ?_, b5⟩⟩) (fun c4 => hrc (nP ν - (i + 1)) _ _ _ (hlt hi2) ⟨rfl, i + 1, inl, hi2, rfl, Or.inr ⟨i, by omega, hl, c2, fun q hq hg => ?_, fun q hq hg => ?_⟩⟩)
          · rw [cmp_le, e4, e6] at c4
            by_cases eq : q = i
            · rw [eq]; exact c4
            · exact b4 q (by omega) hg
          · rw [cmp_le, e4, e6] at c4
            by_cases eq : q = i
            · rw [eq]; exact Int.le_refl _
            · have := b4 q (by omega) hg
              omega
          · rw [cmp_le, e4, e6] at c4
            have := b4 q (by omega) hg
            omega
    · rw [t_eq, e.2.1, a5, hp] at c2
      have c2 : ¬ To ν i = c := by clear hB; omega
      refine hrc (nP ν - (i + 1)) _ _ _ (hlt hi2) ⟨rfl, i + 1, inl, hi2, rfl, ?_⟩
      rcases hB with ⟨b1, b2⟩ | ⟨f, b1, b2, b3, b4, b5⟩
      · refine Or.inl ⟨b1, fun q hq => ?_⟩
        by_cases eq : q = i
        · rw [eq]; exact c2
        · exact b2 q (by omega)
      · refine Or.inr ⟨f, by omega, b2, b3, fun q hq hg => ?_, b5⟩
        by_cases eq : q = i
        · rw [eq] at hg; exact absurd hg c2
        · exact b4 q (by omega) hg
theorem sX8_from (h : CN μ ν) (hv : Vd ν) (ht : TIn μ ν) (p : Int32) : Wp (fX8_from p μ) (fun r m => AnsFr ν p.toInt r.toInt ∧ CN m ν ∧ TIn m ν) := by
  unfold fX8_from fX8_from_K35 fX8_from_K47
  refine wp_rdf (sX1_hasCell h p) (fun r e => wp_if (fun c => wp_ret ⟨Or.inl ⟨not_of e c, rfl⟩, h, ht⟩) (fun c => ?_))
  have hin := yes_of e c
  obtain ⟨k, hk, ek⟩ := in_nat (N := nC ν) hin rfl
  refine isF h hv ht (fun r m hr hb hm hT hI => ?_) (fun r m hr hb hm hI => ?_)
  · rw [if_pos hr]
    refine wp_bd (wp_mono (sX5_latestPath hm hv hT hb p k ek hk) ?_)
    rintro r5 m6 ⟨rfl, hr5⟩
    have yes : ∀ r : Int32, (r.toInt = if r5.toInt = -1 then -2 else r5.toInt) → AnsFr ν p.toInt r.toInt ∧ CN m6 ν ∧ TIn m6 ν := fun r a => ⟨Or.inr (Or.inr ⟨hin, hb, r5.toInt, by rw [ek, tn]; exact hr5, a⟩), hm, hI⟩
    refine wp_if (fun c2 => wp_ret (yes _ ?_)) (fun c2 => wp_ret (yes _ ?_))
    · rw [if_pos (qm1.mp c2)]; rfl
    · rw [if_neg (mt qm1.mpr c2)]
  · rw [if_neg hr, if_pos rfl]
    exact wp_ret ⟨Or.inr (Or.inl ⟨hin, hb, rfl⟩), hm, hI⟩
theorem sX9_from (h0 : RN μ ν) (hv : Vd ν) (p : Int32) : Wp (fX9_from p μ) (fun r m => AnsFr ν p.toInt r.toInt ∧ RN m ν) := by
  have h : RN (ax_wi μ 57 0 0) ν := RN_wi57 h0
  unfold fX9_from fX9_from_K36
  refine wp_let (wp_rdf (sX9_isCell h p) (fun r e => wp_if (fun c => wp_ret ⟨Or.inl ⟨not_of e c, rfl⟩, h⟩) (fun c => ?_)))
  have hin := yes_of e c
  obtain ⟨k, hk, ek⟩ := in_nat (N := nC ν) hin rfl
  refine setS h hv (fun r m hr hb hm hL => ?_) (fun r m hr hb hm => ?_)
  · rw [if_pos hr]
    refine wp_bd (wp_mono (sX9_latestTo hm hv (fun c hc => (hL c hc).1) p k ek) ?_)
    rintro r5 m6 ⟨rfl, q, hq, hr5⟩
    exact wp_ret ⟨Or.inr (Or.inr ⟨hin, hb, q, by rw [ek, tn]; exact hq, hr5⟩), hm⟩
  · rw [if_neg hr]
    exact wp_ret ⟨Or.inr (Or.inl ⟨hin, hb, rfl⟩), hm⟩
end NEA
