/-! chance, both sides -/
def lcg (x : Int32) : Int32 := ((x * (1103515245 : Int32)) + (12345 : Int32)) &&& (2147483647 : Int32)
def itr (x : Int32) : Nat → Int32
  | 0 => x
  | n + 1 => lcg (itr x n)
def rnd (x : Int32) : Int := (x >>> ((16 : Int32) &&& 31)).toInt
def st (ν : Nv) (f : Nat → Int) : Nv := fun a b => if a = 9 then f b else ν a b
def dw (ν : Nv) (x : Int32) (p : Nat) : Int := ν 10 p + rnd (itr x (p + 1)) % (ν 9 p - ν 10 p + 1)
def dn (ν : Nv) (x : Int32) : Nv := st ν (dw ν x)
def sq (ν : Nv) (x : Int32) : Nat → Int32
  | 0 => x
  | i + 1 => itr (sq ν x i) (nP ν)
def MxI (ν : Nv) (x : Int32) (i : Nat) (g : Int) : Prop := 0 ≤ g ∧ g ≤ 9999 ∧ (g = 0 ∨ ∃ j, j < i ∧ Lst (dn ν (sq ν x j)) 9999 g) ∧ ∀ j, j < i → ∀ z, Lst (dn ν (sq ν x j)) 9999 z → z ≤ g
def ChI (ν : Nv) (x : Int32) (i : Nat) (w r : Int) : Prop := if w = 2 then MxI ν x i r else if w = 0 then r = (cnt (fun j => gd (dn ν (sq ν x j)) (ν 0 3)) i : Nat) else r = (cnt (fun j => !bd (dn ν (sq ν x j)) (ν 0 3)) i : Nat)
theorem chI_unique {ν : Nv} {x : Int32} {i : Nat} {w r s : Int} (h : ChI ν x i w r) (h2 : ChI ν x i w s) : r = s := by
  unfold ChI at h h2
  by_cases e : w = 2
  · rw [if_pos e] at h h2
    obtain ⟨a1, a2, a3, a4⟩ := h
    obtain ⟨b1, b2, b3, b4⟩ := h2
    have c1 : r ≤ s := by
      rcases a3 with a3 | ⟨j, hj, hL⟩
      · omega
      · exact b4 j hj r hL
    have c2 : s ≤ r := by
      rcases b3 with b3 | ⟨j, hj, hL⟩
      · omega
      · exact a4 j hj s hL
    omega
  · rw [if_neg e] at h h2
    by_cases e2 : w = 0
    · rw [if_pos e2] at h h2; omega
    · rw [if_neg e2] at h h2; omega
theorem st_same (ν : Nv) : st ν (ν 9) = ν := by
  funext a b
  show (if a = 9 then ν 9 b else ν a b) = ν a b
  split
  · rename_i h; rw [h]
  · rfl
theorem nat_toInt {n : Nat} (h : n < 2 ^ 31) : (Int32.ofNat n).toInt = n := by
  rw [Int32.toInt_ofNat', t_bmod]
  omega
theorem rnd_pos (x : Int32) : 0 ≤ rnd (lcg x) := by
  unfold rnd lcg
  obtain ⟨j, hj, e⟩ := pk_andE ((x * (1103515245 : Int32)) + (12345 : Int32)) (m := 2147483647) 31 rfl
  rw [e, pk_shrN hj _ 16 rfl]
  have : j / 2 ^ 16 < 2 ^ 31 := by omega
  have h2 := nat_toInt this
  have h3 : (Int32.ofNat (j / 2 ^ 16)).toInt = (nI (j / 2 ^ 16)).toInt := rfl
  omega
section CHN
variable {μ : ax_M} {ν : Nv} {f g : Nat → Int}
theorem wp_rm {α : Type} {Q : α → ax_M → Prop} {x y : Int32} {f : Int32 → Option (α × ax_M)} (hx : 0 ≤ x.toInt) (hy : 0 < y.toInt) (h : ∀ r : Int32, r.toInt = x.toInt % y.toInt → Wp (f r) Q) : Wp (Option.bind (ax_rm x y) f) Q := by
  have d := dv_ok hx hy
  rw [d.2.2.1]
  exact h _ d.2.2.2
theorem wp_dv {α : Type} {Q : α → ax_M → Prop} {x y : Int32} {f : Int32 → Option (α × ax_M)} (hx : 0 ≤ x.toInt) (hy : 0 < y.toInt) (h : ∀ r : Int32, r.toInt = x.toInt / y.toInt → Wp (f r) Q) : Wp (Option.bind (ax_dv x y) f) Q := by
  have d := dv_ok hx hy
  rw [d.1]
  exact h _ d.2.1
theorem CN_st (h : CN μ (st ν f)) {m : ax_M} (hk : ∀ a, 2 ≤ a → a < 15 → a ≠ 13 → m.1 a = μ.1 a) (h13 : ∀ p, p < nP ν → (m.1 13 p).toInt = g p) : CN m (st ν g) := by
  obtain ⟨a, hb, hc, hd, he⟩ := h
  refine ⟨?_, fun i hi => ?_, fun c hc2 => ?_, fun p hp => ?_, ?_⟩
  · rw [hk 2 (by omega) (by omega) (by omega)]; exact a
  · rw [hk 3 (by omega) (by omega) (by omega), hk 4 (by omega) (by omega) (by omega), hk 5 (by omega) (by omega) (by omega)]; exact hb i hi
  · rw [hk 6 (by omega) (by omega) (by omega), hk 7 (by omega) (by omega) (by omega), hk 8 (by omega) (by omega) (by omega), hk 9 (by omega) (by omega) (by omega), hk 10 (by omega) (by omega) (by omega)]; exact hc c hc2
  · rw [hk 11 (by omega) (by omega) (by omega), hk 12 (by omega) (by omega) (by omega), hk 14 (by omega) (by omega) (by omega)]
    exact ⟨(hd p hp).1, (hd p hp).2.1, h13 p hp, (hd p hp).2.2.2⟩
  · rw [hk 2 (by omega) (by omega) (by omega)]; exact he
theorem vd_st (hv : Vd ν) (h : ∀ p, p < nP ν → ν 10 p ≤ f p ∧ f p ≤ 999) : Vd (st ν f) := by
  obtain ⟨ha, hb, hc, hd, he⟩ := hv
  refine ⟨ha, hb, hc, fun p hp => ?_, he⟩
  have := hd p hp
  exact ⟨this.1, this.2.1, this.2.2.1, this.2.2.2.1, this.2.2.2.2.1, (h p hp).1, (h p hp).2⟩
theorem dw_bd (hv : Vd ν) (x : Int32) (p : Nat) (hp : p < nP ν) : ν 10 p ≤ dw ν x p ∧ dw ν x p ≤ 999 := by
  have h4 := hv.2.2.2.1 p hp
  have h1 := Int.emod_nonneg (rnd (itr x (p + 1))) (b := ν 9 p - ν 10 p + 1) (by omega)
  have h2 := Int.emod_lt_of_pos (rnd (itr x (p + 1))) (b := ν 9 p - ν 10 p + 1) (by omega)
  unfold dw
  omega
theorem vd_dn (hv : Vd ν) (x : Int32) : Vd (dn ν x) := vd_st hv (fun p hp => dw_bd hv x p hp)
theorem sX4_drawDelays (h : CN μ (st ν f)) (hv : Vd ν) (x : Int32) (hk : ∀ p, p < nP ν → (μ.1 47 p).toInt = ν 9 p) : Wp (fX4_drawDelays x μ) (fun r m => r = itr x (nP ν) ∧ CN m (dn ν x) ∧ m.1 47 = μ.1 47) := by
  have h0 := hv.1
  have hn := vd_nums hv
  have hnP : ν 0 2 = (nP ν : Nat) := by unfold nP; omega
  unfold fX4_drawDelays
  refine wp_lp2 (fun k (l2 l3 : Int32) m => ∃ i : Nat, l3.toInt = (i : Int) ∧ i ≤ nP ν ∧ k = nP ν - i ∧ l2 = itr x i ∧ (∀ a, a ≠ 13 → m.1 a = μ.1 a) ∧ ∀ p, p < i → (m.1 13 p).toInt = dw ν x p) ax_FU ?_ (nP ν) (by unfold ax_FU; omega) ⟨0, rfl, by omega, rfl, rfl, fun _ _ => rfl, fun p hp => by omega⟩
  rintro k rc hrc l2 l3 m ⟨i, hl, hi, hk2, hl2, kx, hw⟩
  unfold fX4_drawDelays_B4
  have en : (m.1 2 14).toInt = ν 0 2 := by rw [kx 2 (by omega)]; exact h.1.2.2.1
  refine wp_if (fun c1 => wp_ret ?_) (fun c1 => ?_)
  · rw [t_le, en, hl] at c1
    have hi2 : i = nP ν := by omega
    refine ⟨by rw [hl2, hi2], CN_st h (fun a _ _ h3 => kx a h3) (fun p hp => hw p (by omega)), kx 47 (by omega)⟩
  · rw [t_le, en, hl] at c1
    have hi2 : i < nP ν := by omega
    have h4 := hv.2.2.2.1 i hi2
    have e47 : (m.1 47 i).toInt = ν 9 i := by rw [kx 47 (by omega)]; exact hk i hi2
    have e14 : (m.1 14 i).toInt = ν 10 i := by rw [kx 14 (by omega)]; exact (h.2.2.2.1 i hi2).2.2.2
    have hy : (ax_mx ((m.1 47 i - m.1 14 i) + (1 : Int32)) (1 : Int32)).toInt = ν 9 i - ν 10 i + 1 := by
      simp only [mx_toInt, t_add, t_sub, e47, e14, Int32.reduceToInt]
      split <;> omega
    have hz : 0 ≤ rnd (lcg l2) := rnd_pos l2
    have hr1 := Int.emod_nonneg (rnd (lcg l2)) (b := ν 9 i - ν 10 i + 1) (by omega)
    have hr2 := Int.emod_lt_of_pos (rnd (lcg l2)) (b := ν 9 i - ν 10 i + 1) (by omega)
    refine wp_let (wp_rd i hl (by omega) (wp_rd i hl (by omega) (wp_let (wp_rd i hl (by omega) (wp_rm hz (by rw [hy]; omega) (fun r er => wp_wr i hl (by omega) ?_))))))
    rw [hy] at er
    have er : r.toInt = rnd (lcg l2) % (ν 9 i - ν 10 i + 1) := er
    have key : (m.1 14 i + r).toInt = ν 10 i + rnd (lcg l2) % (ν 9 i - ν 10 i + 1) := by
      generalize rnd (lcg l2) % (ν 9 i - ν 10 i + 1) = y at er hr1 hr2 ⊢
      clear hz hl2 hw
      rw [t_add, e14, er]
      omega
    refine hrc (nP ν - (i + 1)) _ _ _ (by omega) ⟨i + 1, by simp only [t_add, hl, Int32.reduceToInt]; omega, by omega, rfl, by rw [hl2]; rfl, fun a ha => by rw [wi_ne ha]; exact kx a ha, fun p hp => ?_⟩
    by_cases ep : p = i
    · rw [ep, wi_self, key]
      unfold dw
      rw [show itr x (i + 1) = lcg l2 by rw [hl2]; rfl]
    · rw [wi_other ep]; exact hw p (by omega)
theorem mxI_step {x : Int32} {i : Nat} {a v : Int} (h : MxI ν x i a) (z : Int) (hz : Lst (dn ν (sq ν x i)) 9999 z) (e : v = if a < z then z else a) : MxI ν x (i + 1) v := by
  obtain ⟨a1, a2, a3, a4⟩ := h
  have hz9 : z ≤ 9999 := by
    rcases hz with ⟨b1, -⟩ | ⟨b1, b2, -⟩
    · omega
    · exact b2
  by_cases hc : a < z
  · rw [if_pos hc] at e
    subst e
    refine ⟨by omega, hz9, Or.inr ⟨i, by omega, hz⟩, fun j hj y hy => ?_⟩
    by_cases ej : j = i
    · rw [ej] at hy
      have := lst_unique hy hz
      omega
    · have := a4 j (by omega) y hy
      omega
  · rw [if_neg hc] at e
    subst e
    refine ⟨a1, a2, ?_, fun j hj y hy => ?_⟩
    · rcases a3 with a3 | ⟨j, hj, hL⟩
      · exact Or.inl a3
      · exact Or.inr ⟨j, by omega, hL⟩
    · by_cases ej : j = i
      · rw [ej] at hy
        have := lst_unique hy hz
        omega
      · exact a4 j (by omega) y hy
theorem lst_exists (ν : Nv) : ∃ z, Lst ν 9999 z := by
  by_cases h : ∃ k : Nat, 1 ≤ (k : Int) ∧ (k : Int) ≤ 9999 ∧ gd ν (k : Int) = true
  · obtain ⟨k, hk, hm⟩ := pk_least (fun k => 1 ≤ (k : Int) ∧ (k : Int) ≤ 9999 ∧ gd ν (k : Int) = true) h
    refine ⟨k, Or.inr ⟨hk.1, hk.2.1, hk.2.2, fun T h1 h2 => ?_⟩⟩
    cases e : gd ν T with
    | false => rfl
    | true =>
      exfalso
      have e1 : ((T.toNat : Nat) : Int) = T := by omega
      exact hm T.toNat (by omega) ⟨by omega, by have := hk.2.1; omega, by rw [e1]; exact e⟩
  · refine ⟨-1, Or.inl ⟨rfl, fun T h1 h2 => ?_⟩⟩
    cases e : gd ν T with
    | false => rfl
    | true =>
      exfalso
      have e1 : ((T.toNat : Nat) : Int) = T := by omega
      exact h ⟨T.toNat, by omega, by have h2 : T ≤ 9999 := h2; omega, by rw [e1]; exact e⟩
theorem sX4_byChance (h : CN μ ν) (hv : Vd ν) (x n w : Int32) (hn1 : 1 ≤ n.toInt) (hn2 : n.toInt ≤ 40) (hw0 : 0 ≤ w.toInt) (hw2 : w.toInt ≤ 2) : Wp (fX4_byChance x n w μ) (fun r m => ChI ν x n.toInt.toNat w.toInt r.toInt ∧ CN m ν ∧ (m.1 32 5).toInt = 0) := by
  have h0 := hv.1
  have hn := vd_nums hv
  unfold fX4_byChance
  refine wp_cp 0 0 24 rfl rfl rfl (by omega) (by omega) ?_
  intro m1 hk1 hc1 _
  have hs1 : CN m1 (st ν (ν 9)) := by rw [st_same]; exact CN_keep h (fun a h1 h2 => hk1 a (by omega))
  have e47 : ∀ p, p < 24 → m1.1 47 p = μ.1 13 p := fun p hp => by have := hc1 p; rw [if_pos (by omega), Nat.zero_add, Nat.sub_zero] at this; exact this
  have e47n : ∀ p, p < nP ν → (m1.1 47 p).toInt = ν 9 p := fun p hp => by rw [e47 p (by omega)]; exact (h.2.2.2.1 p hp).2.2.1
  refine wp_lp3 (fun k (l4 l5 l6 : Int32) m => ∃ i : Nat, l6.toInt = (i : Int) ∧ i ≤ n.toInt.toNat ∧ k = n.toInt.toNat - i ∧ l4 = sq ν x i ∧ m.1 47 = m1.1 47 ∧ 0 ≤ l5.toInt ∧ l5.toInt ≤ 10000 + i ∧ ChI ν x i w.toInt l5.toInt ∧ ∃ f, CN m (st ν f)) ax_FU ?_ n.toInt.toNat (by unfold ax_FU; omega) ⟨0, rfl, by omega, rfl, rfl, rfl, by decide, by decide, ?_, ν 9, hs1⟩
  · rintro k rc hrc l4 l5 l6 m ⟨i, hl, hi, hk, hl4, em, b1, b2, hI, f, hm⟩
    unfold fX4_byChance_B27 fX4_byChance_K86 fX4_byChance_K83
    refine wp_if (fun c1 => wp_cp 0 0 24 rfl rfl rfl (by omega) (by omega) ?_) (fun c1 => ?_)
    · rw [t_le, hl] at c1
      intro m2 hk2 hc2 _
      have hi2 : i = n.toInt.toNat := by omega
      refine wp_let (wp_ret ⟨by rw [← hi2]; exact hI, ?_, by rw [wi_self]; rfl⟩)
      have : CN m2 (st ν (ν 9)) := CN_st hm (fun a _ _ h3 => hk2 a h3) (fun p hp => by
        have := hc2 p
        rw [if_pos (by omega), Nat.zero_add, Nat.sub_zero] at this
        rw [this, em]
        exact e47n p hp)
      rw [st_same] at this
      exact CN_wi this (by omega)
    · rw [t_le, hl] at c1
      have hlt : n.toInt.toNat - (i + 1) < k := by omega
      have hl7 : (l6 + 1).toInt = ((i + 1 : Nat) : Int) := by simp only [t_add, hl, Int32.reduceToInt]; omega
      refine wp_bd (wp_mono (sX4_drawDelays hm hv l4 (fun p hp => by rw [em]; exact e47n p hp)) ?_)
      rintro r4 m5 ⟨er4, hm5, e5⟩
      have er4 : r4 = sq ν x (i + 1) := by rw [er4, hl4]; rfl
      rw [hl4] at hm5
      have hv5 := vd_dn hv (sq ν x i)
      have T5 : dn ν (sq ν x i) 0 3 = ν 0 3 := rfl
      refine wp_if (fun c2 => ?_) (fun c2 => wp_if (fun c3 => ?_) (fun c3 => ?_))
      · have c2 : w.toInt = 2 := t_eq.mp c2
        unfold ChI at hI
        rw [if_pos c2] at hI
        unfold fX4_periodFrom
        refine wp_bd (wp_bd (wp_mono (wp_keep (sX6_load hm5 hv5) (kf_X6_load m5)) ?_))
        rintro _ m6 ⟨⟨hm6, ht6⟩, hk6⟩
        have hmx : (ax_mx l5 1).toInt = if l5.toInt < 1 then 1 else l5.toInt := by rw [mx_toInt]; rfl
        have i9 := hI.2.1
        refine wp_bd (wp_mono (sX6_firstGood hm6 hv5 ht6 (ax_mx l5 1) 9999 (by rw [hmx]; split <;> omega) (by rw [hmx]; split <;> omega) (by decide)) ?_)
        rintro r7 m8 ⟨hm8, -, -, hr7, hk8⟩
        refine wp_ret (wp_let (hrc _ _ _ _ _ hlt ⟨i + 1, hl7, by omega, rfl, er4, ?_, ?_, ?_, ?_, _, hm8⟩))
        · rw [(hk8 47 (by decide)).1, (hk6 47 (by decide)).1, e5, em]
        · rw [mx_toInt]; split <;> omega
        · rw [mx_toInt]
          have h9 : Int32.toInt 9999 = 9999 := rfl
          rw [h9] at hr7
          split <;> omega
        · unfold ChI
          rw [if_pos c2]
          obtain ⟨z, hz⟩ := lst_exists (dn ν (sq ν x i))
          refine mxI_step hI z hz ?_
          rw [mx_toInt]
          have h9 : Int32.toInt 9999 = 9999 := rfl
          rw [h9, hmx] at hr7
          rcases hz with ⟨z1, z2⟩ | ⟨z1, z2, z3, z4⟩
          · rcases hr7 with ⟨q1, -⟩ | ⟨q1, q2, q3, -⟩
            · rw [if_neg (by omega), if_neg (by omega)]
            · have := z2 r7.toInt (by split at q1 <;> omega) q2
              rw [q3] at this; cases this
          · have z2 : z ≤ 9999 := z2
            rcases hr7 with ⟨q1, q0⟩ | ⟨q1, q2, q3, q4⟩
            · exfalso
              have hg := gd_up hv5 (T := z) (T2 := 9999) z2 z3
              have := q0 9999 (by split <;> omega) (Int.le_refl _)
              rw [hg] at this; cases this
            · by_cases hc : l5.toInt < z
              · have e7 : r7.toInt = z := by
                  by_cases g1 : r7.toInt < z
                  · have := z4 r7.toInt (by split at q1 <;> omega) g1
                    rw [q3] at this; cases this
                  · by_cases g2 : z < r7.toInt
                    · have := q4 z (by split <;> omega) g2
                      rw [z3] at this; cases this
                    · omega
                rw [e7]
              · have e7 : r7.toInt = l5.toInt := by
                  by_cases g2 : l5.toInt < r7.toInt
                  · have hg := gd_up hv5 (T := z) (T2 := l5.toInt) (by omega) z3
                    have := q4 l5.toInt (by split <;> omega) g2
                    rw [hg] at this; cases this
                  · split at q1 <;> omega
                rw [if_neg (by omega), if_neg hc]
      · have c2 : ¬ w.toInt = 2 := fun h => c2 (t_eq.mpr h)
        have c3 : w.toInt = 0 := t_eq.mp c3
        unfold ChI at hI
        rw [if_neg c2, if_pos c3] at hI
        have hcb := cnt_le (fun j => gd (dn ν (sq ν x j)) (ν 0 3)) i
        unfold fX4_drawnIsGood
        refine wp_bd (wp_bd (wp_mono (wp_keep (sX6_load hm5 hv5) (kf_X6_load m5)) ?_))
        rintro _ m6 ⟨⟨hm6, ht6⟩, hk6⟩
        have eT : (m6.1 2 16).toInt = ν 0 3 := hm6.1.2.2.2.1
        refine wp_bd (wp_mono (sX6_holdsK hm6 hv5 ht6 (m6.1 2 16) (by omega) (by omega)) ?_)
        rintro r m8 ⟨hm8, -, -, hr, hk8⟩
        rw [eT] at hr
        have e47' : m8.1 47 = m1.1 47 := by rw [(hk8 47 (by decide)).1, (hk6 47 (by decide)).1, e5, em]
        rcases hr with ⟨hr, hg⟩ | ⟨hr, hg, -⟩
        · rw [nar_bool (Or.inr hr)]
          refine wp_ret ?_
          rw [if_neg (by rw [t_eq, hr]; decide)]
          have e6 : (l5 + 1).toInt = l5.toInt + 1 := by rw [t_add]; simp only [Int32.reduceToInt]; omega
          refine hrc _ _ _ _ _ hlt ⟨i + 1, hl7, by omega, rfl, er4, e47', by omega, by omega, ?_, _, hm8⟩
          unfold ChI
          rw [if_neg c2, if_pos c3, e6, hI]
          simp only [cnt, hg, if_true]
          omega
        · rw [nar_bool (Or.inl hr)]
          refine wp_ret ?_
          rw [if_pos (t_eq.mpr hr)]
          refine hrc _ _ _ _ _ hlt ⟨i + 1, hl7, by omega, rfl, er4, e47', by omega, by omega, ?_, _, hm8⟩
          unfold ChI
          rw [if_neg c2, if_pos c3, hI]
          simp only [cnt, hg]
          simp
      · have c2 : ¬ w.toInt = 2 := fun h => c2 (t_eq.mpr h)
        have c3 : ¬ w.toInt = 0 := fun h => c3 (t_eq.mpr h)
        unfold ChI at hI
        rw [if_neg c2, if_neg c3] at hI
        have hcb := cnt_le (fun j => !bd (dn ν (sq ν x j)) (ν 0 3)) i
        unfold fX4_drawnIsForever
        refine wp_bd (wp_let (wp_bd (wp_mono (wp_keep (sX5_isForever (CN_wi hm5 (by omega)) hv5 (Or.inl (by rw [wi_self]; rfl))) (kf_X5_isForever _)) ?_)))
        rintro r m8 ⟨⟨hm8, -, -, hr⟩, hk8⟩
        rw [T5] at hr
        have e47' : m8.1 47 = m1.1 47 := by rw [(hk8 47 (by decide)).1, wi_ne (by omega), e5, em]
        cases hg : bd (dn ν (sq ν x i)) (ν 0 3) with
        | false =>
          rw [hg] at hr
          have hr : r.toInt = 1 := hr
          rw [nar_bool (Or.inr hr)]
          refine wp_ret ?_
          rw [if_neg (by rw [t_eq, hr]; decide)]
          have e6 : (l5 + 1).toInt = l5.toInt + 1 := by rw [t_add]; simp only [Int32.reduceToInt]; omega
          refine hrc _ _ _ _ _ hlt ⟨i + 1, hl7, by omega, rfl, er4, e47', by omega, by omega, ?_, _, hm8⟩
          unfold ChI
          rw [if_neg c2, if_neg c3, e6, hI]
          simp only [cnt, hg, Bool.not_false, if_true]
          omega
        | true =>
          rw [hg] at hr
          have hr : r.toInt = 0 := hr
          rw [nar_bool (Or.inl hr)]
          refine wp_ret ?_
          rw [if_pos (t_eq.mpr hr)]
          refine hrc _ _ _ _ _ hlt ⟨i + 1, hl7, by omega, rfl, er4, e47', by omega, by omega, ?_, _, hm8⟩
          unfold ChI
          rw [if_neg c2, if_neg c3, hI]
          simp only [cnt, hg]
          simp
  · unfold ChI
    have z0 : Int32.toInt 0 = 0 := rfl
    split
    · exact ⟨by decide, by decide, Or.inl rfl, fun j hj => by omega⟩
    · split <;> rfl
end CHN
