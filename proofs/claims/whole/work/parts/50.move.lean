/-! work that goes over a cell -/
def mb (ν : Nv) (c : Nat) (n : Int) (p : Nat) : Int := (if To ν p = c then n else 0) - (if Fr ν p = c then n else 0)
def mv (ν : Nv) (c : Nat) (n : Int) : Nv := fun a b => if a = 9 ∨ a = 10 then ν a b + mb ν c n b else ν a b
theorem mb_neg (ν : Nv) (c : Nat) (n : Int) (p : Nat) : mb ν c (-n) p = - mb ν c n p := by
  unfold mb
  split <;> split <;> omega
theorem mv_back (ν : Nv) (c : Nat) (n : Int) : mv (mv ν c n) c (-n) = ν := by
  funext a b
  show (if a = 9 ∨ a = 10 then (if a = 9 ∨ a = 10 then ν a b + mb ν c n b else ν a b) + mb ν c (-n) b else (if a = 9 ∨ a = 10 then ν a b + mb ν c n b else ν a b)) = ν a b
  rw [mb_neg]
  split <;> omega
theorem mb_bd (ν : Nv) (c : Nat) (n : Int) (p : Nat) (h1 : -2000 ≤ n) (h2 : n ≤ 2000) : -2000 ≤ mb ν c n p ∧ mb ν c n p ≤ 2000 := by
  unfold mb
  split <;> split <;> omega
/-- whether work can go over a cell -/
def Cmv (ν : Nv) (c : Nat) (n : Int) : Prop := ∀ p, p < nP ν → 0 ≤ ν 10 p + mb ν c n p ∧ ν 9 p + mb ν c n p ≤ 999
theorem vd_mv {ν : Nv} (hv : Vd ν) {c : Nat} {n : Int} (h : Cmv ν c n) : Vd (mv ν c n) := by
  obtain ⟨ha, hb, hc, hd, he⟩ := hv
  refine ⟨ha, hb, hc, fun p hp => ?_, he⟩
  have h1 := hd p hp
  have h2 := h p hp
  refine ⟨h1.1, h1.2.1, h1.2.2.1, h1.2.2.2.1, h2.1, ?_, h2.2⟩
  show ν 10 p + mb ν c n p ≤ ν 9 p + mb ν c n p
  omega
section MOV
variable {μ : ax_M} {ν : Nv}
theorem sX1_moveWork (h : CN μ ν) (hv : Vd ν) (hq : ∀ p, p < nP ν → -5000 ≤ ν 10 p ∧ ν 9 p ≤ 5000) (p1 x : Int32) (c : Nat) (hp1 : p1.toInt = (c : Nat)) (h1 : -2000 ≤ x.toInt) (h2 : x.toInt ≤ 2000) : Wp (fX1_moveWork p1 x μ) (fun _ m => CN m (mv ν c x.toInt)) := by
  have h0 := hv.1
  have hn := vd_nums hv
  have hnP : ν 0 2 = (nP ν : Nat) := by unfold nP; omega
  unfold fX1_moveWork
  refine wp_lp1 (fun k (l : Int32) m => ∃ i : Nat, l.toInt = (i : Int) ∧ i ≤ nP ν ∧ k = nP ν - i ∧ (∀ a, 2 ≤ a → a < 15 → a ≠ 13 → a ≠ 14 → m.1 a = μ.1 a) ∧ ∀ p, p < nP ν → (m.1 13 p).toInt = (if p < i then ν 9 p + mb ν c x.toInt p else ν 9 p) ∧ (m.1 14 p).toInt = (if p < i then ν 10 p + mb ν c x.toInt p else ν 10 p)) ax_FU ?_ (nP ν) (by unfold ax_FU; omega) ⟨0, rfl, by omega, rfl, fun _ _ _ _ _ => rfl, fun p hp => ⟨(h.2.2.2.1 p hp).2.2.1, (h.2.2.2.1 p hp).2.2.2⟩⟩
  rintro k rc hrc l m ⟨i, hl, hi, hk, kx, hw⟩
  unfold fX1_moveWork_B2 fX1_moveWork_K25
  have en : (m.1 2 14).toInt = ν 0 2 := by rw [kx 2 (by omega) (by omega) (by omega) (by omega)]; exact h.1.2.2.1
  refine wp_if (fun c1 => wp_ret ?_) (fun c1 => ?_)
  · rw [t_le, en, hl] at c1
    obtain ⟨a, hb, hc, hd, he⟩ := h
    refine ⟨?_, fun j hj => ?_, fun d hd2 => ?_, fun p hp => ?_, ?_⟩
    · rw [kx 2 (by omega) (by omega) (by omega) (by omega)]; exact a
    · rw [kx 3 (by omega) (by omega) (by omega) (by omega), kx 4 (by omega) (by omega) (by omega) (by omega), kx 5 (by omega) (by omega) (by omega) (by omega)]; exact hb j hj
    · rw [kx 6 (by omega) (by omega) (by omega) (by omega), kx 7 (by omega) (by omega) (by omega) (by omega), kx 8 (by omega) (by omega) (by omega) (by omega), kx 9 (by omega) (by omega) (by omega) (by omega), kx 10 (by omega) (by omega) (by omega) (by omega)]; exact hc d hd2
    · have hp : p < nP ν := hp
      have w := hw p hp
      rw [if_pos (by omega), if_pos (by omega)] at w
      rw [kx 11 (by omega) (by omega) (by omega) (by omega), kx 12 (by omega) (by omega) (by omega) (by omega)]
      exact ⟨(hd p hp).1, (hd p hp).2.1, w.1, w.2⟩
    · rw [kx 2 (by omega) (by omega) (by omega) (by omega)]; exact he
  · rw [t_le, en, hl] at c1
    have hi2 : i < nP ν := by omega
    obtain ⟨a1, a2, a3, a4, a5, a6⟩ := vd_path hv i hi2
    have e := h.2.2.2.1 i hi2
    have e12 : (m.1 12 i).toInt = (To ν i : Nat) := by rw [kx 12 (by omega) (by omega) (by omega) (by omega), e.2.1, a5]
    have e11 : (m.1 11 i).toInt = (Fr ν i : Nat) := by rw [kx 11 (by omega) (by omega) (by omega) (by omega), e.1, a4]
    have wi := hw i hi2
    rw [if_neg (by omega), if_neg (by omega)] at wi
    have vq := hq i hi2
    have vd4 := hv.2.2.2.1 i hi2
    have mbb := mb_bd ν c x.toInt i h1 h2
    -- the two numbers grow
    have fin : ∀ s0 s1 : Int32, s0.toInt - s1.toInt = mb ν c x.toInt i → -2000 ≤ s0.toInt → s0.toInt ≤ 2000 → -2000 ≤ s1.toInt → s1.toInt ≤ 2000 → Wp (fX1_moveWork_K40 p1 x l s0 s1 rc m) (fun _ m => CN m (mv ν c x.toInt)) := by
      intro s0 s1 hs b1 b2 b3 b4
      unfold fX1_moveWork_K40
      have hs2 : (s0 - s1).toInt = mb ν c x.toInt i := by rw [t_sub]; omega
      refine wp_let (wp_rd i hl a1 (wp_wr i hl a1 (wp_rd i hl a1 (wp_wr i hl a1 (hrc (nP ν - (i + 1)) _ _ (by omega) ⟨i + 1, by simp only [t_add, hl, Int32.reduceToInt]; omega, by omega, rfl, fun a q1 q2 q3 q4 => by rw [wi_ne q4, wi_ne q3]; exact kx a q1 q2 q3 q4, fun p hp => ?_⟩)))))
      rw [wi_ne (show 13 ≠ 14 by omega), wi_ne (show 14 ≠ 13 by omega)]
      have w := hw p hp
      by_cases ep : p = i
      · subst ep
        rw [wi_self, wi_self, if_pos (by omega), if_pos (by omega), t_add, t_add, hs2, wi.1, wi.2]
        omega
      · rw [wi_other ep, wi_other ep, wi_other ep, w.1, w.2]
        by_cases e5 : p < i
        · rw [if_pos e5, if_pos e5, if_pos (by omega), if_pos (by omega)]; exact ⟨rfl, rfl⟩
        · rw [if_neg e5, if_neg e5, if_neg (by omega), if_neg (by omega)]; exact ⟨rfl, rfl⟩
    have z0 : Int32.toInt 0 = 0 := rfl
    refine wp_rd i hl a1 (wp_if (fun c2 => wp_rd i hl a1 (wp_if (fun c3 => ?_) (fun c3 => ?_))) (fun c2 => wp_rd i hl a1 (wp_if (fun c3 => ?_) (fun c3 => ?_))))
    · rw [t_eq, e12, hp1] at c2
      rw [t_eq, e11, hp1] at c3
      exact fin _ _ (by unfold mb; rw [if_pos (by omega), if_pos (by omega)]) h1 h2 h1 h2
    · rw [t_eq, e12, hp1] at c2
      rw [t_eq, e11, hp1] at c3
      exact fin _ _ (by unfold mb; rw [if_pos (by omega), if_neg (by omega), z0]) h1 h2 (by omega) (by omega)
    · rw [t_eq, e12, hp1] at c2
      rw [t_eq, e11, hp1] at c3
      exact fin _ _ (by unfold mb; rw [if_neg (by omega), if_pos (by omega), z0]) (by omega) (by omega) h1 h2
    · rw [t_eq, e12, hp1] at c2
      rw [t_eq, e11, hp1] at c3
      exact fin _ _ (by unfold mb; rw [if_neg (by omega), if_neg (by omega), z0]) (by omega) (by omega) (by omega) (by omega)
/-- the bounds of a move, path by path -/
def Lo (ν : Nv) (c : Nat) (n : Int) (p : Nat) : Prop := Fr ν p ≠ To ν p → (To ν p = c → 0 ≤ ν 10 p + n) ∧ (Fr ν p = c → ν 9 p - n ≤ 999)
def Hi (ν : Nv) (c : Nat) (n : Int) (p : Nat) : Prop := Fr ν p ≠ To ν p → (To ν p = c → ν 9 p + n ≤ 999) ∧ (Fr ν p = c → 0 ≤ ν 10 p - n)
theorem cmv_iff (hv : Vd ν) (c : Nat) (n : Int) : Cmv ν c n ↔ ∀ p, p < nP ν → Lo ν c n p ∧ Hi ν c n p := by
  unfold Cmv Lo Hi mb
  constructor
  · intro h p hp
    have := h p hp
    refine ⟨fun hne => ⟨fun e => ?_, fun e => ?_⟩, fun hne => ⟨fun e => ?_, fun e => ?_⟩⟩
    · rw [if_pos e, if_neg (fun h2 => hne (h2.trans e.symm))] at this; omega
    · rw [if_pos e, if_neg (fun h2 => hne (e.trans h2.symm))] at this; omega
    · rw [if_pos e, if_neg (fun h2 => hne (h2.trans e.symm))] at this; omega
    · rw [if_pos e, if_neg (fun h2 => hne (e.trans h2.symm))] at this; omega
  · intro h p hp
    have h1 := h p hp
    have h2 := hv.2.2.2.1 p hp
    by_cases e1 : To ν p = c
    · by_cases e2 : Fr ν p = c
      · rw [if_pos e1, if_pos e2]; omega
      · have hne : Fr ν p ≠ To ν p := fun h3 => e2 (h3.trans e1)
        have a := (h1.1 hne).1 e1
        have b := (h1.2 hne).1 e1
        rw [if_pos e1, if_neg e2]; omega
    · by_cases e2 : Fr ν p = c
      · have hne : Fr ν p ≠ To ν p := fun h3 => e1 (h3.symm.trans e2)
        have a := (h1.1 hne).2 e2
        have b := (h1.2 hne).2 e2
        rw [if_neg e1, if_pos e2]; omega
      · rw [if_neg e1, if_neg e2]; omega
theorem sX1_leastMove (h : CN μ ν) (hv : Vd ν) (p1 : Int32) (c : Nat) (hp1 : p1.toInt = (c : Nat)) : Wp (fX1_leastMove p1 μ) (fun r m => m = μ ∧ -999 ≤ r.toInt ∧ r.toInt ≤ 999 ∧ ∀ n, r.toInt ≤ n ↔ (-999 ≤ n ∧ ∀ p, p < nP ν → Lo ν c n p)) := by
  have h0 := hv.1
  have hnP : ν 0 2 = (nP ν : Nat) := by unfold nP; omega
  unfold fX1_leastMove
  refine wp_lp2 (fun k (l2 l3 : Int32) m => m = μ ∧ ∃ i : Nat, l3.toInt = (i : Int) ∧ i ≤ nP ν ∧ k = nP ν - i ∧ -999 ≤ l2.toInt ∧ l2.toInt ≤ 999 ∧ ∀ n, l2.toInt ≤ n ↔ (-999 ≤ n ∧ ∀ p, p < i → Lo ν c n p)) ax_FU ?_ (nP ν) (by unfold ax_FU; omega) ⟨rfl, 0, rfl, by omega, rfl, by decide, by decide, fun n => ⟨fun h2 => ⟨h2, fun p hp => by omega⟩, fun h2 => h2.1⟩⟩
  rintro k rc hrc l2 l3 m ⟨rfl, i, hl3, hi, hk, hl2, hl2b, hb⟩
  unfold fX1_leastMove_B6 fX1_leastMove_K54 fX1_leastMove_K94
  have en := h.1.2.2.1
  refine wp_if (fun c1 => wp_ret ⟨rfl, hl2, hl2b, ?_⟩) (fun c1 => ?_)
  · rw [t_le, en, hl3] at c1
    rw [show i = nP ν by omega] at hb
    exact hb
  · rw [t_le, en, hl3] at c1
    have hi2 : i < nP ν := by omega
    obtain ⟨a1, a2, a3, a4, a5, a6⟩ := vd_path hv i hi2
    have e := h.2.2.2.1 i hi2
    have e12 : (m.1 12 i).toInt = (To ν i : Nat) := by rw [e.2.1, a5]
    have e11 : (m.1 11 i).toInt = (Fr ν i : Nat) := by rw [e.1, a4]
    have vd4 := hv.2.2.2.1 i hi2
    have go : ∀ x : Int32, -999 ≤ x.toInt → x.toInt ≤ 999 → (∀ n, x.toInt ≤ n ↔ (l2.toInt ≤ n ∧ Lo ν c n i)) → Wp (rc x (l3 + 1) m) (fun r m2 => m2 = m ∧ -999 ≤ r.toInt ∧ r.toInt ≤ 999 ∧ ∀ n, r.toInt ≤ n ↔ (-999 ≤ n ∧ ∀ p, p < nP ν → Lo ν c n p)) := by
      intro x x1 x2 hx
      refine hrc (nP ν - (i + 1)) _ _ _ (by omega) ⟨rfl, i + 1, by simp only [t_add, hl3, Int32.reduceToInt]; omega, by omega, rfl, x1, x2, fun n => ?_⟩
      rw [hx n, hb n]
      constructor
      · rintro ⟨⟨q1, q2⟩, q3⟩
        refine ⟨q1, fun p hp => ?_⟩
        by_cases ep : p = i
        · rw [ep]; exact q3
        · exact q2 p (by omega)
      · rintro ⟨q1, q2⟩
        exact ⟨⟨q1, fun p hp => q2 p (by omega)⟩, q2 i (by omega)⟩
    have same : (Fr ν i = To ν i ∨ (To ν i ≠ c ∧ Fr ν i ≠ c)) → Wp (rc l2 (l3 + 1) m) (fun r m2 => m2 = m ∧ -999 ≤ r.toInt ∧ r.toInt ≤ 999 ∧ ∀ n, r.toInt ≤ n ↔ (-999 ≤ n ∧ ∀ p, p < nP ν → Lo ν c n p)) := by
      intro hs
      refine go l2 hl2 hl2b (fun n => ⟨fun q => ⟨q, fun hne => ?_⟩, fun q => q.1⟩)
      rcases hs with hs | ⟨hs1, hs2⟩
      · exact absurd hs hne
      · exact ⟨fun e => absurd e hs1, fun e => absurd e hs2⟩
    refine wp_rd i hl3 a1 (wp_rd i hl3 a1 (wp_if (fun c2 => ?_) (fun c2 => wp_rd i hl3 a1 (wp_if (fun c3 => ?_) (fun c3 => ?_)))))
    · rw [t_eq, e11, e12] at c2
      refine wp_rd i hl3 a1 (wp_rd i hl3 a1 (wp_if (fun _ => same (Or.inl (by omega))) (fun c3 => absurd (t_eq.mpr (by rw [e11, e12]; exact c2)) c3)))
    · rw [t_eq, e11, e12] at c2
      rw [t_eq, e12, hp1] at c3
      have hto : To ν i = c := by omega
      have hfr : Fr ν i ≠ c := by omega
      have hmx := mx_toInt l2 (-(m.1 14 i))
      have hneg : (-(m.1 14 i)).toInt = - ν 10 i := by rw [t_neg, e.2.2.2]; omega
      rw [hneg] at hmx
      refine wp_rd i hl3 a1 (wp_let (go _ (by rw [hmx]; split <;> omega) (by rw [hmx]; split <;> omega) (fun n => ?_)))
      rw [hmx]
      constructor
      · intro q
        refine ⟨by split at q <;> omega, fun _ => ⟨fun _ => by split at q <;> omega, fun e9 => absurd e9 hfr⟩⟩
      · rintro ⟨q1, q2⟩
        have := (q2 (by omega)).1 hto
        split <;> omega
    · rw [t_eq, e11, e12] at c2
      rw [t_eq, e12, hp1] at c3
      have hto : To ν i ≠ c := by omega
      refine wp_rd i hl3 a1 (wp_rd i hl3 a1 (wp_if (fun c4 => ?_) (fun c4 => wp_rd i hl3 a1 (wp_if (fun c5 => ?_) (fun c5 => ?_)))))
      · rw [t_eq, e11, e12] at c4
        exact absurd c4 c2
      · rw [t_eq, e11, hp1] at c5
        have hfr : Fr ν i = c := by omega
        have hmx := mx_toInt l2 ((m.1 13 i) - 999)
        have hsb : ((m.1 13 i) - 999).toInt = ν 9 i - 999 := by rw [t_sub, e.2.2.1]; simp only [Int32.reduceToInt]; omega
        rw [hsb] at hmx
        refine wp_rd i hl3 a1 (wp_let (go _ (by rw [hmx]; split <;> omega) (by rw [hmx]; split <;> omega) (fun n => ?_)))
        rw [hmx]
        constructor
        · intro q
          refine ⟨by split at q <;> omega, fun _ => ⟨fun e9 => absurd e9 hto, fun _ => by split at q <;> omega⟩⟩
        · rintro ⟨q1, q2⟩
          have := (q2 (by omega)).2 hfr
          split <;> omega
      · rw [t_eq, e11, hp1] at c5
        exact same (Or.inr ⟨hto, by omega⟩)
end MOV
