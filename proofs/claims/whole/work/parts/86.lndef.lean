/-! lines as functions, and what they keep -/
noncomputable def ix (f : Nat → Int) (N : Nat) (z : Int) : Int := Classical.epsilon (fun v => FndA f N z v)
theorem ix_eq {f : Nat → Int} {N : Nat} {z v : Int} (h : FndA f N z v) : ix f N z = v := fndA_unique (Classical.epsilon_spec (p := fun v => FndA f N z v) ⟨v, h⟩) h
theorem fnd_ex (f : Nat → Int) (N : Nat) (z : Int) : ∃ v, FndA f N z v := by
  induction N with
  | zero => exact ⟨-1, Or.inl ⟨rfl, fun i hi => by omega⟩⟩
  | succ N ih =>
    obtain ⟨v, h⟩ := ih
    rcases h with ⟨h1, h2⟩ | ⟨i, h1, h2, h3, h4⟩
    · by_cases e : f N = z
      · exact ⟨N, Or.inr ⟨N, by omega, rfl, e, h2⟩⟩
      · refine ⟨-1, Or.inl ⟨rfl, fun i hi => ?_⟩⟩
        by_cases g : i = N
        · rw [g]; exact e
        · exact h2 i (by omega)
    · exact ⟨v, Or.inr ⟨i, by omega, h2, h3, h4⟩⟩
theorem ix_bd {f : Nat → Int} {N : Nat} {z : Int} (h : ¬ nf f N z = true) : 0 ≤ ix f N z ∧ ix f N z < (N : Int) := by
  obtain ⟨v, hv⟩ := fnd_ex f N z
  rw [ix_eq hv]
  have hn : ¬ v = -1 := fun g => h ((nf_neg hv).1 g)
  rcases hv with ⟨h1, h2⟩ | ⟨i, h1, h2, h3, h4⟩
  · exact absurd h1 hn
  · omega
theorem up_nn {D : Nv} {k i k2 i2 : Nat} {z : Int} (h : ¬ (k2 = k ∧ i2 = i)) : up D k i z k2 i2 = D k2 i2 := if_neg h
def addC (D : Nv) (x h s o t fl : Int) : Nv := up (up (up (up (up (up (up D 13 (nC D) x) 3 (nC D) h) 4 (nC D) s) 5 (nC D) o) 6 (nC D) t) 11 (nC D) fl) 0 1 (D 0 1 + 1)
def addP (D : Nv) (f t mo le : Int) : Nv := up (up (up (up (up D 7 (nP D) f) 8 (nP D) t) 9 (nP D) mo) 10 (nP D) le) 0 2 (D 0 2 + 1)
section ADDS
variable {D : Nv} {x o w h s t fl f mo le : Int}
theorem addH_o {k i : Nat} (h0 : ¬ (k = 0 ∧ i = 0)) (h : i ≠ nH D ∨ (k ≠ 12 ∧ k ≠ 1 ∧ k ≠ 2)) : addH D x o w k i = D k i := by
  unfold addH
  rw [up_nn (by omega), up_nn (by omega), up_nn (by omega), up_nn (by omega)]
theorem addH_0 : addH D x o w 0 0 = D 0 0 + 1 := by unfold addH; rw [up_at]
theorem addH_12 : addH D x o w 12 (nH D) = x := by
  unfold addH
  rw [up_k (by omega), up_k (by omega), up_k (by omega), up_at]
theorem addH_1 : addH D x o w 1 (nH D) = o := by
  unfold addH
  rw [up_k (by omega), up_k (by omega), up_at]
theorem addH_2 : addH D x o w 2 (nH D) = w := by
  unfold addH
  rw [up_k (by omega), up_at]
theorem addH_nH (h : 0 ≤ D 0 0) : nH (addH D x o w) = nH D + 1 := by
  unfold nH
  rw [addH_0]
  omega
theorem addH_nC : nC (addH D x o w) = nC D := nC_of (addH_o (by omega) (by omega))
theorem addH_nP : nP (addH D x o w) = nP D := nP_of (addH_o (by omega) (by omega))
theorem addC_o {k i : Nat} (h0 : ¬ (k = 0 ∧ i = 1)) (h1 : i ≠ nC D ∨ (k ≠ 13 ∧ k ≠ 3 ∧ k ≠ 4 ∧ k ≠ 5 ∧ k ≠ 6 ∧ k ≠ 11)) : addC D x h s o t fl k i = D k i := by
  unfold addC
  rw [up_nn (by omega), up_nn (by omega), up_nn (by omega), up_nn (by omega), up_nn (by omega), up_nn (by omega), up_nn (by omega)]
theorem addC_0 : addC D x h s o t fl 0 1 = D 0 1 + 1 := by unfold addC; rw [up_at]
theorem addC_13 : addC D x h s o t fl 13 (nC D) = x := by
  unfold addC
  rw [up_k (by omega), up_k (by omega), up_k (by omega), up_k (by omega), up_k (by omega), up_k (by omega), up_at]
theorem addC_3 : addC D x h s o t fl 3 (nC D) = h := by
  unfold addC
  rw [up_k (by omega), up_k (by omega), up_k (by omega), up_k (by omega), up_k (by omega), up_at]
theorem addC_4 : addC D x h s o t fl 4 (nC D) = s := by
  unfold addC
  rw [up_k (by omega), up_k (by omega), up_k (by omega), up_k (by omega), up_at]
theorem addC_5 : addC D x h s o t fl 5 (nC D) = o := by
  unfold addC
  rw [up_k (by omega), up_k (by omega), up_k (by omega), up_at]
theorem addC_6 : addC D x h s o t fl 6 (nC D) = t := by
  unfold addC
  rw [up_k (by omega), up_k (by omega), up_at]
theorem addC_11 : addC D x h s o t fl 11 (nC D) = fl := by
  unfold addC
  rw [up_k (by omega), up_at]
theorem addC_nC (h9 : 0 ≤ D 0 1) : nC (addC D x h s o t fl) = nC D + 1 := by
  unfold nC
  rw [addC_0]
  omega
theorem addC_nH : nH (addC D x h s o t fl) = nH D := nH_of (addC_o (by omega) (by omega))
theorem addC_nP : nP (addC D x h s o t fl) = nP D := nP_of (addC_o (by omega) (by omega))
theorem addP_o {k i : Nat} (h0 : ¬ (k = 0 ∧ i = 2)) (h1 : i ≠ nP D ∨ (k ≠ 7 ∧ k ≠ 8 ∧ k ≠ 9 ∧ k ≠ 10)) : addP D f t mo le k i = D k i := by
  unfold addP
  rw [up_nn (by omega), up_nn (by omega), up_nn (by omega), up_nn (by omega), up_nn (by omega)]
theorem addP_0 : addP D f t mo le 0 2 = D 0 2 + 1 := by unfold addP; rw [up_at]
theorem addP_7 : addP D f t mo le 7 (nP D) = f := by
  unfold addP
  rw [up_k (by omega), up_k (by omega), up_k (by omega), up_k (by omega), up_at]
theorem addP_8 : addP D f t mo le 8 (nP D) = t := by
  unfold addP
  rw [up_k (by omega), up_k (by omega), up_k (by omega), up_at]
theorem addP_9 : addP D f t mo le 9 (nP D) = mo := by
  unfold addP
  rw [up_k (by omega), up_k (by omega), up_at]
theorem addP_10 : addP D f t mo le 10 (nP D) = le := by
  unfold addP
  rw [up_k (by omega), up_at]
theorem addP_nP (h : 0 ≤ D 0 2) : nP (addP D f t mo le) = nP D + 1 := by
  unfold nP
  rw [addP_0]
  omega
theorem addP_nH : nH (addP D f t mo le) = nH D := nH_of (addP_o (by omega) (by omega))
theorem addP_nC : nC (addP D f t mo le) = nC D := nC_of (addP_o (by omega) (by omega))
theorem vd_addH (hv : Vd D) (h4 : D 0 0 < 4) (ho : 0 ≤ o ∧ o ≤ 63) (hw : 1 ≤ w ∧ w ≤ 63) : Vd (addH D x o w) := by
  obtain ⟨k0, k1, k2, k3, k4⟩ := hv
  have n0 : nH (addH D x o w) = nH D + 1 := addH_nH k0.1
  refine ⟨?_, fun i hi => ?_, fun c hc => ?_, fun p hp => ?_, fun p q hp hq => ?_⟩
  · rw [addH_0, addH_o (by omega) (by omega), addH_o (by omega) (by omega), addH_o (by omega) (by omega), addH_o (by omega) (by omega), addH_o (by omega) (by omega)]
    omega
  · by_cases e : i = nH D
    · rw [e, addH_1, addH_2]; omega
    · rw [addH_o (by omega) (by omega), addH_o (by omega) (by omega)]
      exact k1 i (by omega)
  · rw [addH_nC] at hc
    have := k2 c hc
    rw [addH_0, addH_o (by omega) (by omega), addH_o (by omega) (by omega), addH_o (by omega) (by omega), addH_o (by omega) (by omega), addH_o (by omega) (by omega)]
    omega
  · rw [addH_nP] at hp
    have := k3 p hp
    rw [addH_o (by omega) (by omega), addH_o (by omega) (by omega), addH_o (by omega) (by omega), addH_o (by omega) (by omega), addH_o (by omega) (by omega)]
    exact this
  · rw [addH_nP] at hp hq
    rw [addH_o (by omega) (by omega), addH_o (by omega) (by omega), addH_o (by omega) (by omega), addH_o (by omega) (by omega)]
    exact k4 p q hp hq
theorem vd_addC (hv : Vd D) (h4 : D 0 1 < 10) (hh : 0 ≤ h ∧ h < D 0 0) (hs : 0 ≤ s ∧ s ≤ 99) (ho : 0 ≤ o ∧ o ≤ 99) (ht : 0 ≤ t ∧ t ≤ 99) (hf : fl = 0 ∨ fl = 1) : Vd (addC D x h s o t fl) := by
  obtain ⟨k0, k1, k2, k3, k4⟩ := hv
  have n0 : nC (addC D x h s o t fl) = nC D + 1 := addC_nC k0.2.2.1
  refine ⟨?_, fun i hi => ?_, fun c hc => ?_, fun p hp => ?_, fun p q hp hq => ?_⟩
  · rw [addC_0, addC_o (by omega) (by omega), addC_o (by omega) (by omega), addC_o (by omega) (by omega), addC_o (by omega) (by omega), addC_o (by omega) (by omega)]
    omega
  · rw [addC_nH] at hi
    rw [addC_o (by omega) (by omega), addC_o (by omega) (by omega)]
    exact k1 i hi
  · rw [show addC D x h s o t fl 0 0 = D 0 0 from addC_o (by omega) (by omega)]
    by_cases e : c = nC D
    · rw [e, addC_3, addC_4, addC_5, addC_6, addC_11]
      exact ⟨hh.1, hh.2, hs.1, hs.2, ho.1, ho.2, ht.1, ht.2, hf⟩
    · rw [addC_o (by omega) (by omega), addC_o (by omega) (by omega), addC_o (by omega) (by omega), addC_o (by omega) (by omega), addC_o (by omega) (by omega)]
      exact k2 c (by omega)
  · rw [addC_nP] at hp
    have := k3 p hp
    rw [addC_0, addC_o (by omega) (by omega), addC_o (by omega) (by omega), addC_o (by omega) (by omega), addC_o (by omega) (by omega)]
    omega
  · rw [addC_nP] at hp hq
    rw [addC_o (by omega) (by omega), addC_o (by omega) (by omega), addC_o (by omega) (by omega), addC_o (by omega) (by omega)]
    exact k4 p q hp hq
theorem vd_addP (hv : Vd D) (h4 : D 0 2 < 24) (hf : 0 ≤ f ∧ f < D 0 1) (ht : 0 ≤ t ∧ t < D 0 1) (hl : 0 ≤ le ∧ le ≤ mo) (hm : mo ≤ 999) (hn : ∀ i, i < nP D → ¬ (D 7 i = f ∧ D 8 i = t)) : Vd (addP D f t mo le) := by
  obtain ⟨k0, k1, k2, k3, k4⟩ := hv
  have n0 : nP (addP D f t mo le) = nP D + 1 := addP_nP k0.2.2.2.2.1
  refine ⟨?_, fun i hi => ?_, fun c hc => ?_, fun p hp => ?_, fun p q hp hq => ?_⟩
  · rw [addP_0, addP_o (by omega) (by omega), addP_o (by omega) (by omega), addP_o (by omega) (by omega), addP_o (by omega) (by omega), addP_o (by omega) (by omega)]
    omega
  · rw [addP_nH] at hi
    rw [addP_o (by omega) (by omega), addP_o (by omega) (by omega)]
    exact k1 i hi
  · rw [addP_nC] at hc
    rw [addP_o (by omega) (by omega), addP_o (by omega) (by omega), addP_o (by omega) (by omega), addP_o (by omega) (by omega), addP_o (by omega) (by omega), addP_o (by omega) (by omega)]
    exact k2 c hc
  · rw [show addP D f t mo le 0 1 = D 0 1 from addP_o (by omega) (by omega)]
    by_cases e : p = nP D
    · rw [e, addP_7, addP_8, addP_9, addP_10]
      exact ⟨hf.1, hf.2, ht.1, ht.2, hl.1, hl.2, hm⟩
    · rw [addP_o (by omega) (by omega), addP_o (by omega) (by omega), addP_o (by omega) (by omega), addP_o (by omega) (by omega)]
      exact k3 p (by omega)
  · by_cases e : p = nP D
    · by_cases e2 : q = nP D
      · exact fun _ _ => e.trans e2.symm
      · rw [e, addP_7, addP_8, addP_o (by omega) (by omega), addP_o (by omega) (by omega)]
        exact fun g1 g2 => absurd ⟨g1.symm, g2.symm⟩ (hn q (by omega))
    · by_cases e2 : q = nP D
      · rw [e2, addP_7, addP_8, addP_o (by omega) (by omega), addP_o (by omega) (by omega)]
        exact fun g1 g2 => absurd ⟨g1, g2⟩ (hn p (by omega))
      · rw [addP_o (by omega) (by omega), addP_o (by omega) (by omega), addP_o (by omega) (by omega), addP_o (by omega) (by omega)]
        exact k4 p q (by omega) (by omega)
end ADDS
/-! the lines -/
noncomputable def c0s (D : Nv) (p0 : Int) (a : Nat) : Rs := sIf (¬ D 0 1 < 10) 2 p0 (.ok a)
noncomputable def c1s (T : Nat → Int) (n : Nat) (D : Nv) (p0 : Int) (a : Nat) : Rs := sIf (nf (D 13) (nC D) (rv T n (c0s D p0 a)) = false) 3 (rp T n (c0s D p0 a)) (sName T n (c0s D p0 a))
noncomputable def c2s (T : Nat → Int) (n : Nat) (D : Nv) (p0 : Int) (a : Nat) : Rs := sIf (nf (D 12) (nH D) (rv T n (c1s T n D p0 a)) = true) 4 (rp T n (c1s T n D p0 a)) (sName T n (c1s T n D p0 a))
noncomputable def lnCell (T : Nat → Int) (n : Nat) (D : Nv) (fl p0 : Int) (a : Nat) : Except (Int × Int) (Nv × Nat) := fin (addC D (rv T n (c0s D p0 a)) (ix (D 12) (nH D) (rv T n (c1s T n D p0 a))) (rv T n (c2s T n D p0 a)) (rv T n (sNum T n 0 99 (c2s T n D p0 a))) (rv T n (sNum T n 0 99 (sNum T n 0 99 (c2s T n D p0 a)))) fl) (sStop T n (sNum T n 0 99 (sNum T n 0 99 (sNum T n 0 99 (c2s T n D p0 a)))))
abbrev tp (D : Nv) (x y : Int) : Prop := ∃ i, i < nP D ∧ (D 7 i = x ∧ D 8 i = y)
noncomputable def w0s (D : Nv) (p0 : Int) (a : Nat) : Rs := sIf (¬ D 0 2 < 24) 2 p0 (.ok a)
noncomputable def w1s (T : Nat → Int) (n : Nat) (D : Nv) (p0 : Int) (a : Nat) : Rs := sIf (nf (D 13) (nC D) (rv T n (w0s D p0 a)) = true) 4 (rp T n (w0s D p0 a)) (sName T n (w0s D p0 a))
noncomputable def w2s (T : Nat → Int) (n : Nat) (D : Nv) (p0 : Int) (a : Nat) : Rs := sIf (nf (D 13) (nC D) (rv T n (w1s T n D p0 a)) = true) 4 (rp T n (w1s T n D p0 a)) (sName T n (w1s T n D p0 a))
noncomputable def w3s (T : Nat → Int) (n : Nat) (D : Nv) (p0 : Int) (a : Nat) : Rs := sIf (tp D (ix (D 13) (nC D) (rv T n (w0s D p0 a))) (ix (D 13) (nC D) (rv T n (w1s T n D p0 a)))) 3 (rp T n (w1s T n D p0 a)) (w2s T n D p0 a)
noncomputable def lnPath (T : Nat → Int) (n : Nat) (D : Nv) (p0 : Int) (a : Nat) : Except (Int × Int) (Nv × Nat) := fin (addP D (ix (D 13) (nC D) (rv T n (w0s D p0 a))) (ix (D 13) (nC D) (rv T n (w1s T n D p0 a))) (rv T n (w3s T n D p0 a)) (rv T n (sNum T n 0 999 (w3s T n D p0 a)))) (sStop T n (sNum T n 0 (rv T n (w3s T n D p0 a)) (sNum T n 0 999 (w3s T n D p0 a))))
noncomputable def ln (T : Nat → Int) (n : Nat) (D : Nv) (a : Nat) : Except (Int × Int) (Nv × Nat) :=
  if tkk T n a = 1 then
    (if tkv T n a = WV 0 then lnOnce T n D 0 3 1 9999 (tkp T n a) (tka T n a)
    else if tkv T n a = WV 1 then lnPhase T n D (tkp T n a) (tka T n a)
    else if tkv T n a = WV 2 then lnCell T n D 0 (tkp T n a) (tka T n a)
    else if tkv T n a = WV 3 then lnCell T n D 1 (tkp T n a) (tka T n a)
    else if tkv T n a = WV 4 then lnPath T n D (tkp T n a) (tka T n a)
    else if tkv T n a = WV 5 then lnOnce T n D 5 4 0 99 (tkp T n a) (tka T n a)
    else if tkv T n a = WV 6 then lnOnce T n D 6 5 0 99999 (tkp T n a) (tka T n a)
    else .error (1, tkp T n a))
  else .error (1, tkp T n a)
theorem fin_inv {D D2 : Nv} {r : Rs} {b : Nat} (h : fin D r = .ok (D2, b)) : r = .ok b ∧ D2 = D := by
  cases r with
  | error e => cases h
  | ok c => cases h; exact ⟨rfl, rfl⟩
/-! a reading goes forward -/
def PG (T : Nat → Int) (n : Nat) : Prop := ∀ a, a ≤ n → a ≤ tka T n a ∧ tka T n a ≤ n ∧ (tkk T n a ≠ 0 → a < tka T n a)
theorem tok_fw {T : Nat → Int} {n a k pl a2 : Nat} {v : Int} (h : Tok T n a k pl v a2) : a ≤ a2 ∧ a2 ≤ n ∧ (k ≠ 0 → a < a2) := by
  obtain ⟨⟨h1, h2, h3, h4⟩, h5⟩ := h
  rcases h5 with ⟨g1, g2, g3⟩ | ⟨g1, g2, ⟨g3, g4, g5, g6⟩, g7⟩ | ⟨g1, g2, ⟨g3, g4, g5, g6⟩, g7, g8⟩ | ⟨g1, g2, g3, g4⟩ | ⟨g1, g2, g3, g4, g5, g6⟩
  · omega
  · have hne : a2 ≠ pl := by
      intro e
      rw [e] at g6
      exact g6 g1 g2
    omega
  · have hne : a2 ≠ pl := by
      intro e
      rw [e] at g6
      exact g6 g1 g2
    omega
  · omega
  · omega
theorem pg_of {m : ax_M} {T : Nat → Int} {n : Nat} (h : CT m T n) (hT : Tp T) : PG T n := by
  intro a ha
  have hn := h.2.2
  have hw := sX3_readToken (CT_wi (j := 6) (v := Int32.ofNat a) h (by omega)) hT a (by rw [wi_self, Int32.toInt_ofNat', t_bmod]; omega) ha
  obtain ⟨r, m2, _, k, pl, v, a2, w1, _⟩ := hw
  obtain ⟨e1, e2, e3, e4⟩ := tk_eq w1
  rw [e1, e3]
  exact tok_fw w1
def Ge (n a : Nat) (r : Rs) : Prop := ∀ b, r = .ok b → a ≤ b ∧ b ≤ n
section GES
variable {T : Nat → Int} {n a : Nat} {r : Rs}
theorem ge_ok (h : a ≤ n) : Ge n a (.ok a) := by
  intro b e
  cases e
  exact ⟨by omega, h⟩
theorem ge_num (hp : PG T n) {lo hi : Int} (h : Ge n a r) : Ge n a (sNum T n lo hi r) := by
  intro b e
  obtain ⟨c, h1, _, _, h2⟩ := sNum_inv e
  have := h c h1
  have := hp c (by omega)
  omega
theorem ge_stop (hp : PG T n) (h : Ge n a r) : Ge n a (sStop T n r) := by
  intro b e
  obtain ⟨c, h1, h2⟩ := sStop_inv e
  have := h c h1
  have := hp c (by omega)
  omega
theorem ge_name (hp : PG T n) (h : Ge n a r) : Ge n a (sName T n r) := by
  intro b e
  obtain ⟨c, h1, h2⟩ := sName_inv e
  have := h c h1
  have := hp c (by omega)
  omega
theorem ge_if {c : Prop} [Decidable c] {x p : Int} (h : Ge n a r) : Ge n a (sIf c x p r) := by
  intro b e
  exact h b (sIf_inv e).1
end GES
theorem ln_fw {T : Nat → Int} {n : Nat} {D D2 : Nv} {a b : Nat} (hp : PG T n) (ha : a ≤ n) (h : ln T n D a = .ok (D2, b)) : a < b ∧ b ≤ n := by
  have h0 := hp a ha
  have key : ∀ r : Rs, Ge n (tka T n a) r → ∀ D3 : Nv, fin D3 (sStop T n r) = .ok (D2, b) → tka T n a ≤ b ∧ b ≤ n := by
    intro r hr D3 e
    exact ge_stop hp hr b (fin_inv e).1
  have hok := ge_ok (a := tka T n a) h0.2.1
  unfold ln at h
  split at h
  · rename_i hk
    have h1 : a < tka T n a := h0.2.2 (by omega)
    have goal : tka T n a ≤ b ∧ b ≤ n := by
      split at h
      · exact key _ (ge_num hp (ge_if hok)) _ h
      · split at h
        · exact key _ (ge_num hp (ge_num hp (ge_if (ge_name hp (ge_if hok))))) _ h
        · split at h
          · exact key _ (ge_num hp (ge_num hp (ge_num hp (ge_if (ge_name hp (ge_if (ge_name hp (ge_if hok)))))))) _ h
          · split at h
            · exact key _ (ge_num hp (ge_num hp (ge_num hp (ge_if (ge_name hp (ge_if (ge_name hp (ge_if hok)))))))) _ h
            · split at h
              · exact key _ (ge_num hp (ge_num hp (ge_if (ge_if (ge_name hp (ge_if (ge_name hp (ge_if hok)))))))) _ h
              · split at h
                · exact key _ (ge_num hp (ge_if hok)) _ h
                · split at h
                  · exact key _ (ge_num hp (ge_if hok)) _ h
                  · cases h
    omega
  · cases h
/-! the bounds are kept -/
section VDS
variable {T : Nat → Int} {n : Nat} {D D2 : Nv} {a b : Nat} {p0 : Int}
theorem vd_once (hv : Vd D) {w c : Nat} {lo hi z : Int} (hc : c = 3 ∧ lo = 1 ∧ hi = 9999 ∨ c = 4 ∧ lo = 0 ∧ hi = 99 ∨ c = 5 ∧ lo = 0 ∧ hi = 99999) (hz : lo ≤ z ∧ z ≤ hi) : Vd (up (up D 14 w 1) 0 c z) := by
  obtain ⟨k0, k1, k2, k3, k4⟩ := hv
  have o : ∀ k i, k ≠ 14 → ¬ (k = 0 ∧ i = c) → up (up D 14 w 1) 0 c z k i = D k i := fun k i h1 h2 => by rw [up_nn h2, up_k h1]
  have n0 : nH (up (up D 14 w 1) 0 c z) = nH D := nH_of (o 0 0 (by omega) (by omega))
  have n1 : nC (up (up D 14 w 1) 0 c z) = nC D := nC_of (o 0 1 (by omega) (by omega))
  have n2 : nP (up (up D 14 w 1) 0 c z) = nP D := nP_of (o 0 2 (by omega) (by omega))
  refine ⟨?_, fun i hi => ?_, fun c2 hc2 => ?_, fun p hp => ?_, fun p q hp hq => ?_⟩
  · rw [o 0 0 (by omega) (by omega), o 0 1 (by omega) (by omega), o 0 2 (by omega) (by omega)]
    rcases hc with ⟨rfl, rfl, rfl⟩ | ⟨rfl, rfl, rfl⟩ | ⟨rfl, rfl, rfl⟩
    · rw [up_at, o 0 4 (by omega) (by omega), o 0 5 (by omega) (by omega)]
      omega
    · rw [up_at, o 0 3 (by omega) (by omega), o 0 5 (by omega) (by omega)]
      omega
    · rw [up_at, o 0 3 (by omega) (by omega), o 0 4 (by omega) (by omega)]
      omega
  · rw [o 1 i (by omega) (by omega), o 2 i (by omega) (by omega)]
    exact k1 i (by omega)
  · rw [o 0 0 (by omega) (by omega), o 3 c2 (by omega) (by omega), o 4 c2 (by omega) (by omega), o 5 c2 (by omega) (by omega), o 6 c2 (by omega) (by omega), o 11 c2 (by omega) (by omega)]
    exact k2 c2 (by omega)
  · rw [o 0 1 (by omega) (by omega), o 7 p (by omega) (by omega), o 8 p (by omega) (by omega), o 9 p (by omega) (by omega), o 10 p (by omega) (by omega)]
    exact k3 p (by omega)
  · rw [o 7 p (by omega) (by omega), o 8 p (by omega) (by omega), o 7 q (by omega) (by omega), o 8 q (by omega) (by omega)]
    exact k4 p q (by omega) (by omega)
theorem vd_lnOnce (hv : Vd D) {w c : Nat} {lo hi : Int} (hc : c = 3 ∧ lo = 1 ∧ hi = 9999 ∨ c = 4 ∧ lo = 0 ∧ hi = 99 ∨ c = 5 ∧ lo = 0 ∧ hi = 99999) (h : lnOnce T n D w c lo hi p0 a = .ok (D2, b)) : Vd D2 := by
  unfold lnOnce at h
  obtain ⟨h1, h2⟩ := fin_inv h
  obtain ⟨b2, h3, _⟩ := sStop_inv h1
  obtain ⟨b3, _, h5, h6, _⟩ := sNum_inv h3
  rw [h2]
  exact vd_once hv hc ⟨h5, h6⟩
theorem vd_lnPhase (hv : Vd D) (h : lnPhase T n D p0 a = .ok (D2, b)) : Vd D2 := by
  unfold lnPhase at h
  obtain ⟨h1, h2⟩ := fin_inv h
  obtain ⟨b2, h3, _⟩ := sStop_inv h1
  obtain ⟨b3, h4, h5, h6, _⟩ := sNum_inv h3
  obtain ⟨b4, h7, h8, h9, _⟩ := sNum_inv h4
  obtain ⟨h10, _⟩ := sIf_inv h7
  obtain ⟨b5, h11, _⟩ := sName_inv h10
  obtain ⟨_, h12⟩ := sIf_inv h11
  rw [h2]
  exact vd_addH hv (Classical.not_not.mp h12) ⟨h8, h9⟩ ⟨h5, h6⟩
theorem vd_lnCell (hv : Vd D) {fl : Int} (hf : fl = 0 ∨ fl = 1) (h : lnCell T n D fl p0 a = .ok (D2, b)) : Vd D2 := by
  unfold lnCell at h
  obtain ⟨h1, h2⟩ := fin_inv h
  obtain ⟨b2, h3, _⟩ := sStop_inv h1
  obtain ⟨b3, h4, h5, h6, _⟩ := sNum_inv h3
  obtain ⟨b4, h7, h8, h9, _⟩ := sNum_inv h4
  obtain ⟨b5, h10, h11, h12, _⟩ := sNum_inv h7
  obtain ⟨h13, h14⟩ := sIf_inv h10
  obtain ⟨b6, h15, _⟩ := sName_inv h13
  obtain ⟨h16, _⟩ := sIf_inv h15
  obtain ⟨b7, h17, _⟩ := sName_inv h16
  obtain ⟨_, h18⟩ := sIf_inv h17
  have hb := ix_bd h14
  rw [← (vd_cast hv).1] at hb
  rw [h2]
  exact vd_addC hv (Classical.not_not.mp h18) hb ⟨h11, h12⟩ ⟨h8, h9⟩ ⟨h5, h6⟩ hf
theorem vd_lnPath (hv : Vd D) (h : lnPath T n D p0 a = .ok (D2, b)) : Vd D2 := by
  unfold lnPath at h
  obtain ⟨h1, h2⟩ := fin_inv h
  obtain ⟨b2, h3, _⟩ := sStop_inv h1
  obtain ⟨b3, h4, h5, h6, _⟩ := sNum_inv h3
  obtain ⟨b4, h7, h8, h9, _⟩ := sNum_inv h4
  obtain ⟨h10, h11⟩ := sIf_inv h7
  obtain ⟨h13, h14⟩ := sIf_inv h10
  obtain ⟨b6, h15, _⟩ := sName_inv h13
  obtain ⟨h16, h17⟩ := sIf_inv h15
  obtain ⟨b7, h18, _⟩ := sName_inv h16
  obtain ⟨_, h19⟩ := sIf_inv h18
  have hb := ix_bd h14
  have hb2 := ix_bd h17
  rw [← (vd_cast hv).2.1] at hb hb2
  rw [h2]
  exact vd_addP hv (Classical.not_not.mp h19) hb2 hb ⟨h5, h6⟩ h9 (fun i hi g => h11 ⟨i, hi, g⟩)
theorem vd_ln (hv : Vd D) (h : ln T n D a = .ok (D2, b)) : Vd D2 := by
  unfold ln at h
  split at h
  · split at h
    · exact vd_lnOnce hv (by omega) h
    · split at h
      · exact vd_lnPhase hv h
      · split at h
        · exact vd_lnCell hv (Or.inl rfl) h
        · split at h
          · exact vd_lnCell hv (Or.inr rfl) h
          · split at h
            · exact vd_lnPath hv h
            · split at h
              · exact vd_lnOnce hv (by omega) h
              · split at h
                · exact vd_lnOnce hv (by omega) h
                · cases h
  · cases h
end VDS
/-! the text -/
noncomputable def tx (T : Nat → Int) (n : Nat) : Nat → Nv → Nat → Nat → Except (Int × Int) (Nv × Nat)
  | 0, D, _, l => .ok (D, l)
  | k + 1, D, a, l => if tkk T n a = 0 then .ok (D, l) else (match ln T n D a with
    | .error e => .error e
    | .ok x => tx T n k x.1 x.2 (l + 1))
theorem tx_end {T : Nat → Int} {n k : Nat} {D : Nv} {a l : Nat} (h : tkk T n a = 0) : tx T n (k + 1) D a l = .ok (D, l) := if_pos h
theorem tx_err {T : Nat → Int} {n k : Nat} {D : Nv} {a l : Nat} {e : Int × Int} (h : tkk T n a ≠ 0) (h2 : ln T n D a = .error e) : tx T n (k + 1) D a l = .error e := by
  show (if tkk T n a = 0 then _ else _) = _
  rw [if_neg h, h2]
theorem tx_ok {T : Nat → Int} {n k : Nat} {D : Nv} {a l : Nat} {x : Nv × Nat} (h : tkk T n a ≠ 0) (h2 : ln T n D a = .ok x) : tx T n (k + 1) D a l = tx T n k x.1 x.2 (l + 1) := by
  show (if tkk T n a = 0 then _ else _) = _
  rw [if_neg h, h2]
theorem vd_tx {T : Nat → Int} {n k : Nat} {D D2 : Nv} {a l l2 : Nat} (hv : Vd D) (h : tx T n k D a l = .ok (D2, l2)) : Vd D2 := by
  induction k generalizing D a l with
  | zero => cases h; exact hv
  | succ k ih =>
    by_cases h0 : tkk T n a = 0
    · rw [tx_end h0] at h
      cases h; exact hv
    · cases h1 : ln T n D a with
      | error e => rw [tx_err h0 h1] at h; cases h
      | ok x =>
        rw [tx_ok h0 h1] at h
        exact ih (vd_ln (b := x.2) hv h1) h
