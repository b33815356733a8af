/-! a token, both sides -/
def RTk (k : Nat) (v s w : Int) : Prop := (k = 0 ∧ s = 4) ∨ (k = 1 ∧ ∃ j : Nat, j < 7 ∧ v = WV j ∧ s = 0 ∧ w = (j : Int)) ∨ (k = 1 ∧ (∀ j, j < 7 → v ≠ WV j) ∧ s = 1 ∧ w = v) ∨ (k = 2 ∧ s = 2 ∧ (v ≤ 99999 → w = v) ∧ (99999 < v → 99999 < w)) ∨ (k = 3 ∧ s = 3) ∨ (k = 4 ∧ s = 5)
theorem tok_unique {T : Nat → Int} {n a k pl k2 pl2 a2 b2 : Nat} {v v2 : Int} (h : Tok T n a k pl v a2) (h2 : Tok T n a k2 pl2 v2 b2) : k = k2 ∧ pl = pl2 ∧ a2 = b2 ∧ (k = 1 ∨ k = 2 → v = v2) := by
  obtain ⟨h0, h⟩ := h
  obtain ⟨g0, g⟩ := h2
  have e := rn_unique h0 g0
  subst e
  rcases h with ⟨a1, a3, a4⟩ | ⟨a1, a3, a4, a5⟩ | ⟨a1, a3, a4, a5, a6⟩ | ⟨a1, a3, a4, a5⟩ | ⟨a1, a3, a4, a5, a6, a7⟩ <;> rcases g with ⟨b1, b3, b4⟩ | ⟨b1, b3, b4, b5⟩ | ⟨b1, b3, b4, b5, b6⟩ | ⟨b1, b3, b4, b5⟩ | ⟨b1, b3, b4, b5, b6, b7⟩
  · exact ⟨by omega, rfl, by omega, fun g => by omega⟩
  · omega
  · omega
  · omega
  · omega
  · omega
  · have e := rn_unique a4 b4
    subst e
    rcases a5 with ⟨c1, c2, c3⟩ | ⟨c1, c2⟩ <;> rcases b5 with ⟨d1, d2, d3⟩ | ⟨d1, d2⟩
    · exact ⟨by omega, rfl, rfl, fun _ => by rw [c3, d3]⟩
    · omega
    · omega
    · exact ⟨by omega, rfl, rfl, fun g => by omega⟩
  · unfold Ltr Dgt at *; omega
  · unfold Ltr at *; omega
  · exact absurd a3 b3
  · omega
  · unfold Ltr Dgt at *; omega
  · have e := rn_unique a4 b4
    subst e
    exact ⟨by omega, rfl, rfl, fun _ => by rw [a6, b6]⟩
  · unfold Dgt at *; omega
  · exact absurd a3 b4
  · omega
  · unfold Ltr at *; omega
  · unfold Dgt at *; omega
  · exact ⟨by omega, rfl, by omega, fun g => by omega⟩
  · exact absurd a3 b5
  · omega
  · exact absurd b3 a3
  · exact absurd b3 a4
  · exact absurd b3 a5
  · exact ⟨by omega, rfl, by omega, fun g => by omega⟩
section TKN
variable {μ : ax_M} {T : Nat → Int} {n : Nat}
theorem sX3_readToken (h : CT μ T n) (hT : Tp T) (a : Nat) (ha : (μ.1 15 6).toInt = (a : Int)) (han : a ≤ n) : Wp (fX3_readToken μ) (fun _ m => ∃ k pl v a2, Tok T n a k pl v a2 ∧ (m.1 15 6).toInt = (a2 : Int) ∧ a2 ≤ n ∧ (m.1 15 7).toInt = (k : Int) ∧ (m.1 15 8).toInt = (pl : Int) ∧ (k = 1 → (m.1 15 9).toInt = v) ∧ (k = 2 → (m.1 15 9).toInt = if v < 100000 then v else 100000)) := by
  have hn := h.2.2
  unfold fX3_readToken
  refine wp_lp0 (fun k m => ∃ e, a ≤ e ∧ e ≤ n ∧ k = n - e ∧ CT m T n ∧ (m.1 15 6).toInt = (e : Int) ∧ ∀ i, a ≤ i → i < e → Sp (T i)) ax_FU ?_ (n - a) (by unfold ax_FU; omega) ⟨a, by omega, han, rfl, h, ha, fun i h1 h2 => by omega⟩
  rintro k rc hrc m ⟨e, hae, hen, hk, hm, h6, hsp⟩
  have e5 := hm.2.1
  have fin : (e < n → ¬ Sp (T e)) → Wp (fX3_readToken_K52 m) (fun _ m => ∃ k pl v a2, Tok T n a k pl v a2 ∧ (m.1 15 6).toInt = (a2 : Int) ∧ a2 ≤ n ∧ (m.1 15 7).toInt = (k : Int) ∧ (m.1 15 8).toInt = (pl : Int) ∧ (k = 1 → (m.1 15 9).toInt = v) ∧ (k = 2 → (m.1 15 9).toInt = if v < 100000 then v else 100000)) := by
    intro hno
    have hrn : Rn Sp T n a e := ⟨hae, hen, hsp, hno⟩
    unfold fX3_readToken_K52 fX3_readToken_K161
    refine wp_let (wp_let ?_)
    have c2 : CT (ax_wi (ax_wi m 15 8 (m.1 15 6)) 15 9 0) T n := CT_wi (CT_wi hm (by omega)) (by omega)
    have f6 : ((ax_wi (ax_wi m 15 8 (m.1 15 6)) 15 9 0).1 15 6).toInt = (e : Int) := by rw [wi_other (by omega), wi_other (by omega)]; exact h6
    have f8 : ((ax_wi (ax_wi m 15 8 (m.1 15 6)) 15 9 0).1 15 8).toInt = (e : Int) := by rw [wi_other (by omega), wi_self]; exact h6
    have f9 : ((ax_wi (ax_wi m 15 8 (m.1 15 6)) 15 9 0).1 15 9).toInt = 0 := by rw [wi_self]; rfl
    generalize ax_wi (ax_wi m 15 8 (m.1 15 6)) 15 9 0 = m2 at c2 f6 f8 f9 ⊢
    refine wp_if (fun c => ?_) (fun c => wp_let (wp_ret ⟨0, e, 0, n, ⟨hrn, Or.inl ⟨?_, rfl, rfl⟩⟩, ?_, Nat.le_refl _, by rw [wi_self]; rfl, ?_, fun g => by omega, fun g => by omega⟩))
    · rw [t_lt, f6, c2.2.1] at c
      have hen2 : e < n := by omega
      have et := c2.1 e (by omega)
      have one : ∀ s1 : Int32, ∀ k : Nat, s1.toInt = (k : Int) → k ≠ 1 → k ≠ 2 → ((T e = 59 ∧ k = 3) ∨ (¬ Ltr (T e) ∧ ¬ Dgt (T e) ∧ T e ≠ 59 ∧ k = 4)) → Wp (fX3_readToken_K148 s1 m2) (fun _ m => ∃ k pl v a2, Tok T n a k pl v a2 ∧ (m.1 15 6).toInt = (a2 : Int) ∧ a2 ≤ n ∧ (m.1 15 7).toInt = (k : Int) ∧ (m.1 15 8).toInt = (pl : Int) ∧ (k = 1 → (m.1 15 9).toInt = v) ∧ (k = 2 → (m.1 15 9).toInt = if v < 100000 then v else 100000)) := by
        intro s1 k hs1 k1 k2 hk
        unfold fX3_readToken_K148 fX3_readToken_K161
        refine wp_let (wp_let (wp_ret ⟨k, e, 0, e + 1, ⟨hrn, ?_⟩, ?_, by omega, ?_, ?_, fun g => absurd g k1, fun g => absurd g k2⟩))
        · rcases hk with ⟨g1, g2⟩ | ⟨g1, g2, g3, g4⟩
          · exact Or.inr (Or.inr (Or.inr (Or.inl ⟨hen2, g1, g2, rfl⟩)))
          · exact Or.inr (Or.inr (Or.inr (Or.inr ⟨hen2, g1, g2, g3, g4, rfl⟩)))
        · rw [wi_self, wi_other (by omega)]; exact inc f6 (by omega)
        · rw [wi_other (by omega), wi_self]; exact hs1
        · rw [wi_other (by omega), wi_other (by omega)]; exact f8
      refine wp_rd e f6 (by omega) (wp_rdf (sX3_isLetter _) (fun r4 e4 => wp_if (fun c3 => wp_rd e f6 (by omega) (wp_rdf (sX3_isDigit _) (fun r7 e7 => wp_if (fun c4 => wp_rd e f6 (by omega) (wp_if (fun c5 => one 3 3 rfl (by omega) (by omega) (Or.inl ⟨?_, rfl⟩)) (fun c5 => one 4 4 rfl (by omega) (by omega) (Or.inr ⟨?_, ?_, ?_, rfl⟩)))) (fun c4 => ?_)))) (fun c3 => ?_)))
      · rw [t_eq, et] at c5; exact c5
      · have := not_of e4 c3
        rw [et] at this
        exact this
      · have := not_of e7 c4
        rw [et] at this
        exact this
      · rw [t_eq, et] at c5; exact c5
      · have hd := yes_of e7 c4
        rw [et] at hd
        refine wp_bd (wp_mono (wp_keq (sX3_readDigits c2 e f6 hen f9) (kw_X3_readDigits m2)) ?_)
        rintro _ m14 ⟨⟨a2, w1, w2, w3, w4⟩, wk⟩
        exact wp_ret ⟨2, e, nv T e (a2 - e), a2, ⟨hrn, Or.inr (Or.inr (Or.inl ⟨hen2, hd, w1, rfl, rfl⟩))⟩, w2, w1.2.1, w3, by rw [wk 15 8 (by decide) (by decide)]; exact f8, fun g => by omega, fun _ => w4⟩
      · have hd := yes_of e4 c3
        rw [et] at hd
        refine wp_bd (wp_mono (wp_keq (sX3_readWord c2 e f6 hen f9) (kw_X3_readWord m2)) ?_)
        rintro _ m14 ⟨⟨a2, w1, w2, w3⟩, wk⟩
        have w8 : (m14.1 15 8).toInt = (e : Int) := by rw [wk 15 8 (by decide) (by decide)]; exact f8
        rcases w3 with ⟨w3, w4, w5⟩ | ⟨w3, w4⟩
        · exact wp_ret ⟨1, e, pk6 T e (a2 - e), a2, ⟨hrn, Or.inr (Or.inl ⟨hen2, hd, w1, Or.inl ⟨w3, rfl, rfl⟩⟩)⟩, w2, w1.2.1, w4, w8, fun _ => w5, fun g => by omega⟩
        · exact wp_ret ⟨4, e, 0, a2, ⟨hrn, Or.inr (Or.inl ⟨hen2, hd, w1, Or.inr ⟨w3, rfl⟩⟩)⟩, w2, w1.2.1, w4, w8, fun g => by omega, fun g => by omega⟩
    · rw [t_lt, f6, c2.2.1] at c; omega
    · rw [t_lt, f6, c2.2.1] at c
      rw [wi_other (by omega), f6]; omega
    · rw [wi_other (by omega)]; exact f8
  unfold fX3_readToken_B0 fX3_readToken_K39
  refine wp_if (fun c => fin (fun g => ?_)) (fun c => ?_)
  · rw [t_le, e5, h6] at c; omega
  · rw [t_le, e5, h6] at c
    have et := hm.1 e (by omega)
    have go : Sp (T e) → Wp (ax_let (ax_wi m 15 6 ((m.1 15 6) + (1 : Int32))) (fun m22 => (rc m22))) (fun _ m => ∃ k pl v a2, Tok T n a k pl v a2 ∧ (m.1 15 6).toInt = (a2 : Int) ∧ a2 ≤ n ∧ (m.1 15 7).toInt = (k : Int) ∧ (m.1 15 8).toInt = (pl : Int) ∧ (k = 1 → (m.1 15 9).toInt = v) ∧ (k = 2 → (m.1 15 9).toInt = if v < 100000 then v else 100000)) := by
      intro hs
      refine wp_let (hrc (n - (e + 1)) _ (by omega) ⟨e + 1, by omega, by omega, rfl, CT_wi hm (by omega), by rw [wi_self]; exact inc h6 (by omega), fun i h1 h2 => ?_⟩)
      by_cases ei : i = e
      · rw [ei]; exact hs
      · exact hsp i h1 (by omega)
    refine wp_rd e h6 (by omega) (wp_if (fun c2 => go (Or.inl ?_)) (fun c2 => wp_rd e h6 (by omega) (wp_if (fun c3 => go (Or.inr ?_)) (fun c3 => fin (fun _ g => ?_)))))
    · rw [t_eq, et] at c2; exact c2
    · rw [t_eq, et] at c3; exact c3
    · rw [t_eq, et] at c2 c3
      rcases g with g | g
      · exact c2 g
      · exact c3 g
/-! the reference -/
theorem RT_wi (h : RT μ T n) {j : Nat} {v : Int32} (hj : j ≠ 19) : RT (ax_wi μ 57 j v) T n := by
  refine ⟨fun i hi => ?_, ?_, h.2.2⟩
  · rw [wi_ne (by omega)]; exact h.1 i hi
  · rw [wi_other (Ne.symm hj)]; exact h.2.1
def hr (T : Nat → Int) (n e : Nat) : Int := if e < n then T e else -1
theorem sX9_here (h : RT μ T n) (e : Nat) (he : (μ.1 57 20).toInt = (e : Int)) : Rd (fX9_here μ) μ (hr T n e) := by
  have hn := h.2.2
  unfold fX9_here fX9_here_K24
  refine rd_wp (wp_if (fun c => wp_ret ⟨?_, rfl⟩) (fun c => ?_))
  · rw [t_le, h.2.1, he] at c
    unfold hr
    rw [if_neg (by omega)]; rfl
  · rw [t_le, h.2.1, he] at c
    refine wp_rd e he (by omega) (wp_ret ⟨?_, rfl⟩)
    rw [h.1 e (by omega)]
    unfold hr
    rw [if_pos (by omega)]
theorem sX9_isSmall (x : Int32) : Rd (fX9_isSmall x μ) μ (if 97 ≤ x.toInt ∧ x.toInt ≤ 122 then 1 else 0) := by
  unfold fX9_isSmall fX9_isSmall_K16 fX9_isSmall_K17
  refine rd_wp (wp_if (fun c => wp_ret ⟨?_, rfl⟩) (fun c => wp_if (fun c2 => wp_ret ⟨?_, rfl⟩) (fun c2 => wp_ret ⟨?_, rfl⟩)))
  · rw [t_lt] at c
    have c : x.toInt < 97 := c
    rw [if_neg (by omega)]; rfl
  · rw [t_lt] at c2
    have c2 : 122 < x.toInt := c2
    rw [if_neg (by omega)]; rfl
  · rw [t_lt] at c c2
    have c : ¬ x.toInt < 97 := c
    have c2 : ¬ 122 < x.toInt := c2
    rw [if_pos (by omega)]; rfl
theorem sX9_isDigit (x : Int32) : Rd (fX9_isDigit x μ) μ (if 48 ≤ x.toInt ∧ x.toInt ≤ 57 then 1 else 0) := by
  unfold fX9_isDigit fX9_isDigit_K16 fX9_isDigit_K17
  refine rd_wp (wp_if (fun c => wp_ret ⟨?_, rfl⟩) (fun c => wp_if (fun c2 => wp_ret ⟨?_, rfl⟩) (fun c2 => wp_ret ⟨?_, rfl⟩)))
  · rw [t_lt] at c
    have c : x.toInt < 48 := c
    rw [if_neg (by omega)]; rfl
  · rw [t_lt] at c2
    have c2 : 57 < x.toInt := c2
    rw [if_neg (by omega)]; rfl
  · rw [t_lt] at c c2
    have c : ¬ x.toInt < 48 := c
    have c2 : ¬ 57 < x.toInt := c2
    rw [if_pos (by omega)]; rfl
def pq (T : Nat → Int) (e len : Nat) : Nat → Int
  | 0 => 0
  | k + 1 => 32 * pq T e len k + gl T e len k
theorem pq_6 (e len : Nat) : pq T e len 6 = pk6 T e len := by
  unfold pk6
  simp only [pq]
  omega
theorem shl_or (x y : Int32) (v c : Nat) (hx : x.toInt = (v : Int)) (hv : v < 2 ^ 25) (hy : y.toInt = (c : Int)) (hc : c < 32) : ((x <<< ((5 : Int32) &&& 31)) ||| y).toInt = 32 * (v : Int) + c := by
  have e1 : (Int32.ofNat v <<< ((5 : Int32) &&& 31)) = Int32.ofNat (v * 2 ^ 5) := pk_shlN _ 5 (by decide +kernel) (by omega)
  have e2 := or_add v c 0 hc
  rw [i_nat hx, i_nat hy, e1, or_bits, show v * 2 ^ 5 = 2 ^ (0 + 5) * v by omega, show c = c * 2 ^ 0 by omega, e2, nat_toInt (by omega)]
  omega
theorem sX9_nameHere (h : RT μ T n) (pl e : Nat) (h21 : (μ.1 57 21).toInt = (pl : Int)) (h20 : (μ.1 57 20).toInt = (e : Int)) (hpe : pl ≤ e) (hen : e ≤ n) (hl : ∀ i, pl ≤ i → i < e → Ltr (T i)) : Wp (fX9_nameHere μ) (fun _ m => (m.1 57 23).toInt = pk6 T pl (e - pl)) := by
  have hn := h.2.2
  have hl2 : ∀ k, pl ≤ k → k < pl + (e - pl) → Ltr (T k) := fun k h1 h2 => hl k h1 (by omega)
  unfold fX9_nameHere
  refine wp_let (wp_lp1 (fun k (l : Int32) m => ∃ i : Nat, l.toInt = (i : Int) ∧ i ≤ 6 ∧ k = 6 - i ∧ RT m T n ∧ (m.1 57 21).toInt = (pl : Int) ∧ (m.1 57 20).toInt = (e : Int) ∧ (m.1 57 23).toInt = pq T pl (e - pl) i ∧ 0 ≤ pq T pl (e - pl) i ∧ pq T pl (e - pl) i < 2 ^ (5 * i)) ax_FU ?_ 6 (by decide) ⟨0, rfl, by omega, rfl, RT_wi h (by omega), by rw [wi_other (by omega)]; exact h21, by rw [wi_other (by omega)]; exact h20, by rw [wi_self]; rfl, Int.le_refl 0, by show (0 : Int) < 1; decide⟩)
  rintro k rc hrc l m ⟨i, hl6, hi, hk, hm, m21, m20, m23, b1, b2⟩
  unfold fX9_nameHere_B7 fX9_nameHere_K53
  refine wp_if (fun c => wp_ret ?_) (fun c => ?_)
  · rw [t_le, hl6, show Int32.toInt 6 = 6 from rfl] at c
    have : i = 6 := by omega
    subst this
    rw [m23, pq_6]
  · rw [t_le, hl6, show Int32.toInt 6 = 6 from rfl] at c
    have hi6 : i < 6 := by omega
    have hpi : (m.1 57 21 + l).toInt = ((pl + i : Nat) : Int) := by rw [t_add, m21, hl6]; omega
    have gb := gl_bd hl2 i
    have pN : (m.1 57 23).toInt = (((pq T pl (e - pl) i).toNat : Nat) : Int) := by rw [m23]; omega
    have pw : (2 : Int) ^ (5 * i) ≤ 2 ^ 25 := by
      have : i = 0 ∨ i = 1 ∨ i = 2 ∨ i = 3 ∨ i = 4 ∨ i = 5 := by omega
      rcases this with rfl | rfl | rfl | rfl | rfl | rfl <;> decide
    have p25 : (pq T pl (e - pl) i).toNat < 2 ^ 25 := by
      have : (2 : Int) ^ 25 = 33554432 := rfl
      rw [this] at pw
      have : (2 : Nat) ^ 25 = 33554432 := rfl
      omega
    have go : ∀ y : Int32, y.toInt = gl T pl (e - pl) i → Wp (ax_let (ax_wi m 57 23 ((m.1 57 23 <<< ((5 : Int32) &&& 31)) ||| y)) (fun m2 => (rc (l + (1 : Int32)) m2))) (fun _ m => (m.1 57 23).toInt = pk6 T pl (e - pl)) := by
      intro y hy
      have hs := shl_or (m.1 57 23) y (pq T pl (e - pl) i).toNat (gl T pl (e - pl) i).toNat pN p25 (by rw [hy]; omega) (by omega)
      have hpq : 32 * (((pq T pl (e - pl) i).toNat : Nat) : Int) + ((gl T pl (e - pl) i).toNat : Nat) = pq T pl (e - pl) (i + 1) := by
        show _ = 32 * pq T pl (e - pl) i + gl T pl (e - pl) i
        omega
      refine wp_let (hrc (6 - (i + 1)) _ _ (by omega) ⟨i + 1, inc hl6 (by omega), by omega, rfl, RT_wi hm (by omega), by rw [wi_other (by omega)]; exact m21, by rw [wi_other (by omega)]; exact m20, by rw [wi_self, hs, hpq], ?_, ?_⟩)
      · rw [← hpq]; omega
      · rw [← hpq]
        have : (2 : Int) ^ (5 * (i + 1)) = 32 * 2 ^ (5 * i) := by
          have : i = 0 ∨ i = 1 ∨ i = 2 ∨ i = 3 ∨ i = 4 ∨ i = 5 := by omega
          rcases this with rfl | rfl | rfl | rfl | rfl | rfl <;> decide
        rw [this]
        omega
    refine wp_if (fun c2 => go _ ?_) (fun c2 => wp_rd (pl + i) hpi (by rw [t_le, m20, hpi] at c2; omega) (go _ ?_))
    · rw [t_le, m20, hpi] at c2
      unfold gl
      rw [if_neg (by omega)]; rfl
    · rw [t_le, m20, hpi] at c2
      have et := hm.1 (pl + i) (by omega)
      have hL := hl (pl + i) (by omega) (by omega)
      unfold Ltr at hL
      have h1 : (m.1 58 (pl + i) - (97 : Int32)).toInt = T (pl + i) - 97 := by rw [t_sub, et, show Int32.toInt 97 = 97 from rfl]; omega
      unfold gl
      rw [if_pos (by omega), t_add, h1, show Int32.toInt 1 = 1 from rfl]
      omega
def RK (m : ax_M) (T : Nat → Int) (n a : Nat) : Prop := ∃ k pl v a2, Tok T n a k pl v a2 ∧ (m.1 57 20).toInt = (a2 : Int) ∧ a2 ≤ n ∧ (m.1 57 21).toInt = (pl : Int) ∧ RTk k v (m.1 57 22).toInt (m.1 57 23).toInt
theorem hr_yes {e : Nat} {c : Int} (h : hr T n e = c) (hc : 0 ≤ c) : e < n ∧ T e = c := by
  unfold hr at h
  split at h
  · exact ⟨by assumption, h⟩
  · omega
/-- the rest of a word -/
theorem tk_word {m : ax_M} (hm : RT m T n) {a pl : Nat} (hrn : Rn Sp T n a pl) (hpn : pl < n) (hL : Ltr (T pl)) (h20 : (m.1 57 20).toInt = (pl : Int)) (h21 : (m.1 57 21).toInt = (pl : Int)) : Wp (ax_lp0 (fX9_token_B64) ax_FU m) (fun _ m => RK m T n a) := by
  have hn := hm.2.2
  refine wp_lp0 (fun k m => ∃ j, pl ≤ j ∧ j ≤ n ∧ k = n - j ∧ RT m T n ∧ (m.1 57 20).toInt = (j : Int) ∧ (m.1 57 21).toInt = (pl : Int) ∧ ∀ i, pl ≤ i → i < j → Ltr (T i)) ax_FU ?_ (n - pl) (by unfold ax_FU; omega) ⟨pl, by omega, by omega, rfl, hm, h20, h21, fun i h1 h2 => by omega⟩
  rintro k rc hrc m ⟨j, hpj, hjn, hk, hm, h20, h21, hl⟩
  unfold fX9_token_B64
  refine wp_rdf (sX9_here hm j h20) (fun r4 e4 => wp_rdf (sX9_isSmall _) (fun r5 e5 => wp_if (fun c => ?_) (fun c => ?_)))
  · have hno := not_of e5 c
    rw [e4] at hno
    have hnl : j < n → ¬ Ltr (T j) := fun g g2 => hno (by unfold hr; rw [if_pos g]; exact g2)
    have hRn : Rn Ltr T n pl j := ⟨hpj, hjn, hl, hnl⟩
    have hlt : pl < j := by
      by_cases e : pl = j
      · exact absurd (e ▸ hL) (hnl (by omega))
      · omega
    refine wp_bd (wp_mono (sX9_wordHere hm pl j h21 h20 hpj hjn) ?_)
    rintro r33 m9 ⟨em, hw⟩
    rw [em]
    refine wp_let ?_
    have c2 : RT (ax_wi m 57 23 r33) T n := RT_wi hm (by omega)
    have g20 : ((ax_wi m 57 23 r33).1 57 20).toInt = (j : Int) := by rw [wi_other (by omega)]; exact h20
    have g21 : ((ax_wi m 57 23 r33).1 57 21).toInt = (pl : Int) := by rw [wi_other (by omega)]; exact h21
    have g23 : ((ax_wi m 57 23 r33).1 57 23) = r33 := by rw [wi_self]
    generalize ax_wi m 57 23 r33 = m2 at c2 g20 g21 g23 ⊢
    have other : ∀ s1 : Int32, s1.toInt ≠ 1 → ∀ k v, Tok T n a k pl v j → RTk k v s1.toInt r33.toInt → Wp (fX9_token_K127 s1 m2) (fun _ m => RK m T n a) := by
      intro s1 hs1 k v ht hk
      unfold fX9_token_K127 fX9_token_K245
      refine wp_let (wp_if (fun c3 => ?_) (fun c3 => wp_ret ⟨k, pl, v, j, ht, ?_, hjn, ?_, ?_⟩))
      · rw [wi_self, t_eq] at c3
        exact absurd c3 hs1
      · rw [wi_other (by omega)]; exact g20
      · rw [wi_other (by omega)]; exact g21
      · rw [wi_self, wi_other (by omega), g23]; exact hk
    refine wp_if (fun c3 => ?_) (fun c3 => ?_)
    · rw [g23, t_eq] at c3
      have c3 : r33.toInt = -1 := c3
      have hnw : ∀ w, w < 7 → ¬ mtc T pl j w := by
        rcases hw with ⟨_, g⟩ | ⟨w, _, g, _⟩
        · exact g
        · omega
      have hd : (m2.1 57 20 - m2.1 57 21).toInt = ((j - pl : Nat) : Int) := by rw [t_sub, g20, g21]; omega
      refine wp_if (fun c4 => ?_) (fun c4 => other 5 (by decide) 4 0 ⟨hrn, Or.inr (Or.inl ⟨hpn, hL, hRn, Or.inr ⟨?_, rfl⟩⟩)⟩ (Or.inr (Or.inr (Or.inr (Or.inr (Or.inr ⟨rfl, rfl⟩))))))
      · rw [t_le, hd, show Int32.toInt 6 = 6 from rfl] at c4
        unfold fX9_token_K127 fX9_token_K245
        refine wp_let (wp_if (fun c5 => wp_bd (wp_mono (wp_keq (sX9_nameHere (RT_wi c2 (by omega)) pl j (by rw [wi_other (by omega)]; exact g21) (by rw [wi_other (by omega)]; exact g20) hpj hjn hl) (kw_X9_nameHere _)) ?_)) (fun c5 => ?_))
        · rintro _ m3 ⟨w1, wk⟩
          refine wp_ret ⟨1, pl, pk6 T pl (j - pl), j, ⟨hrn, Or.inr (Or.inl ⟨hpn, hL, hRn, Or.inl ⟨by omega, rfl, rfl⟩⟩)⟩, ?_, hjn, ?_, Or.inr (Or.inr (Or.inl ⟨rfl, fun w hw g => ?_, ?_, w1⟩))⟩
          · rw [wk 57 20 (by decide) (by decide), wi_other (by omega)]; exact g20
          · rw [wk 57 21 (by decide) (by decide), wi_other (by omega)]; exact g21
          · exact hnw w hw ((wv_iff hl hlt w hw).2 ⟨by omega, g⟩)
          · rw [wk 57 22 (by decide) (by decide), wi_self]; rfl
        · rw [wi_self] at c5
          exact absurd rfl c5
      · rw [t_le, hd, show Int32.toInt 6 = 6 from rfl] at c4; omega
    · rw [g23, t_eq] at c3
      have c3 : ¬ r33.toInt = -1 := c3
      rcases hw with ⟨g, _⟩ | ⟨w, hw7, g, g2⟩
      · exact absurd g c3
      · have g3 := (wv_iff hl hlt w hw7).1 g2
        exact other 0 (by decide) 1 (pk6 T pl (j - pl)) ⟨hrn, Or.inr (Or.inl ⟨hpn, hL, hRn, Or.inl ⟨g3.1, rfl, rfl⟩⟩)⟩ (Or.inr (Or.inl ⟨rfl, w, hw7, g3.2, rfl, g⟩))
  · have hyes := yes_of e5 c
    rw [e4] at hyes
    have hj2 : j < n ∧ Ltr (T j) := by
      unfold hr at hyes
      split at hyes
      · exact ⟨by assumption, hyes⟩
      · omega
    refine wp_let (hrc (n - (j + 1)) _ (by omega) ⟨j + 1, by omega, by omega, rfl, RT_wi hm (by omega), by rw [wi_self]; exact inc h20 (by omega), by rw [wi_other (by omega)]; exact h21, fun i h1 h2 => ?_⟩)
    by_cases ei : i = j
    · rw [ei]; exact hj2.2
    · exact hl i h1 (by omega)
/-- the rest of a number -/
theorem tk_num {m : ax_M} (hm : RT m T n) {a pl : Nat} (hrn : Rn Sp T n a pl) (hpn : pl < n) (hL : Dgt (T pl)) (h20 : (m.1 57 20).toInt = (pl : Int)) (h21 : (m.1 57 21).toInt = (pl : Int)) (h22 : (m.1 57 22).toInt = 2) (h23 : (m.1 57 23).toInt = 0) : Wp (ax_lp0 (fX9_token_B162) ax_FU m) (fun _ m => RK m T n a) := by
  have hn := hm.2.2
  refine wp_lp0 (fun k m => ∃ j, pl ≤ j ∧ j ≤ n ∧ k = n - j ∧ RT m T n ∧ (m.1 57 20).toInt = (j : Int) ∧ (m.1 57 21).toInt = (pl : Int) ∧ (m.1 57 22).toInt = 2 ∧ (∀ i, pl ≤ i → i < j → Dgt (T i)) ∧ (nv T pl (j - pl) ≤ 99999 → (m.1 57 23).toInt = nv T pl (j - pl)) ∧ (99999 < nv T pl (j - pl) → 99999 < (m.1 57 23).toInt)) ax_FU ?_ (n - pl) (by unfold ax_FU; omega) ⟨pl, by omega, by omega, rfl, hm, h20, h21, h22, fun i h1 h2 => by omega, by rw [Nat.sub_self]; exact fun _ => h23, by rw [Nat.sub_self]; exact fun g => absurd g (by show ¬ (99999 : Int) < 0; decide)⟩
  rintro k rc hrc m ⟨j, hpj, hjn, hk, hm, h20, h21, h22, hl, v1, v2⟩
  unfold fX9_token_B162 fX9_token_K245
  refine wp_rdf (sX9_here hm j h20) (fun r4 e4 => wp_rdf (sX9_isDigit _) (fun r5 e5 => wp_if (fun c => ?_) (fun c => ?_)))
  · have hno := not_of e5 c
    rw [e4] at hno
    have hnl : j < n → ¬ Dgt (T j) := fun g g2 => hno (by unfold hr; rw [if_pos g]; exact g2)
    exact wp_ret ⟨2, pl, nv T pl (j - pl), j, ⟨hrn, Or.inr (Or.inr (Or.inl ⟨hpn, hL, ⟨hpj, hjn, hl, hnl⟩, rfl, rfl⟩))⟩, h20, hjn, h21, Or.inr (Or.inr (Or.inr (Or.inl ⟨rfl, h22, v1, v2⟩)))⟩
  · have hyes := yes_of e5 c
    rw [e4] at hyes
    have hj2 : j < n ∧ Dgt (T j) := by
      unfold hr at hyes
      split at hyes
      · exact ⟨by assumption, hyes⟩
      · omega
    have nb := nv_bd (T := T) (fun _ _ => trivial) pl (j - pl) (fun i h1 h2 => hl i h1 (by omega))
    have ens : nv T pl (j + 1 - pl) = 10 * nv T pl (j - pl) + (T j - 48) := by
      rw [show j + 1 - pl = (j - pl) + 1 by omega]
      show 10 * nv T pl (j - pl) + (T (pl + (j - pl)) - 48) = _
      rw [show pl + (j - pl) = j by omega]
    have hhr : hr T n j = T j := by unfold hr; rw [if_pos hj2.1]
    have go : ∀ s1 : Int32, (nv T pl (j + 1 - pl) ≤ 99999 → s1.toInt = nv T pl (j + 1 - pl)) → (99999 < nv T pl (j + 1 - pl) → 99999 < s1.toInt) → Wp (fX9_token_K204 s1 rc m) (fun _ m => RK m T n a) := by
      intro s1 g1 g2
      unfold fX9_token_K204
      refine wp_let (wp_let (hrc (n - (j + 1)) _ (by omega) ⟨j + 1, by omega, by omega, rfl, RT_wi (RT_wi hm (by omega)) (by omega), ?_, ?_, ?_, fun i h1 h2 => ?_, ?_, ?_⟩))
      · rw [wi_self, wi_other (by omega)]; exact inc h20 (by omega)
      · rw [wi_other (by omega), wi_other (by omega)]; exact h21
      · rw [wi_other (by omega), wi_other (by omega)]; exact h22
      · by_cases ei : i = j
        · rw [ei]; exact hj2.2
        · exact hl i h1 (by omega)
      · rw [wi_other (by omega), wi_self]; exact g1
      · rw [wi_other (by omega), wi_self]; exact g2
    have hdj := hj2.2
    unfold Dgt at hdj
    rw [ens] at go
    refine wp_if (fun c2 => wp_rdf (sX9_here hm j h20) (fun r6 e6 => go _ ?_ ?_)) (fun c2 => go _ ?_ ?_)
    · rw [t_le, show Int32.toInt 99999 = 99999 from rfl] at c2
      rw [hhr] at e6
      have h0 : (m.1 57 23).toInt = nv T pl (j - pl) := by
        by_cases g : nv T pl (j - pl) ≤ 99999
        · exact v1 g
        · have := v2 (by omega); omega
      generalize nv T pl (j - pl) = y at h0 nb
      have e1 : ((10 : Int32) * m.1 57 23).toInt = 10 * y := by rw [t_mul, h0, show Int32.toInt 10 = 10 from rfl]; omega
      have e2 : ((10 : Int32) * m.1 57 23 + r6).toInt = 10 * y + T j := by rw [t_add, e1, e6]; omega
      intro _
      rw [t_sub, e2, show Int32.toInt 48 = 48 from rfl]; omega
    · rw [t_le, show Int32.toInt 99999 = 99999 from rfl] at c2
      rw [hhr] at e6
      have h0 : (m.1 57 23).toInt = nv T pl (j - pl) := by
        by_cases g : nv T pl (j - pl) ≤ 99999
        · exact v1 g
        · have := v2 (by omega); omega
      generalize nv T pl (j - pl) = y at h0 nb
      have e1 : ((10 : Int32) * m.1 57 23).toInt = 10 * y := by rw [t_mul, h0, show Int32.toInt 10 = 10 from rfl]; omega
      have e2 : ((10 : Int32) * m.1 57 23 + r6).toInt = 10 * y + T j := by rw [t_add, e1, e6]; omega
      intro _
      rw [t_sub, e2, show Int32.toInt 48 = 48 from rfl]; omega
    · rw [t_le, show Int32.toInt 99999 = 99999 from rfl] at c2
      intro g
      have := v1 (by omega)
      omega
    · rw [t_le, show Int32.toInt 99999 = 99999 from rfl] at c2
      intro _
      omega
theorem sX9_token (h : RT μ T n) (hT : Tp T) (a : Nat) (ha : (μ.1 57 20).toInt = (a : Int)) (han : a ≤ n) : Wp (fX9_token μ) (fun _ m => RK m T n a) := by
  have hn := h.2.2
  unfold fX9_token
  refine wp_lp0 (fun k m => ∃ e, a ≤ e ∧ e ≤ n ∧ k = n - e ∧ RT m T n ∧ (m.1 57 20).toInt = (e : Int) ∧ ∀ i, a ≤ i → i < e → Sp (T i)) ax_FU ?_ (n - a) (by unfold ax_FU; omega) ⟨a, by omega, han, rfl, h, ha, fun i h1 h2 => by omega⟩
  rintro k rc hrc m ⟨e, hae, hen, hk, hm, h20, hsp⟩
  have go : e < n → Sp (T e) → Wp (fX9_token_K18 rc m) (fun _ m => RK m T n a) := by
    intro he hs
    unfold fX9_token_K18
    refine wp_let (hrc (n - (e + 1)) _ (by omega) ⟨e + 1, by omega, by omega, rfl, RT_wi hm (by omega), by rw [wi_self]; exact inc h20 (by omega), fun i h1 h2 => ?_⟩)
    by_cases ei : i = e
    · rw [ei]; exact hs
    · exact hsp i h1 (by omega)
  unfold fX9_token_B0
  refine wp_rdf (sX9_here hm e h20) (fun r1 e1 => wp_if (fun c => ?_) (fun c => wp_rdf (sX9_here hm e h20) (fun r2 e2 => wp_if (fun c2 => ?_) (fun c2 => wp_let ?_))))
  · rw [t_eq, e1, show Int32.toInt 10 = 10 from rfl] at c
    have g := hr_yes c (by omega)
    exact go g.1 (Or.inr g.2)
  · rw [t_eq, e2, show Int32.toInt 32 = 32 from rfl] at c2
    have g := hr_yes c2 (by omega)
    exact go g.1 (Or.inl g.2)
  · rw [t_eq, e1, show Int32.toInt 10 = 10 from rfl] at c
    rw [t_eq, e2, show Int32.toInt 32 = 32 from rfl] at c2
    have hrn : Rn Sp T n a e := by
      refine ⟨hae, hen, hsp, fun g g2 => ?_⟩
      unfold hr at c c2
      rw [if_pos g] at c c2
      rcases g2 with g2 | g2
      · exact c2 g2
      · exact c g2
    have d2 : RT (ax_wi m 57 21 (m.1 57 20)) T n := RT_wi hm (by omega)
    have g20 : ((ax_wi m 57 21 (m.1 57 20)).1 57 20).toInt = (e : Int) := by rw [wi_other (by omega)]; exact h20
    have g21 : ((ax_wi m 57 21 (m.1 57 20)).1 57 21).toInt = (e : Int) := by rw [wi_self]; exact h20
    generalize ax_wi m 57 21 (m.1 57 20) = m2 at d2 g20 g21 ⊢
    refine wp_rdf (sX9_here d2 e g20) (fun r7 e7 => wp_if (fun c3 => ?_) (fun c3 => ?_))
    · rw [t_eq, e7] at c3
      have c3 : hr T n e = -1 := c3
      have hen2 : e = n := by
        by_cases g : e < n
        · unfold hr at c3
          rw [if_pos g] at c3
          have := hT e (by omega)
          omega
        · omega
      unfold fX9_token_K245
      exact wp_let (wp_ret ⟨0, e, 0, n, ⟨hrn, Or.inl ⟨hen2, rfl, rfl⟩⟩, by rw [wi_other (by omega), g20, hen2], Nat.le_refl _, by rw [wi_other (by omega)]; exact g21, Or.inl ⟨rfl, by rw [wi_self]; rfl⟩⟩)
    · rw [t_eq, e7] at c3
      have c3 : ¬ hr T n e = -1 := c3
      have hen2 : e < n := by
        by_cases g : e < n
        · exact g
        · unfold hr at c3
          rw [if_neg g] at c3
          exact absurd rfl c3
      have hhr : hr T n e = T e := by unfold hr; rw [if_pos hen2]
      rw [hhr] at e7
      have one : ∀ s1 : Int32, ∀ k : Nat, Tok T n a k e 0 (e + 1) → (∀ w, RTk k 0 s1.toInt w) → Wp (fX9_token_K232 s1 m2) (fun _ m => RK m T n a) := by
        intro s1 k ht hk
        unfold fX9_token_K232 fX9_token_K245
        refine wp_let (wp_let (wp_ret ⟨k, e, 0, e + 1, ht, ?_, by omega, ?_, ?_⟩))
        · rw [wi_self, wi_other (by omega)]; exact inc g20 (by omega)
        · rw [wi_other (by omega), wi_other (by omega)]; exact g21
        · rw [wi_other (by omega), wi_self]; exact hk _
      refine wp_rdf (sX9_isSmall _) (fun r9 e9 => wp_if (fun c4 => wp_rdf (sX9_isDigit _) (fun r11 e11 => wp_if (fun c5 => ?_) (fun c5 => wp_let (wp_let ?_)))) (fun c4 => ?_))
      · have nl := not_of e9 c4
        have nd := not_of e11 c5
        rw [e7] at nl nd
        refine wp_if (fun c6 => one 3 3 ⟨hrn, Or.inr (Or.inr (Or.inr (Or.inl ⟨hen2, ?_, rfl, rfl⟩)))⟩ (fun w => Or.inr (Or.inr (Or.inr (Or.inr (Or.inl ⟨rfl, rfl⟩)))))) (fun c6 => one 5 4 ⟨hrn, Or.inr (Or.inr (Or.inr (Or.inr ⟨hen2, nl, nd, ?_, rfl, rfl⟩)))⟩ (fun w => Or.inr (Or.inr (Or.inr (Or.inr (Or.inr ⟨rfl, rfl⟩))))))
        · rw [t_eq, e7] at c6; exact c6
        · rw [t_eq, e7] at c6; exact c6
      · have hd := yes_of e11 c5
        rw [e7] at hd
        exact tk_num (RT_wi (RT_wi d2 (by omega)) (by omega)) hrn hen2 hd (by rw [wi_other (by omega), wi_other (by omega)]; exact g20) (by rw [wi_other (by omega), wi_other (by omega)]; exact g21) (by rw [wi_other (by omega), wi_self]; rfl) (by rw [wi_self]; rfl)
      · have hd := yes_of e9 c4
        rw [e7] at hd
        exact tk_word d2 hrn hen2 hd g20 g21
end TKN
