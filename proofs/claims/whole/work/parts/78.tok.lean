/-! tokens, as numbers; the class reads them -/
def Sp (x : Int) : Prop := x = 32 ∨ x = 10
def Ltr (x : Int) : Prop := 97 ≤ x ∧ x ≤ 122
def Dgt (x : Int) : Prop := 48 ≤ x ∧ x ≤ 57
def Rn (P : Int → Prop) (T : Nat → Int) (n a e : Nat) : Prop := a ≤ e ∧ e ≤ n ∧ (∀ i, a ≤ i → i < e → P (T i)) ∧ (e < n → ¬ P (T e))
def nv (T : Nat → Int) (e : Nat) : Nat → Int
  | 0 => 0
  | k + 1 => 10 * nv T e k + (T (e + k) - 48)
def gl (T : Nat → Int) (e len j : Nat) : Int := if j < len then T (e + j) - 96 else 0
def pk6 (T : Nat → Int) (e len : Nat) : Int := gl T e len 0 * 33554432 + gl T e len 1 * 1048576 + gl T e len 2 * 32768 + gl T e len 3 * 1024 + gl T e len 4 * 32 + gl T e len 5
def Tok (T : Nat → Int) (n a k pl : Nat) (v : Int) (a2 : Nat) : Prop := Rn Sp T n a pl ∧ ((pl = n ∧ k = 0 ∧ a2 = n) ∨ (pl < n ∧ Ltr (T pl) ∧ Rn Ltr T n pl a2 ∧ ((a2 - pl ≤ 6 ∧ k = 1 ∧ v = pk6 T pl (a2 - pl)) ∨ (6 < a2 - pl ∧ k = 4))) ∨ (pl < n ∧ Dgt (T pl) ∧ Rn Dgt T n pl a2 ∧ k = 2 ∧ v = nv T pl (a2 - pl)) ∨ (pl < n ∧ T pl = 59 ∧ k = 3 ∧ a2 = pl + 1) ∨ (pl < n ∧ ¬ Ltr (T pl) ∧ ¬ Dgt (T pl) ∧ T pl ≠ 59 ∧ k = 4 ∧ a2 = pl + 1))
def Tp (T : Nat → Int) : Prop := ∀ i, i < 700 → 0 ≤ T i ∧ T i ≤ 255
def CT (m : ax_M) (T : Nat → Int) (n : Nat) : Prop := (∀ i, i < 700 → (m.1 1 i).toInt = T i) ∧ (m.1 15 5).toInt = (n : Int) ∧ n ≤ 700
theorem rn_unique {P : Int → Prop} {T : Nat → Int} {n a e f : Nat} (h : Rn P T n a e) (h2 : Rn P T n a f) : e = f := by
  by_cases h3 : e < f
  · exact absurd (h2.2.2.1 e h.1 h3) (h.2.2.2 (by have := h2.2.1; omega))
  · by_cases h4 : f < e
    · exact absurd (h.2.2.1 f h2.1 h4) (h2.2.2.2 (by have := h.2.1; omega))
    · omega
theorem or_bits (a b : Nat) : (Int32.ofNat a ||| Int32.ofNat b) = Int32.ofNat (a ||| b) := by
  refine Int32.toBitVec_inj.mp (BitVec.eq_of_getLsbD_eq (fun i hi => ?_))
  simp only [Int32.toBitVec_or, BitVec.getLsbD_or, ofN_bit, hi, decide_true, Bool.true_and, Nat.testBit_or]
theorem s_l31 : ∀ n, n < 32 → ((Int32.ofNat n &&& 31).toBitVec.smod 32).toNat = n := by decide +kernel
theorem or_add (q c s : Nat) (hc : c < 32) : 2 ^ (s + 5) * q ||| c * 2 ^ s = 2 ^ (s + 5) * q + c * 2 ^ s := by
  have h : c * 2 ^ s < 2 ^ (s + 5) := by
    rw [Nat.pow_add, Nat.mul_comm (2 ^ s)]
    exact Nat.mul_lt_mul_of_pos_right hc (Nat.two_pow_pos s)
  rw [Nat.two_pow_add_eq_or_of_lt h]
theorem dm5 {l : Int32} {z : Int} (h : l.toInt = z) (h1 : -10000 ≤ z) (h2 : z ≤ 100) : (l + -5).toInt = z - 5 := by
  rw [t_add, h, show Int32.toInt (-5) = -5 from rfl]
  omega
section TOK
variable {μ : ax_M} {T : Nat → Int} {n : Nat}
theorem sX3_isLetter (x : Int32) : Rd (fX3_isLetter x μ) μ (if 97 ≤ x.toInt ∧ x.toInt ≤ 122 then 1 else 0) := by
  unfold fX3_isLetter fX3_isLetter_K16 fX3_isLetter_K17
  refine rd_wp (wp_if (fun c => wp_ret ⟨?_, rfl⟩) (fun c => wp_if (fun c2 => wp_ret ⟨?_, rfl⟩) (fun c2 => wp_ret ⟨?_, rfl⟩)))
  · rw [t_lt] at c
    have c : x.toInt < 97 := c
    rw [if_neg (by omega)]; rfl
  · rw [t_lt] at c2
    have c2 : 122 < x.toInt := c2
    rw [if_neg (by omega)]; rfl
  · rw [t_lt] at c c2
    have c : ¬ x.toInt < 97 := c
    have c2 : ¬ 122 < x.toInt := c2
    rw [if_pos (by omega)]; rfl
theorem sX3_isDigit (x : Int32) : Rd (fX3_isDigit x μ) μ (if 48 ≤ x.toInt ∧ x.toInt ≤ 57 then 1 else 0) := by
  unfold fX3_isDigit fX3_isDigit_K16 fX3_isDigit_K17
  refine rd_wp (wp_if (fun c => wp_ret ⟨?_, rfl⟩) (fun c => wp_if (fun c2 => wp_ret ⟨?_, rfl⟩) (fun c2 => wp_ret ⟨?_, rfl⟩)))
  · rw [t_lt] at c
    have c : x.toInt < 48 := c
    rw [if_neg (by omega)]; rfl
  · rw [t_lt] at c2
    have c2 : 57 < x.toInt := c2
    rw [if_neg (by omega)]; rfl
  · rw [t_lt] at c c2
    have c : ¬ x.toInt < 48 := c
    have c2 : ¬ 57 < x.toInt := c2
    rw [if_pos (by omega)]; rfl
theorem CT_wi (h : CT μ T n) {j : Nat} {v : Int32} (hj : j ≠ 5) : CT (ax_wi μ 15 j v) T n := by
  refine ⟨fun i hi => ?_, ?_, h.2.2⟩
  · rw [wi_ne (by omega)]; exact h.1 i hi
  · rw [wi_other (Ne.symm hj)]; exact h.2.1
theorem nv_bd (hT : ∀ i, Dgt (T i) → True) (e k : Nat) (h : ∀ i, e ≤ i → i < e + k → Dgt (T i)) : 0 ≤ nv T e k := by
  induction k with
  | zero => exact Int.le_refl 0
  | succ k ih =>
    have a := ih (fun i h1 h2 => h i h1 (by omega))
    have b := h (e + k) (by omega) (by omega)
    unfold Dgt at b
    simp only [nv]
    omega
theorem sX3_readDigits (h : CT μ T n) (e : Nat) (he : (μ.1 15 6).toInt = (e : Int)) (hen : e ≤ n) (h9 : (μ.1 15 9).toInt = 0) : Wp (fX3_readDigits μ) (fun _ m => ∃ a2, Rn Dgt T n e a2 ∧ (m.1 15 6).toInt = (a2 : Int) ∧ (m.1 15 7).toInt = 2 ∧ (m.1 15 9).toInt = (if nv T e (a2 - e) < 100000 then nv T e (a2 - e) else 100000)) := by
  have hn := h.2.2
  unfold fX3_readDigits
  refine wp_let (wp_lp0 (fun k m => ∃ a, e ≤ a ∧ a ≤ n ∧ k = n - a ∧ CT m T n ∧ (m.1 15 6).toInt = (a : Int) ∧ (m.1 15 7).toInt = 2 ∧ (∀ i, e ≤ i → i < a → Dgt (T i)) ∧ (m.1 15 9).toInt = (if nv T e (a - e) < 100000 then nv T e (a - e) else 100000)) ax_FU ?_ (n - e) (by unfold ax_FU; omega) ⟨e, by omega, hen, rfl, CT_wi h (by omega), by rw [wi_other (by omega)]; exact he, by rw [wi_self]; rfl, fun i h1 h2 => by omega, ?_⟩)
  · rintro k rc hrc m ⟨a, ha, han, hk, hm, h6, h7, hd, h9⟩
    unfold fX3_readDigits_B5 fX3_readDigits_K73
    have e5 := hm.2.1
    refine wp_if (fun c => wp_ret ⟨a, ⟨ha, han, hd, fun g => ?_⟩, h6, h7, h9⟩) (fun c => ?_)
    · rw [t_le, e5, h6] at c; omega
    · rw [t_le, e5, h6] at c
      have han2 : a < n := by omega
      have et := hm.1 a (by omega)
      refine wp_rd a h6 (by omega) (wp_rdf (sX3_isDigit _) (fun r3 e3 => wp_if (fun c2 => wp_ret ⟨a, ⟨ha, han, hd, fun g => ?_⟩, h6, h7, h9⟩) (fun c2 => wp_rd a h6 (by omega) (wp_let (wp_let ?_)))))
      · have := not_of e3 c2
        rw [et] at this
        exact this
      · have hdg := yes_of e3 c2
        rw [et] at hdg
        have nb := nv_bd (T := T) (fun _ _ => trivial) e (a - e) (fun i h1 h2 => hd i h1 (by omega))
        have ens : nv T e (a + 1 - e) = 10 * nv T e (a - e) + (T a - 48) := by
          rw [show a + 1 - e = (a - e) + 1 by omega]
          show 10 * nv T e (a - e) + (T (e + (a - e)) - 48) = _
          rw [show e + (a - e) = a by omega]
        have ev : (ax_mn ((((10 : Int32) * (m.1 15 9)) + (m.1 1 a)) - (48 : Int32)) (100000 : Int32)).toInt = (if nv T e (a + 1 - e) < 100000 then nv T e (a + 1 - e) else 100000) := by
          rw [ens]
          generalize nv T e (a - e) = y at h9 nb
          have e1 : ((10 : Int32) * m.1 15 9).toInt = 10 * (m.1 15 9).toInt := by
            rw [t_mul, show Int32.toInt 10 = 10 from rfl]
            split at h9 <;> omega
          have e2 : (((10 : Int32) * (m.1 15 9)) + (m.1 1 a)).toInt = 10 * (m.1 15 9).toInt + T a := by
            rw [t_add, e1, et]
            split at h9 <;> omega
          have e4 : ((((10 : Int32) * (m.1 15 9)) + (m.1 1 a)) - (48 : Int32)).toInt = 10 * (m.1 15 9).toInt + T a - 48 := by
            rw [t_sub, e2, show Int32.toInt 48 = 48 from rfl]
            split at h9 <;> omega
          rw [mn_toInt, e4, show Int32.toInt 100000 = 100000 from rfl]
          split at h9 <;> split <;> split <;> omega
        refine hrc (n - (a + 1)) _ (by omega) ⟨a + 1, by omega, by omega, rfl, CT_wi (CT_wi hm (by omega)) (by omega), ?_, ?_, fun i h1 h2 => ?_, ?_⟩
        · rw [wi_self, wi_other (by omega)]; exact inc h6 (by omega)
        · rw [wi_other (by omega), wi_other (by omega)]; exact h7
        · by_cases ei : i = a
          · rw [ei]; exact hdg
          · exact hd i h1 (by omega)
        · rw [wi_other (by omega), wi_self]; exact ev
  · rw [wi_other (by omega), h9, Nat.sub_self]; rfl
theorem gl_step {e i j : Nat} (h : j ≠ i) : gl T e (i + 1) j = gl T e i j := by
  unfold gl
  by_cases e1 : j < i
  · rw [if_pos e1, if_pos (by omega)]
  · rw [if_neg e1, if_neg (by omega)]
theorem gl_new {e i : Nat} : gl T e (i + 1) i = T (e + i) - 96 ∧ gl T e i i = 0 := by
  unfold gl
  exact ⟨if_pos (by omega), if_neg (by omega)⟩
theorem pk_more {e i : Nat} (h : 6 ≤ i) : pk6 T e (i + 1) = pk6 T e i := by
  unfold pk6
  rw [gl_step (by omega), gl_step (by omega), gl_step (by omega), gl_step (by omega), gl_step (by omega), gl_step (by omega)]
theorem gl_bd {e i : Nat} (h : ∀ k, e ≤ k → k < e + i → Ltr (T k)) (j : Nat) : 0 ≤ gl T e i j ∧ gl T e i j ≤ 26 := by
  unfold gl
  split
  · have := h (e + j) (by omega) (by omega)
    unfold Ltr at this
    omega
  · omega
/-- one letter more -/
theorem pk_or {e i : Nat} (hi : i < 6) (h : ∀ k, e ≤ k → k < e + i → Ltr (T k)) (hn : Ltr (T (e + i))) (x y l : Int32) (hx : x.toInt = pk6 T e i) (hy : y.toInt = T (e + i)) (hl : l.toInt = 25 - 5 * (i : Int)) : (x ||| (((y - (97 : Int32)) + (1 : Int32)) <<< (l &&& 31))).toInt = pk6 T e (i + 1) := by
  have hc : ((y - (97 : Int32)) + (1 : Int32)).toInt = T (e + i) - 96 := by
    have h1 : (y - (97 : Int32)).toInt = T (e + i) - 97 := by rw [t_sub, hy, show Int32.toInt 97 = 97 from rfl]; unfold Ltr at hn; omega
    rw [t_add, h1, show Int32.toInt 1 = 1 from rfl]; unfold Ltr at hn; omega
  have g0 := gl_bd h 0
  have g1 := gl_bd h 1
  have g2 := gl_bd h 2
  have g3 := gl_bd h 3
  have g4 := gl_bd h 4
  have g5 := gl_bd h 5
  have gn := gl_new (T := T) (e := e) (i := i)
  have cN : ((y - (97 : Int32)) + (1 : Int32)) = Int32.ofNat (T (e + i) - 96).toNat := i_nat (by rw [hc]; unfold Ltr at hn; omega)
  have lN : l = Int32.ofNat (25 - 5 * i) := i_nat (by rw [hl]; omega)
  have c32 : (T (e + i) - 96).toNat < 32 := by unfold Ltr at hn; omega
  -- the numbers before
  obtain ⟨q, hq⟩ : ∃ q : Nat, pk6 T e i = ((2 ^ (25 - 5 * i + 5) * q : Nat) : Int) := by
    have z : ∀ j, i ≤ j → gl T e i j = 0 := fun j hj => by unfold gl; rw [if_neg (by omega)]
    unfold pk6
    have hi' : i = 0 ∨ i = 1 ∨ i = 2 ∨ i = 3 ∨ i = 4 ∨ i = 5 := by omega
    rcases hi' with rfl | rfl | rfl | rfl | rfl | rfl
    · exact ⟨0, by rw [z 0 (by omega), z 1 (by omega), z 2 (by omega), z 3 (by omega), z 4 (by omega), z 5 (by omega)]; rfl⟩
    · exact ⟨(gl T e 1 0).toNat, by rw [z 1 (by omega), z 2 (by omega), z 3 (by omega), z 4 (by omega), z 5 (by omega)]; simp only [show 2 ^ (25 - 5 * 1 + 5) = 33554432 from rfl]; omega⟩
    · exact ⟨(gl T e 2 0 * 32 + gl T e 2 1).toNat, by rw [z 2 (by omega), z 3 (by omega), z 4 (by omega), z 5 (by omega)]; simp only [show 2 ^ (25 - 5 * 2 + 5) = 1048576 from rfl]; omega⟩
    · exact ⟨(gl T e 3 0 * 1024 + gl T e 3 1 * 32 + gl T e 3 2).toNat, by rw [z 3 (by omega), z 4 (by omega), z 5 (by omega)]; simp only [show 2 ^ (25 - 5 * 3 + 5) = 32768 from rfl]; omega⟩
    · exact ⟨(gl T e 4 0 * 32768 + gl T e 4 1 * 1024 + gl T e 4 2 * 32 + gl T e 4 3).toNat, by rw [z 4 (by omega), z 5 (by omega)]; simp only [show 2 ^ (25 - 5 * 4 + 5) = 1024 from rfl]; omega⟩
    · exact ⟨(gl T e 5 0 * 1048576 + gl T e 5 1 * 32768 + gl T e 5 2 * 1024 + gl T e 5 3 * 32 + gl T e 5 4).toNat, by rw [z 5 (by omega)]; simp only [show 2 ^ (25 - 5 * 5 + 5) = 32 from rfl]; omega⟩
  have xN : x = Int32.ofNat (2 ^ (25 - 5 * i + 5) * q) := i_nat (by rw [hx, hq])
  have step : pk6 T e (i + 1) = pk6 T e i + (((T (e + i) - 96).toNat * 2 ^ (25 - 5 * i) : Nat) : Int) := by
    have hT : ((T (e + i) - 96).toNat : Int) = T (e + i) - 96 := by unfold Ltr at hn; omega
    rw [Int.natCast_mul, hT]
    unfold pk6
    have hi' : i = 0 ∨ i = 1 ∨ i = 2 ∨ i = 3 ∨ i = 4 ∨ i = 5 := by omega
    rcases hi' with rfl | rfl | rfl | rfl | rfl | rfl
    · rw [gn.1, gn.2, gl_step (show 1 ≠ 0 by omega), gl_step (show 2 ≠ 0 by omega), gl_step (show 3 ≠ 0 by omega), gl_step (show 4 ≠ 0 by omega), gl_step (show 5 ≠ 0 by omega)]
      simp only [show ((2 ^ (25 - 5 * 0) : Nat) : Int) = 33554432 from rfl]; omega
    · rw [gn.1, gn.2, gl_step (show 0 ≠ 1 by omega), gl_step (show 2 ≠ 1 by omega), gl_step (show 3 ≠ 1 by omega), gl_step (show 4 ≠ 1 by omega), gl_step (show 5 ≠ 1 by omega)]
      simp only [show ((2 ^ (25 - 5 * 1) : Nat) : Int) = 1048576 from rfl]; omega
    · rw [gn.1, gn.2, gl_step (show 0 ≠ 2 by omega), gl_step (show 1 ≠ 2 by omega), gl_step (show 3 ≠ 2 by omega), gl_step (show 4 ≠ 2 by omega), gl_step (show 5 ≠ 2 by omega)]
      simp only [show ((2 ^ (25 - 5 * 2) : Nat) : Int) = 32768 from rfl]; omega
    · rw [gn.1, gn.2, gl_step (show 0 ≠ 3 by omega), gl_step (show 1 ≠ 3 by omega), gl_step (show 2 ≠ 3 by omega), gl_step (show 4 ≠ 3 by omega), gl_step (show 5 ≠ 3 by omega)]
      simp only [show ((2 ^ (25 - 5 * 3) : Nat) : Int) = 1024 from rfl]; omega
    · rw [gn.1, gn.2, gl_step (show 0 ≠ 4 by omega), gl_step (show 1 ≠ 4 by omega), gl_step (show 2 ≠ 4 by omega), gl_step (show 3 ≠ 4 by omega), gl_step (show 5 ≠ 4 by omega)]
      simp only [show ((2 ^ (25 - 5 * 4) : Nat) : Int) = 32 from rfl]; omega
    · rw [gn.1, gn.2, gl_step (show 0 ≠ 5 by omega), gl_step (show 1 ≠ 5 by omega), gl_step (show 2 ≠ 5 by omega), gl_step (show 3 ≠ 5 by omega), gl_step (show 4 ≠ 5 by omega)]
      simp only [show ((2 ^ (25 - 5 * 5) : Nat) : Int) = 1 from rfl]; omega
  have small : 2 ^ (25 - 5 * i + 5) * q + (T (e + i) - 96).toNat * 2 ^ (25 - 5 * i) < 2 ^ 31 := by
    have hb : pk6 T e (i + 1) < 2147483648 := by
      have hh : ∀ k, e ≤ k → k < e + (i + 1) → Ltr (T k) := fun k h1 h2 => by
        by_cases ek : k = e + i
        · rw [ek]; exact hn
        · exact h k h1 (by omega)
      have f0 := gl_bd hh 0
      have f1 := gl_bd hh 1
      have f2 := gl_bd hh 2
      have f3 := gl_bd hh 3
      have f4 := gl_bd hh 4
      have f5 := gl_bd hh 5
      unfold pk6
      omega
    rw [step, hq] at hb
    omega
  rw [cN, lN, xN]
  have e1 : (Int32.ofNat (T (e + i) - 96).toNat <<< (Int32.ofNat (25 - 5 * i) &&& 31)) = Int32.ofNat ((T (e + i) - 96).toNat * 2 ^ (25 - 5 * i)) := pk_shlN _ (25 - 5 * i) (s_l31 _ (by omega)) (by omega)
  rw [e1, or_bits, or_add _ _ _ c32, nat_toInt small, step, hq]
  omega
theorem sX3_readWord (h : CT μ T n) (e : Nat) (he : (μ.1 15 6).toInt = (e : Int)) (hen : e ≤ n) (h9 : (μ.1 15 9).toInt = 0) : Wp (fX3_readWord μ) (fun _ m => ∃ a2, Rn Ltr T n e a2 ∧ (m.1 15 6).toInt = (a2 : Int) ∧ ((a2 - e ≤ 6 ∧ (m.1 15 7).toInt = 1 ∧ (m.1 15 9).toInt = pk6 T e (a2 - e)) ∨ (6 < a2 - e ∧ (m.1 15 7).toInt = 4))) := by
  have hn := h.2.2
  have z0 : Int32.toInt 0 = 0 := rfl
  unfold fX3_readWord
  refine wp_lp1 (fun k (l : Int32) m => ∃ a, e ≤ a ∧ a ≤ n ∧ k = n - a ∧ CT m T n ∧ (m.1 15 6).toInt = (a : Int) ∧ l.toInt = 30 - 5 * ((a - e : Nat) : Int) ∧ (∀ i, e ≤ i → i < a → Ltr (T i)) ∧ (m.1 15 9).toInt = pk6 T e (a - e)) ax_FU ?_ (n - e) (by unfold ax_FU; omega) ⟨e, by omega, hen, rfl, h, he, by rw [Nat.sub_self]; rfl, fun i h1 h2 => by omega, by rw [h9, Nat.sub_self]; rfl⟩
  rintro k rc hrc l m ⟨a, ha, han, hk, hm, h6, hl, hd, h9⟩
  have e5 := hm.2.1
  have fin : (a < n → ¬ Ltr (T a)) → Wp (fX3_readWord_K78 l m) (fun _ m => ∃ a2, Rn Ltr T n e a2 ∧ (m.1 15 6).toInt = (a2 : Int) ∧ ((a2 - e ≤ 6 ∧ (m.1 15 7).toInt = 1 ∧ (m.1 15 9).toInt = pk6 T e (a2 - e)) ∨ (6 < a2 - e ∧ (m.1 15 7).toInt = 4))) := by
    intro hno
    unfold fX3_readWord_K78 fX3_readWord_K88
    refine wp_if (fun c => wp_let (wp_ret ⟨a, ⟨ha, han, hd, hno⟩, ?_, Or.inr ⟨?_, ?_⟩⟩)) (fun c => wp_let (wp_ret ⟨a, ⟨ha, han, hd, hno⟩, ?_, Or.inl ⟨?_, ?_, ?_⟩⟩))
    · rw [wi_other (by omega)]; exact h6
    · rw [t_lt, z0, hl] at c; omega
    · rw [wi_self]; rfl
    · rw [wi_other (by omega)]; exact h6
    · rw [t_lt, z0, hl] at c; omega
    · rw [wi_self]; rfl
    · rw [wi_other (by omega)]; exact h9
  unfold fX3_readWord_B3 fX3_readWord_K61
  refine wp_if (fun c => fin (fun g => ?_)) (fun c => ?_)
  · rw [t_le, e5, h6] at c; omega
  · rw [t_le, e5, h6] at c
    have han2 : a < n := by omega
    have et := hm.1 a (by omega)
    have hl2 := dm5 hl (by omega) (by omega)
    generalize l + (-5 : Int32) = l2 at hl2 ⊢
    refine wp_rd a h6 (by omega) (wp_rdf (sX3_isLetter _) (fun r4 e4 => wp_if (fun c2 => fin (fun g => ?_)) (fun c2 => ?_)))
    · have := not_of e4 c2
      rw [et] at this
      exact this
    · have hlt := yes_of e4 c2
      rw [et] at hlt
      have hd2 : ∀ i, e ≤ i → i < a + 1 → Ltr (T i) := fun i h1 h2 => by
        by_cases ei : i = a
        · rw [ei]; exact hlt
        · exact hd i h1 (by omega)
      have ea : e + (a - e) = a := by omega
      have ea1 : a + 1 - e = (a - e) + 1 := by omega
      have go : ∀ x : Int32, x.toInt = pk6 T e (a - e + 1) → Wp (rc l2 (ax_wi (ax_wi m 15 9 x) 15 6 ((ax_wi m 15 9 x).1 15 6 + 1))) (fun _ m => ∃ a2, Rn Ltr T n e a2 ∧ (m.1 15 6).toInt = (a2 : Int) ∧ ((a2 - e ≤ 6 ∧ (m.1 15 7).toInt = 1 ∧ (m.1 15 9).toInt = pk6 T e (a2 - e)) ∨ (6 < a2 - e ∧ (m.1 15 7).toInt = 4))) := by
        intro x hx
        refine hrc (n - (a + 1)) _ _ (by omega) ⟨a + 1, by omega, by omega, rfl, CT_wi (CT_wi hm (by omega)) (by omega), ?_, by omega, hd2, ?_⟩
        · rw [wi_self, wi_other (by omega)]; exact inc h6 (by omega)
        · rw [wi_other (by omega), wi_self, ea1]; exact hx
      refine wp_if (fun c3 => wp_let (wp_let (go _ ?_))) (fun c3 => wp_rd a h6 (by omega) (wp_let (wp_let (go _ ?_))))
      · rw [t_lt, z0, hl2] at c3
        rw [or0, h9, pk_more (by omega)]
      · rw [t_lt, z0, hl2] at c3
        exact pk_or (by omega) (fun k h1 h2 => hd k h1 (by omega)) (by rw [ea]; exact hlt) _ _ _ h9 (by rw [ea]; exact et) (by rw [hl2]; omega)
end TOK
