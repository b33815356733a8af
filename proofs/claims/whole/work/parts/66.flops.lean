/-! sets of cells as numbers; flops, both sides -/
def pc (n : Nat) : Nat := cnt (fun i => n.testBit i) 10
def sub (n m : Nat) : Prop := ∀ i, n.testBit i = true → m.testBit i = true
theorem b_low : ∀ n, n < 1024 → n ≠ 0 → (Int32.ofNat n &&& (Int32.ofNat n - 1)) = Int32.ofNat (n &&& (n - 1)) ∧ pc (n &&& (n - 1)) + 1 = pc n ∧ n &&& (n - 1) < n := by decide +kernel
theorem b_one : ∀ n, n < 1024 → ∀ c, c < 10 → ((((Int32.ofNat n) >>> ((Int32.ofNat c) &&& 31)) &&& (1 : Int32)) = 1 ↔ n.testBit c = true) := by decide +kernel
theorem ofN_bit (n i : Nat) : (Int32.ofNat n).toBitVec.getLsbD i = (decide (i < 32) && n.testBit i) := by
  show (BitVec.ofNat 32 n).getLsbD i = _
  rw [BitVec.getLsbD_ofNat]
theorem m1_bit : ∀ i, i < 32 → (Int32.toBitVec (-1)).getLsbD i = true := by decide +kernel
theorem hi_bit {n i : Nat} (hn : n < 1024) (hi : 10 ≤ i) : n.testBit i = false := Nat.testBit_lt_two_pow (Nat.lt_of_lt_of_le hn (show 2 ^ 10 ≤ 2 ^ i from Nat.pow_le_pow_right (by omega) hi))
theorem and_not0 {n L : Nat} (hn : n < 1024) : (Int32.ofNat n &&& (Int32.ofNat L ^^^ (-1 : Int32))) = 0 ↔ sub n L := by
  constructor
  · intro h i hi
    have hi10 : i < 10 := by
      by_cases e : i < 10
      · exact e
      · rw [hi_bit hn (by omega)] at hi; cases hi
    have h2 := congrArg (fun x => (Int32.toBitVec x).getLsbD i) h
    simp only [Int32.toBitVec_and, Int32.toBitVec_xor, BitVec.getLsbD_and, BitVec.getLsbD_xor, ofN_bit, m1_bit i (by omega), hi, show i < 32 by omega, decide_true, Bool.true_and, Bool.xor_true] at h2
    have h3 : (Int32.toBitVec 0).getLsbD i = false := BitVec.getLsbD_zero
    rw [h3] at h2
    simpa using h2
  · intro h
    refine Int32.toBitVec_inj.mp (BitVec.eq_of_getLsbD_eq (fun i hi => ?_))
    have h3 : (Int32.toBitVec 0).getLsbD i = false := BitVec.getLsbD_zero
    rw [h3]
    simp only [Int32.toBitVec_and, Int32.toBitVec_xor, BitVec.getLsbD_and, BitVec.getLsbD_xor, ofN_bit, m1_bit i hi, hi, decide_true, Bool.true_and, Bool.xor_true]
    cases e : n.testBit i with
    | false => rfl
    | true => rw [h i e]; rfl
theorem sub_eq {b F : Nat} (hb : b < 1024) (hF : F < 1024) (h : sub b F) (hp : pc F ≤ pc b) : b = F := by
  refine Nat.eq_of_testBit_eq (fun i => ?_)
  by_cases hi : i < 10
  · cases e : F.testBit i with
    | true =>
      cases e2 : b.testBit i with
      | true => rfl
      | false =>
        have := cnt_lt (f := fun i => b.testBit i) (g := fun i => F.testBit i) (n := 10) (fun c _ hc => h c hc) i hi e2 e
        unfold pc at hp
        omega
    | false =>
      cases e2 : b.testBit i with
      | false => rfl
      | true => rw [h i e2] at e; cases e
  · rw [hi_bit hb (by omega), hi_bit hF (by omega)]
theorem sub_le {b L : Nat} (h : sub b L) : b ≤ L := by
  have : b &&& L = b := Nat.eq_of_testBit_eq (fun i => by
    rw [Nat.testBit_and]
    cases e : b.testBit i with
    | false => rfl
    | true => rw [h i e]; rfl)
  rw [← this]
  exact Nat.and_le_right
section BTS
variable {μ : ax_M} {ν : Nv}
theorem sX9_bits {n : Nat} (hn : n < 1024) : Rd (fX9_bits (Int32.ofNat n) μ) μ (pc n) := by
  unfold fX9_bits
  have hp0 : pc n ≤ 10 := cnt_le _ _
  refine rd_wp (wp_lp2 (fun k (l1 l2 : Int32) m => m = μ ∧ ∃ j : Nat, j < 1024 ∧ k = j ∧ l2 = Int32.ofNat j ∧ 0 ≤ l1.toInt ∧ l1.toInt + pc j = pc n) ax_FU ?_ n (by unfold ax_FU; omega) ⟨rfl, n, hn, rfl, rfl, by decide, by have : Int32.toInt 0 = 0 := rfl; omega⟩)
  rintro k rc hrc l1 l2 m ⟨rfl, j, hj, hk, hl2, hl1, hs⟩
  unfold fX9_bits_B4
  have hjt : (Int32.ofNat j).toInt = j := nat_toInt (by omega)
  refine wp_if (fun c => wp_ret ⟨?_, rfl⟩) (fun c => ?_)
  · rw [hl2, q0, hjt] at c
    have : j = 0 := by omega
    subst this
    rw [show pc 0 = 0 from rfl] at hs
    omega
  · rw [hl2, q0, hjt] at c
    obtain ⟨b1, b2, b3⟩ := b_low j hj (by omega)
    rw [hl2, b1]
    refine wp_let (hrc (j &&& (j - 1)) _ _ _ (by omega) ⟨rfl, j &&& (j - 1), by omega, rfl, rfl, ?_, ?_⟩)
    · rw [add1 hl1 (by omega)]; omega
    · rw [add1 hl1 (by omega)]; omega
def fl (ν : Nv) (g : Nat → Int) : Nv := fun a b => if a = 11 then g b else ν a b
theorem fl_fl (g : Nat → Int) : fl (fl ν g) (ν 11) = ν := by
  funext a b
  show (if a = 11 then ν 11 b else if a = 11 then g b else ν a b) = ν a b
  by_cases e : a = 11
  · rw [if_pos e, e]
  · rw [if_neg e, if_neg e]
theorem RN_fl (h : RN μ ν) (hv : Vd ν) {m : ax_M} (hk : ∀ a, a ≠ 74 → m.1 a = μ.1 a) (hj : ∀ j, (j < 9 ∨ 9 + nC ν ≤ j) → m.1 74 j = μ.1 74 j) {g : Nat → Int} (hg : ∀ c, c < nC ν → (m.1 74 (9 + c)).toInt = g c) : RN m (fl ν g) := by
  have hn := vd_nums hv
  obtain ⟨⟨a1, a2, a3, a4, a5, a6⟩, hb, hc, hd⟩ := h
  refine ⟨⟨?_, ?_, ?_, ?_, ?_, ?_⟩, fun i hi => ?_, fun c hc2 => ?_, fun p hp => ?_⟩
  · rw [hk 59 (by omega)]; exact a1
  · rw [hk 59 (by omega)]; exact a2
  · rw [hk 59 (by omega)]; exact a3
  · rw [hj 0 (by omega)]; exact a4
  · rw [hj 67 (by omega)]; exact a5
  · rw [hk 59 (by omega)]; exact a6
  · have hi : i < nH ν := hi
    rw [hk 61 (by omega), hj (1 + i) (by omega), hj (5 + i) (by omega)]; exact hb i hi
  · have hc2 : c < nC ν := hc2
    have := hc c hc2
    rw [hk 64 (by omega), hk 65 (by omega), hk 66 (by omega), hk 67 (by omega), hk 68 (by omega)]
    exact ⟨this.1, this.2.1, this.2.2.1, this.2.2.2.1, this.2.2.2.2.1, hg c hc2⟩
  · have hp : p < nP ν := hp
    rw [hk 70 (by omega), hk 71 (by omega), hj (19 + p) (by omega), hj (43 + p) (by omega)]; exact hd p hp
theorem sX9_makes (h : RN μ ν) (hv : Vd ν) {n : Nat} (hn : n < 1024) (v : Int32) : Wp (fX9_makes (Int32.ofNat n) v μ) (fun _ m => (∀ a, a ≠ 74 → m.1 a = μ.1 a) ∧ (∀ j, (j < 9 ∨ 9 + nC ν ≤ j) → m.1 74 j = μ.1 74 j) ∧ ∀ c, c < nC ν → m.1 74 (9 + c) = if n.testBit c = true then v else μ.1 74 (9 + c)) := by
  have hnn := vd_nums hv
  have hcc := vd_cast hv
  unfold fX9_makes
  refine wp_lp1 (fun k (l : Int32) m => ∃ i : Nat, l.toInt = (i : Int) ∧ i ≤ nC ν ∧ k = nC ν - i ∧ (∀ a, a ≠ 74 → m.1 a = μ.1 a) ∧ (∀ j, (j < 9 ∨ 9 + nC ν ≤ j) → m.1 74 j = μ.1 74 j) ∧ ∀ c, c < nC ν → m.1 74 (9 + c) = if c < i ∧ n.testBit c = true then v else μ.1 74 (9 + c)) ax_FU ?_ (nC ν) (by unfold ax_FU; omega) ⟨0, rfl, by omega, rfl, fun _ _ => rfl, fun _ _ => rfl, fun c hc => by rw [if_neg (by omega)]⟩
  rintro k rc hrc l m ⟨i, hl, hi, hk, kx, ky, hw⟩
  have hce : Rd (fX9_cells m) m (ν 0 1) := by
    unfold fX9_cells
    exact rd_wp (wp_rd 2 rfl (by omega) (wp_ret ⟨by rw [kx 59 (by omega)]; exact h.1.2.1, rfl⟩))
  unfold fX9_makes_B2 fX9_makes_K29
  refine wp_rdf hce (fun r er => wp_if (fun c1 => wp_ret ⟨kx, ky, fun c hc => ?_⟩) (fun c1 => ?_))
  · rw [t_le, er, hl] at c1
    rw [hw c hc]
    by_cases e : n.testBit c = true
    · rw [if_pos ⟨by omega, e⟩, if_pos e]
    · rw [if_neg (fun g => e g.2), if_neg e]
  · rw [t_le, er, hl] at c1
    have hi2 : i < nC ν := by omega
    have i9 : ((9 : Int32) + l).toInt = ((9 + i : Nat) : Int) := by simp only [t_add, hl, Int32.reduceToInt]; omega
    have bt1 := b_one n hn i (by omega)
    rw [← i_nat hl] at bt1
    refine wp_if (fun c2 => wp_wr (9 + i) i9 (by omega) (hrc (nC ν - (i + 1)) _ _ (by omega) ⟨i + 1, inc hl (by omega), by omega, rfl, fun a ha => by rw [wi_ne ha]; exact kx a ha, fun j hj => by rw [wi_other (by omega)]; exact ky j hj, fun c hc => ?_⟩)) (fun c2 => hrc (nC ν - (i + 1)) _ _ (by omega) ⟨i + 1, inc hl (by omega), by omega, rfl, kx, ky, fun c hc => ?_⟩)
    · rw [bt1] at c2
      by_cases ec : c = i
      · rw [ec, wi_self, if_pos ⟨by omega, c2⟩]
      · rw [wi_other (by omega), hw c hc]
        by_cases e : c < i ∧ n.testBit c = true
        · rw [if_pos e, if_pos ⟨by omega, e.2⟩]
        · rw [if_neg e, if_neg (fun g => e ⟨by omega, g.2⟩)]
    · rw [bt1] at c2
      rw [hw c hc]
      by_cases e : c < i ∧ n.testBit c = true
      · rw [if_pos e, if_pos ⟨by omega, e.2⟩]
      · rw [if_neg e, if_neg (fun g => e ⟨by
          by_cases ec : c = i
          · rw [ec] at g; exact absurd g.2 c2
          · omega, g.2⟩)]
/-- the net with a set made flops -/
def fs (ν : Nv) (n : Nat) : Nv := fl ν (fun c => if n.testBit c = true then 1 else ν 11 c)
def lat (ν : Nv) (c : Nat) : Bool := !Fb ν c
def ltS (ν : Nv) : Nat := bt (lat ν) (nC ν)
theorem ls_bit (c : Nat) : (ltS ν).testBit c = (decide (c < nC ν) && lat ν c) := bt_test _ _ _
theorem ls_sub {n : Nat} (h : sub n (ltS ν)) (c : Nat) (hc : n.testBit c = true) : c < nC ν ∧ Fb ν c = false := by
  have := h c hc
  rw [ls_bit] at this
  unfold lat at this
  simpa using this
theorem vd_fs (hv : Vd ν) (n : Nat) : Vd (fs ν n) := by
  obtain ⟨ha, hb, hc, hd, he⟩ := hv
  refine ⟨ha, hb, fun c hc2 => ?_, hd, he⟩
  have := hc c hc2
  refine ⟨this.1, this.2.1, this.2.2.1, this.2.2.2.1, this.2.2.2.2.1, this.2.2.2.2.2.1, this.2.2.2.2.2.2.1, this.2.2.2.2.2.2.2.1, ?_⟩
  show (if n.testBit c = true then (1 : Int) else ν 11 c) = 0 ∨ (if n.testBit c = true then (1 : Int) else ν 11 c) = 1
  split
  · exact Or.inr rfl
  · exact this.2.2.2.2.2.2.2.2
theorem fb_fs (n c : Nat) : Fb (fs ν n) c = (n.testBit c || Fb ν c) := by
  show decide ((if n.testBit c = true then (1 : Int) else ν 11 c) = 1) = _
  unfold Fb
  cases n.testBit c <;> simp
theorem RN_make (h : RN μ ν) (hv : Vd ν) {n : Nat} (hn : n < 1024) : Wp (fX9_makes (Int32.ofNat n) 1 μ) (fun _ m => RN m (fs ν n)) := by
  refine wp_mono (sX9_makes h hv hn 1) ?_
  rintro _ m ⟨a, b, c⟩
  refine RN_fl h hv a b (fun d hd => ?_)
  rw [c d hd]
  by_cases e : n.testBit d = true
  · rw [if_pos e, if_pos e]; rfl
  · rw [if_neg e, if_neg e]; exact (h.2.2.1 d hd).2.2.2.2.2
theorem RN_unmake {n : Nat} (h : RN μ (fs ν n)) (hv : Vd ν) (hn : n < 1024) (hs : sub n (ltS ν)) : Wp (fX9_makes (Int32.ofNat n) 0 μ) (fun _ m => RN m ν) := by
  refine wp_mono (sX9_makes h (vd_fs hv n) hn 0) ?_
  rintro _ m ⟨a, b, c⟩
  have := RN_fl (g := ν 11) h (vd_fs hv n) a b (fun d hd => ?_)
  · unfold fs at this
    rw [fl_fl] at this
    exact this
  · have hd : d < nC ν := hd
    rw [c d hd]
    by_cases e : n.testBit d = true
    · rw [if_pos e]
      have := (ls_sub hs d e).2
      rw [fb_num hv d hd, this]; rfl
    · rw [if_neg e]
      have : (μ.1 74 (9 + d)).toInt = (if n.testBit d = true then (1 : Int) else ν 11 d) := (h.2.2.1 d hd).2.2.2.2.2
      rw [if_neg e] at this
      exact this
/-! which can be flops -/
def pf (ν : Nv) (c : Nat) : Bool := !Fb ν c && decide ((∀ p, p < nP ν → To ν p ≠ c) ∨ CC ν (ν 0 3) c ≤ -64 * ν 4 c)
theorem pf_iff (c : Nat) : pf ν c = true ↔ Fb ν c = false ∧ ((∀ p, p < nP ν → To ν p ≠ c) ∨ CC ν (ν 0 3) c ≤ -64 * ν 4 c) := by
  unfold pf
  rw [Bool.and_eq_true, decide_eq_true_iff]
  simp
theorem gd_fs (hv : Vd ν) (hg : gd ν (ν 0 3) = true) {n : Nat} (hs : sub n (ltS ν)) : gd (fs ν n) (ν 0 3) = true ↔ sub n (bt (pf ν) (nC ν)) := by
  have hb := gd_bd hg
  have lmf : ∀ c, Lm (fs ν n) (ν 0 3) c = (if Fb (fs ν n) c = true then 0 else ν 2 (Ph ν c) * ν 0 3) - 64 * ν 4 c := fun c => rfl
  constructor
  · intro h c hc
    obtain ⟨U, hU, h1, h2⟩ := (gd_iff (vd_fs hv n)).mp h
    have hU1 : ∀ c, c < nC ν → 0 ≤ U c ∧ (Fb (fs ν n) c = true → U c = 0) := hU.1
    have hU2 : ∀ p, p < nP ν → Fb (fs ν n) (To ν p) = false → U (Fr ν p) + Wt ν (ν 0 3) p ≤ U (To ν p) := hU.2
    have h2 : ∀ p, p < nP ν → Fb (fs ν n) (To ν p) = true → U (Fr ν p) + Wt ν (ν 0 3) p ≤ Lm (fs ν n) (ν 0 3) (To ν p) := h2
    have hP : Psn ν (ν 0 3) U := by
      refine ⟨fun c hc => ⟨(hU1 c hc).1, fun hf => (hU1 c hc).2 (by rw [fb_fs, hf]; simp)⟩, fun p hp hf => ?_⟩
      cases e : n.testBit (To ν p) with
      | true =>
        have hf2 : Fb (fs ν n) (To ν p) = true := by rw [fb_fs, e]; rfl
        have a := h2 p hp hf2
        have b := (hU1 _ (vd_rng hv p hp).2).1
        have d := hv.2.2.1 _ (vd_rng hv p hp).2
        rw [lmf, if_pos hf2] at a
        omega
      | false => exact hU2 p hp (by rw [fb_fs, e, hf]; rfl)
    obtain ⟨c1, c2⟩ := ls_sub hs c hc
    rw [bt_test]
    have : pf ν c = true := by
      rw [pf_iff]
      refine ⟨c2, ?_⟩
      rcases cc_vv (ν := ν) c with ⟨p, p1, p2, p3⟩ | hno
      · right
        have hf2 : Fb (fs ν n) (To ν p) = true := by rw [fb_fs, p2, hc]; rfl
        have a := h2 p p1 hf2
        rw [lmf, if_pos hf2, p2] at a
        have b := jr_le hv hP (nC ν) (Fr ν p) (vd_rng hv p p1).1
        have b : LL ν (ν 0 3) (Fr ν p) ≤ U (Fr ν p) := b
        rw [p3]
        unfold vv
        omega
      · exact Or.inl hno
    simp [c1, this]
  · intro h
    have hL := ll_lf hv hb
    obtain ⟨g1, g2⟩ := (gd_lf (vd_rng hv) hL).mp ((gd_iff hv).mp hg)
    have pfc : ∀ c, n.testBit c = true → c < nC ν ∧ Fb ν c = false ∧ ((∀ p, p < nP ν → To ν p ≠ c) ∨ CC ν (ν 0 3) c ≤ -64 * ν 4 c) := by
      intro c hc
      have := h c hc
      rw [bt_test, Bool.and_eq_true, decide_eq_true_iff, pf_iff] at this
      exact ⟨this.1, this.2.1, this.2.2⟩
    refine (gd_iff (vd_fs hv n)).mpr ⟨LL ν (ν 0 3), ⟨fun c hc => ⟨(hL.1.1 c hc).1, fun hf => ?_⟩, fun p hp hf => ?_⟩, fun c hc hf => ?_, fun p hp hf => ?_⟩
    · rw [fb_fs, Bool.or_eq_true] at hf
      rcases hf with hf | hf
      · obtain ⟨c1, c2, c3⟩ := pfc c hf
        have hs4 := hv.2.2.1 c c1
        rw [ll_cc hb c c1, if_neg (by rw [c2]; decide)]
        rcases c3 with c3 | c3
        · have : CC ν (ν 0 3) c = 0 := by
            rcases cm_cases (ν := ν) (fun p => LL ν (ν 0 3) (Fr ν p) + Wt ν (ν 0 3) p) c with ⟨p, hp, ht, e⟩ | ⟨hn, e⟩
            · exact absurd ht (c3 p hp)
            · have e : CC ν (ν 0 3) c = _ := e
              rw [e, if_neg (by rw [c2]; decide)]
          rw [this]; rfl
        · split <;> omega
      · exact (hL.1.1 c hc).2 hf
    · have hf : Fb (fs ν n) (To ν p) = false := hf
      rw [fb_fs, Bool.or_eq_false_iff] at hf
      exact hL.1.2 p hp hf.2
    · have hf' : Fb (fs ν n) c = false := hf
      rw [fb_fs, Bool.or_eq_false_iff] at hf
      have := g1 c hc hf.2
      rw [lmf, if_neg (by rw [hf']; decide)]
      unfold Lm at this
      rw [if_neg (by rw [hf.2]; decide)] at this
      exact this
    · have hf' : Fb (fs ν n) (To ν p) = true := hf
      have hp : p < nP ν := hp
      rw [fb_fs, Bool.or_eq_true] at hf'
      show LL ν (ν 0 3) (Fr ν p) + Wt ν (ν 0 3) p ≤ Lm (fs ν n) (ν 0 3) (To ν p)
      rw [lmf, if_pos (show Fb (fs ν n) (To ν p) = true from hf)]
      rcases hf' with hf' | hf'
      · obtain ⟨c1, c2, c3⟩ := pfc _ hf'
        rcases c3 with c3 | c3
        · exact absurd rfl (c3 p hp)
        · have := cm_ge (ν := ν) (v := fun p => LL ν (ν 0 3) (Fr ν p) + Wt ν (ν 0 3) p) hp rfl
          have : LL ν (ν 0 3) (Fr ν p) + Wt ν (ν 0 3) p ≤ CC ν (ν 0 3) (To ν p) := this
          omega
      · have := g2 p hp hf'
        rw [lm_flop hf'] at this
        omega
def AnsFs (ν : Nv) (r : Int) : Prop := (gd ν (ν 0 3) = false ∧ r = -2) ∨ (gd ν (ν 0 3) = true ∧ r = (bt (pf ν) (nC ν) : Nat))
theorem ansFs_unique {r s : Int} (h : AnsFs ν r) (h2 : AnsFs ν s) : r = s := by
  rcases h with ⟨a1, a2⟩ | ⟨a1, a2⟩ <;> rcases h2 with ⟨b1, b2⟩ | ⟨b1, b2⟩
  · omega
  · rw [a1] at b1; cases b1
  · rw [a1] at b1; cases b1
  · omega
theorem sX5_possibleFlops (h : CN μ ν) (hv : Vd ν) (ht : TOk μ ν) (hb : bd ν (ν 0 3) = true) : Wp (fX5_possibleFlops μ) (fun r m => m = μ ∧ r = Int32.ofNat (bt (pf ν) (nC ν))) := by
  have hn := vd_nums hv
  have hc := vd_cast hv
  have en : (μ.1 2 13).toInt = ν 0 1 := h.1.2.1
  unfold fX5_possibleFlops
  refine lp_bits (nC ν) (pf ν) (by omega) (fun rc a l i hl hi hgo => ?_) (fun rc a l hl ha => ?_)
  · unfold fX5_possibleFlops_B4
    rw [if_neg (by rw [t_le, en, hl]; omega)]
    have f1 := h.2.2.1 i hi
    have vc := hv.2.2.1 i hi
    have e36 := (tok_get ht hb).2.1 i hi
    have fin : ∀ s : Int32, (s.toInt = 0 ∨ s.toInt = 1) → (s.toInt = 1 ↔ ((∀ p, p < nP ν → To ν p ≠ i) ∨ CC ν (ν 0 3) i ≤ -64 * ν 4 i)) → Wp (fX5_possibleFlops_K50 a l s rc μ) (fun r m => m = μ ∧ r = Int32.ofNat (bt (pf ν) (nC ν))) := by
      intro s hs hs1
      unfold fX5_possibleFlops_K50 fX5_possibleFlops_K73 fX5_possibleFlops_K74
      refine wp_rdf (sX1_isFlop h hv l i hl hi) (fun r3 e3 => wp_if (fun c1 => wp_if (fun c2 => wp_let (hgo _ _ ?_ (inc hl (by omega)))) (fun c2 => wp_let (hgo _ _ ?_ (inc hl (by omega))))) (fun c1 => wp_let (hgo _ _ ?_ (inc hl (by omega)))))
      · rw [if_neg (fun g => by
          have := hs1.mpr ((pf_iff i).mp g).2
          have := q0.mp c2
          omega), or0]
      · have hf := not_of e3 c1
        rw [if_pos ((pf_iff i).mpr ⟨by simpa using hf, hs1.mp (by
          have := mt q0.mpr c2
          omega)⟩)]
      · have hf := yes_of e3 c1
        rw [if_neg (fun g => by have := ((pf_iff i).mp g).1; rw [hf] at this; cases this), or0]
    refine wp_bd (wp_mono (sX5_latestPath h hv ht hb l i hl hi) ?_)
    rintro v1 m2 ⟨rfl, hL⟩
    unfold fX5_possibleFlops_K45
    refine wp_if (fun c1 => fin 1 (Or.inr rfl) ⟨fun _ => Or.inl ?_, fun _ => rfl⟩) (fun c1 => ?_)
    · have c1 := qm1.mp c1
      rcases hL with ⟨-, g⟩ | ⟨q, g1, g2, -⟩
      · exact g
      · omega
    · have c1 := mt qm1.mpr c1
      have hno : ¬ ∀ p, p < nP ν → To ν p ≠ i := by
        rcases hL with ⟨g, -⟩ | ⟨q, g1, g2, g3, -⟩
        · exact absurd g c1
        · exact fun g => g q g1 g3
      have e64 : ((-64 : Int32) * m2.1 8 i).toInt = -64 * ν 4 i := by
        rw [t_mul, f1.2.2.1, show Int32.toInt (-64) = -64 from rfl]; omega
      refine wp_rd i hl (by omega) (wp_rd i hl (by omega) (wp_if (fun c2 => fin 0 (Or.inl rfl) ⟨fun g => absurd g (by decide), fun g => ?_⟩) (fun c2 => fin 1 (Or.inr rfl) ⟨fun _ => Or.inr ?_, fun _ => rfl⟩)))
      · rw [t_lt, e64, e36] at c2
        rcases g with g | g
        · exact absurd g hno
        · omega
      · rw [t_lt, e64, e36] at c2; omega
  · unfold fX5_possibleFlops_B4
    rw [if_pos (by rw [t_le, en, hl]; omega)]
    exact wp_ret ⟨rfl, ha⟩
theorem sX8_flops (h : CN μ ν) (hv : Vd ν) (ht : TIn μ ν) : Wp (fX8_flops μ) (fun r m => AnsFs ν r.toInt ∧ CN m ν ∧ TIn m ν) := by
  have hn := vd_nums hv
  unfold fX8_flops fX8_flops_K20
  refine isF h hv ht (fun r m hr hb hm hT hI => ?_) (fun r m hr hb hm hI => ?_)
  · rw [if_pos hr]
    refine wp_bd (wp_mono (sX5_unmet hm hv hT hb) ?_)
    rintro r3 m4 ⟨rfl, hr3⟩
    refine wp_if (fun c => ?_) (fun c => wp_ret ⟨Or.inl ⟨?_, rfl⟩, hm, hI⟩)
    · rw [hr3, unm0 hv hb] at c
      refine wp_bd (wp_mono (sX5_possibleFlops hm hv hT hb) ?_)
      rintro r5 m6 ⟨rfl, hr5⟩
      exact wp_ret ⟨Or.inr ⟨c, by rw [hr5, bt_toInt _ hn.2.1]⟩, hm, hI⟩
    · rw [hr3, unm0 hv hb] at c
      simpa using c
  · rw [if_neg hr]
    refine wp_ret ⟨Or.inl ⟨?_, rfl⟩, hm, hI⟩
    unfold gd; rw [hb]; rfl
theorem sX9_flops (h0 : RN μ ν) (hv : Vd ν) : Wp (fX9_flops μ) (fun r m => AnsFs ν r.toInt ∧ RN m ν) := by
  have hn := vd_nums hv
  have hc := vd_cast hv
  have h : RN (ax_wi μ 57 0 0) ν := RN_wi57 h0
  have hLS : ltS ν < 1024 := bt_10 _ hn.2.1
  have hF : bt (pf ν) (nC ν) < 1024 := bt_10 _ hn.2.1
  have hFL : sub (bt (pf ν) (nC ν)) (ltS ν) := by
    intro c hc
    rw [bt_test, Bool.and_eq_true, decide_eq_true_iff, pf_iff] at hc
    rw [ls_bit]
    unfold lat
    simp [hc.1, hc.2.1]
  unfold fX9_flops
  refine wp_let (wp_bd (wp_mono (sX9_isGood h hv) ?_))
  rintro r2 m3 ⟨hm3, -, er2⟩
  refine wp_if (fun c => wp_ret ⟨Or.inl ⟨?_, rfl⟩, hm3⟩) (fun c => ?_)
  · have := not_of er2 c
    simpa using this
  · have hg := yes_of er2 c
    refine lp_bits (nC ν) (lat ν) (by omega) (fun rc a l i hl hi hgo => ?_) (fun rc a l hl ha => ?_)
    · unfold fX9_flops_B19 fX9_flops_K43
      refine wp_rdf (sX9_cells hm3) (fun r4 e4 => ?_)
      rw [if_neg (by rw [t_le, e4, hl]; omega)]
      refine wp_rdf (sX9_isFlop hm3 hv l i hl hi) (fun r20 e20 => wp_if (fun c1 => wp_let (hgo _ _ ?_ (inc hl (by omega)))) (fun c1 => wp_let (hgo _ _ ?_ (inc hl (by omega)))))
      · have hf := not_of e20 c1
        rw [if_pos (by unfold lat; simpa using hf)]
      · have hf := yes_of e20 c1
        rw [if_neg (by unfold lat; rw [hf]; decide), or0]
    · unfold fX9_flops_B19
      refine wp_rdf (sX9_cells hm3) (fun r4 e4 => ?_)
      rw [if_pos (by rw [t_le, e4, hl]; omega)]
      have ha : a = Int32.ofNat (ltS ν) := ha
      have hat : a.toInt = (ltS ν : Nat) := by rw [ha]; exact nat_toInt (by omega)
      refine wp_lp2 (fun k (l2 l3 : Int32) m => ∃ i b : Nat, l3.toInt = (i : Int) ∧ 1 ≤ i ∧ i ≤ 1024 ∧ k = 1024 - i ∧ l2 = Int32.ofNat b ∧ b < 1024 ∧ sub b (bt (pf ν) (nC ν)) ∧ (∀ x, 1 ≤ x → x < i → sub x (bt (pf ν) (nC ν)) → pc x ≤ pc b) ∧ RN m ν) ax_FU ?_ 1023 (by unfold ax_FU; omega) ⟨1, 0, rfl, by omega, by omega, rfl, rfl, by omega, fun i hi => by simp at hi, fun x h1 h2 => by omega, hm3⟩
      rintro k rc2 hrc l2 l3 m ⟨i, b, hl3, hi1, hi2, hk, hl2, hb, hs, hmx, hm⟩
      unfold fX9_flops_B55 fX9_flops_K97 fX9_flops_K103
      refine wp_if (fun c1 => wp_ret ⟨Or.inr ⟨hg, ?_⟩, hm⟩) (fun c1 => ?_)
      · rw [t_lt, hat, hl3] at c1
        rw [hl2, nat_toInt (by omega)]
        have : b = bt (pf ν) (nC ν) := by
          by_cases e : bt (pf ν) (nC ν) = 0
          · have := sub_le hs
            omega
          · refine sub_eq hb hF hs (hmx _ (by omega) ?_ (fun _ g => g))
            have := sub_le hFL
            omega
        rw [this]
      · rw [t_lt, hat, hl3] at c1
        have hin : i < 1024 := by omega
        have nx : (l3 + 1).toInt = ((i + 1 : Nat) : Int) := inc hl3 (by omega)
        have el3 : l3 = Int32.ofNat i := i_nat hl3
        have skip : ∀ m, RN m ν → (sub i (bt (pf ν) (nC ν)) → pc i ≤ pc b) → Wp (rc2 l2 (l3 + 1) m) (fun r m => AnsFs ν r.toInt ∧ RN m ν) := by
          intro m hm hsk
          refine hrc (1024 - (i + 1)) _ _ _ (by omega) ⟨i + 1, b, nx, by omega, by omega, rfl, hl2, hb, hs, fun x h1 h2 h3 => ?_, hm⟩
          by_cases ex : x = i
          · rw [ex] at h3 ⊢; exact hsk h3
          · exact hmx x h1 (by omega) h3
        refine wp_if (fun c2 => ?_) (fun c2 => skip m hm (fun g => ?_))
        · rw [el3, ha, and_not0 hin] at c2
          rw [el3] at nx skip ⊢
          rw [hl2] at skip ⊢
          refine wp_rdf (sX9_bits hin) (fun r6 e6 => wp_rdf (sX9_bits hb) (fun r8 e8 => wp_if (fun c3 => ?_) (fun c3 => skip m hm (fun _ => ?_))))
          · rw [t_lt, e6, e8] at c3
            refine wp_bd (wp_mono (RN_make hm hv hin) ?_)
            intro _ m11 hm11
            refine wp_bd (wp_mono (sX9_isGood hm11 (vd_fs hv i)) ?_)
            rintro r12 m13 ⟨hm13, -, e12⟩
            have e12 : r12.toInt = if gd (fs ν i) (ν 0 3) = true then 1 else 0 := e12
            refine wp_if (fun c4 => ?_) (fun c4 => ?_)
            · refine wp_bd (wp_mono (RN_unmake hm13 hv hin c2) ?_)
              intro _ m15 hm15
              exact skip m15 hm15 (fun g => absurd ((gd_fs hv hg c2).mpr g) (not_of e12 c4))
            · refine wp_bd (wp_mono (RN_unmake hm13 hv hin c2) ?_)
              intro _ m15 hm15
              refine hrc (1024 - (i + 1)) _ _ _ (by omega) ⟨i + 1, i, nx, by omega, by omega, rfl, rfl, hin, (gd_fs hv hg c2).mp (yes_of e12 c4), fun x h1 h2 h3 => ?_, hm15⟩
              by_cases ex : x = i
              · rw [ex]; exact Nat.le_refl _
              · have := hmx x h1 (by omega) h3
                omega
          · rw [t_lt, e6, e8] at c3; omega
        · rw [el3, ha, and_not0 hin] at c2
          exact absurd (fun c hc => hFL c (g c hc)) c2
end BTS
