/-! breaks of the reference -/
def HP (ν : Nv) (n : Nat) : Prop := ∃ Y : Nat → Prop, (∃ y, Y y) ∧ (∀ y, Y y → n.testBit y = true) ∧ ∀ y, Y y → ∃ p, p < nP ν ∧ To ν p = y ∧ Y (Fr ν p)
section BRK
variable {μ : ax_M} {ν : Nv}
/-- a walk in a set that leads on; somewhere it comes again -/
theorem walk_rep {Y : Nat → Prop} {f : Nat → Nat} {y : Nat} (hy : Y y) (h : ∀ z, Y z → Y (f z)) (hb : ∀ z, Y z → z < 10) : ∃ i j, i < j ∧ Nat.repeat f i y = Nat.repeat f j y := by
  have hY : ∀ k, Y (Nat.repeat f k y) := by
    intro k
    induction k with
    | zero => exact hy
    | succ k ih => exact h _ ih
  obtain ⟨i, j, h1, -, h3⟩ := pigeon 10 (fun k => Nat.repeat f k y) (fun k _ => hb _ (hY k))
  exact ⟨i, j, h1, h3⟩
theorem hl_hp (hv : Vd ν) {n : Nat} (hn : n < 1024) : HL ν n ↔ HP ν n := by
  have b10 : ∀ y, n.testBit y = true → y < 10 := by
    intro y hy
    by_cases e : y < 10
    · exact e
    · rw [hi_bit hn (by omega)] at hy; cases hy
  have rep : ∀ (f : Nat → Nat) (y : Nat) (k : Nat), Nat.repeat f (k + 1) y = f (Nat.repeat f k y) := fun _ _ _ => rfl
  constructor
  · rintro ⟨Y, ⟨y, hy⟩, h1, h2⟩
    have hch : ∀ z, ∃ p, Y z → p < nP ν ∧ Fr ν p = z ∧ Y (To ν p) := by
      intro z
      by_cases e : Y z
      · obtain ⟨p, hp⟩ := h2 z e
        exact ⟨p, fun _ => hp⟩
      · exact ⟨0, fun g => absurd g e⟩
    obtain ⟨q, hq⟩ := Classical.axiomOfChoice hch
    have hf : ∀ z, Y z → Y (To ν (q z)) := fun z hz => (hq z hz).2.2
    have hY : ∀ k, Y (Nat.repeat (fun z => To ν (q z)) k y) := by
      intro k
      induction k with
      | zero => exact hy
      | succ k ih => exact hf _ ih
    obtain ⟨i, j, hij, he⟩ := walk_rep hy hf (fun z hz => b10 z (h1 z hz))
    refine ⟨fun z => ∃ k, i ≤ k ∧ k < j ∧ z = Nat.repeat (fun z => To ν (q z)) k y, ⟨_, i, by omega, hij, rfl⟩, ?_, ?_⟩
    · rintro z ⟨k, -, -, rfl⟩
      exact h1 _ (hY k)
    · rintro z ⟨k, k1, k2, rfl⟩
      by_cases e : k = i
      · subst e
        obtain ⟨j', rfl⟩ : ∃ j', j = j' + 1 := ⟨j - 1, by omega⟩
        rw [rep] at he
        have hq2 := hq _ (hY j')
        exact ⟨_, hq2.1, he.symm, j', by omega, by omega, hq2.2.1⟩
      · obtain ⟨k', rfl⟩ : ∃ k', k = k' + 1 := ⟨k - 1, by omega⟩
        have hq2 := hq _ (hY k')
        exact ⟨_, hq2.1, rfl, k', by omega, by omega, hq2.2.1⟩
  · rintro ⟨Y, ⟨y, hy⟩, h1, h2⟩
    have hch : ∀ z, ∃ p, Y z → p < nP ν ∧ To ν p = z ∧ Y (Fr ν p) := by
      intro z
      by_cases e : Y z
      · obtain ⟨p, hp⟩ := h2 z e
        exact ⟨p, fun _ => hp⟩
      · exact ⟨0, fun g => absurd g e⟩
    obtain ⟨q, hq⟩ := Classical.axiomOfChoice hch
    have hf : ∀ z, Y z → Y (Fr ν (q z)) := fun z hz => (hq z hz).2.2
    have hY : ∀ k, Y (Nat.repeat (fun z => Fr ν (q z)) k y) := by
      intro k
      induction k with
      | zero => exact hy
      | succ k ih => exact hf _ ih
    obtain ⟨i, j, hij, he⟩ := walk_rep hy hf (fun z hz => b10 z (h1 z hz))
    refine ⟨fun z => ∃ k, i ≤ k ∧ k < j ∧ z = Nat.repeat (fun z => Fr ν (q z)) k y, ⟨_, i, by omega, hij, rfl⟩, ?_, ?_⟩
    · rintro z ⟨k, -, -, rfl⟩
      exact h1 _ (hY k)
    · rintro z ⟨k, k1, k2, rfl⟩
      by_cases e : k = i
      · subst e
        obtain ⟨j', rfl⟩ : ∃ j', j = j' + 1 := ⟨j - 1, by omega⟩
        rw [rep] at he
        have hq2 := hq _ (hY j')
        exact ⟨_, hq2.1, he.symm, j', by omega, by omega, hq2.2.1⟩
      · obtain ⟨k', rfl⟩ : ∃ k', k = k' + 1 := ⟨k - 1, by omega⟩
        have hq2 := hq _ (hY k')
        exact ⟨_, hq2.1, rfl, k', by omega, by omega, hq2.2.1⟩
theorem ls_fs (hv : Vd ν) (n : Nat) : ltS (fs ν n) = dif (ltS ν) n := by
  refine Nat.eq_of_testBit_eq (fun i => ?_)
  rw [dif_bit (ls_lt hv), ls_bit, ls_bit]
  unfold lat
  rw [fb_fs]
  show (decide (i < nC ν) && !(n.testBit i || Fb ν i)) = _
  cases n.testBit i <;> simp
theorem sX9_hasLoop (h : RN μ ν) (hv : Vd ν) : Wp (fX9_hasLoop μ) (fun r m => m = μ ∧ ((r.toInt = 1 ∧ HP ν (ltS ν)) ∨ (r.toInt = 0 ∧ ¬ HP ν (ltS ν)))) := by
  have hnn := vd_nums hv
  have hcc := vd_cast hv
  have hls := ls_lt hv
  have z10 : Int32.toInt 10 = 10 := rfl
  unfold fX9_hasLoop
  refine lp_bits (nC ν) (lat ν) (by omega) (fun rc a l i hl hi hgo => ?_) (fun rc a l hl ha => ?_)
  · unfold fX9_hasLoop_B4 fX9_hasLoop_K28
    refine wp_rdf (sX9_cells h) (fun r4 e4 => ?_)
    rw [if_neg (by rw [t_le, e4, hl]; omega)]
    refine wp_rdf (sX9_isFlop h hv l i hl hi) (fun r20 e20 => wp_if (fun c1 => wp_let (hgo _ _ ?_ (inc hl (by omega)))) (fun c1 => wp_let (hgo _ _ ?_ (inc hl (by omega)))))
    · have hf := not_of e20 c1
      rw [if_pos (by unfold lat; simpa using hf)]
    · have hf := yes_of e20 c1
      rw [if_neg (by unfold lat; rw [hf]; decide), or0]
  · unfold fX9_hasLoop_B4
    refine wp_rdf (sX9_cells h) (fun r4 e4 => ?_)
    rw [if_pos (by rw [t_le, e4, hl]; omega)]
    have ha : a = Int32.ofNat (ltS ν) := ha
    refine wp_lp2 (fun k (l1 l2 : Int32) m => m = μ ∧ ∃ j x : Nat, l2.toInt = (j : Int) ∧ j ≤ 10 ∧ k = 10 - j ∧ l1 = Int32.ofNat x ∧ x < 1024 ∧ sub x (ltS ν) ∧ (pc x + j ≤ 10 ∨ (x ≠ 0 ∧ ∀ c, x.testBit c = true → ∃ p, p < nP ν ∧ To ν p = c ∧ x.testBit (Fr ν p) = true)) ∧ ∀ Y : Nat → Prop, (∀ y, Y y → (ltS ν).testBit y = true) → (∀ y, Y y → ∃ p, p < nP ν ∧ To ν p = y ∧ Y (Fr ν p)) → ∀ y, Y y → x.testBit y = true) ax_FU ?_ 10 (by decide) ⟨rfl, 0, ltS ν, rfl, by omega, rfl, ha, hls, fun _ g => g, Or.inl (by have := pc_le (ltS ν); omega), fun Y h1 _ y hy => h1 y hy⟩
    rintro k rc hrc l1 l2 m ⟨rfl, j, x, hl2, hj, hk, hl1, hx, hxn, hpc, hY⟩
    unfold fX9_hasLoop_B38 fX9_hasLoop_K125
    refine wp_if (fun c1 => wp_if (fun c2 => wp_ret ⟨rfl, Or.inr ⟨rfl, ?_⟩⟩) (fun c2 => wp_ret ⟨rfl, Or.inl ⟨rfl, ?_⟩⟩)) (fun c1 => ?_)
    · rw [hl1, ofN0 hx] at c2
      rintro ⟨Y, ⟨y, hy⟩, h1, h2⟩
      have := hY Y h1 h2 y hy
      rw [c2, Nat.zero_testBit] at this
      cases this
    · rw [hl1, ofN0 hx] at c2
      rw [t_le, z10, hl2] at c1
      rcases hpc with hpc | ⟨-, hcl⟩
      · exact absurd (pc_zero hx (by omega)) c2
      · obtain ⟨i, hi⟩ : ∃ i, x.testBit i = true := by
          by_cases g : ∃ i, x.testBit i = true
          · exact g
          · refine absurd (nat0.mpr (fun i => ?_)) c2
            cases e : x.testBit i with
            | false => rfl
            | true => exact absurd ⟨i, e⟩ g
        exact ⟨fun y => x.testBit y = true, ⟨i, hi⟩, fun y hy => hxn y hy, hcl⟩
    · rw [t_le, z10, hl2] at c1
      have hj9 : j < 10 := by clear hpc; omega
      have hk9 : 10 - (j + 1) < k := by clear hpc; omega
      have inl2 := inc hl2 (i := j) (by clear hpc; omega)
      have tst : ∀ (v : Int32) (d : Nat), v.toInt = (d : Int) → d < 10 → (((l1 >>> (v &&& 31)) &&& (1 : Int32)) = 1 ↔ x.testBit d = true) := by
        intro v d hvd hd
        rw [hl1, i_nat hvd]
        exact b_one x hx d hd
      -- what is met: a loop over the paths
      refine wp_lp2 (fun k2 (l3 l4 : Int32) m2 => m2 = m ∧ ∃ i y : Nat, l4.toInt = (i : Int) ∧ i ≤ nP ν ∧ k2 = nP ν - i ∧ l3 = Int32.ofNat y ∧ y < 1024 ∧ ∀ c, y.testBit c = true ↔ ∃ p, p < i ∧ To ν p = c ∧ x.testBit (Fr ν p) = true ∧ x.testBit c = true) ax_FU ?_ (nP ν) (by unfold ax_FU; clear hpc; omega) ⟨rfl, 0, 0, rfl, by clear hpc; omega, rfl, rfl, by decide, fun c => ⟨fun g => absurd g (by rw [Nat.zero_testBit]; decide), fun ⟨p, hp, _⟩ => absurd hp (by omega)⟩⟩
      rintro k2 rc2 hrc2 l3 l4 m2 ⟨rfl, i, y, hl4, hi, hk2, hl3, hy, hyb⟩
      unfold fX9_hasLoop_B49 fX9_hasLoop_K100
      refine wp_rdf (sX9_paths h) (fun r4 e4 => wp_if (fun c2 => wp_let ?_) (fun c2 => ?_))
      · rw [t_le, e4, hl4] at c2
        have hiP : i = nP ν := by clear hpc; omega
        subst hiP
        rw [hl1, hl3, and_bits]
        have hxy : x &&& y < 1024 := Nat.lt_of_le_of_lt Nat.and_le_left hx
        have bxy : ∀ c, (x &&& y).testBit c = true ↔ x.testBit c = true ∧ ∃ p, p < nP ν ∧ To ν p = c ∧ x.testBit (Fr ν p) = true := by
          intro c
          rw [Nat.testBit_and, Bool.and_eq_true, hyb]
          exact ⟨fun ⟨g1, p, p1, p2, p3, _⟩ => ⟨g1, p, p1, p2, p3⟩, fun ⟨g1, p, p1, p2, p3⟩ => ⟨g1, p, p1, p2, p3, g1⟩⟩
        have hsx : sub (x &&& y) x := fun c hc => ((bxy c).mp hc).1
        refine hrc (10 - (j + 1)) _ _ _ hk9 ⟨rfl, j + 1, x &&& y, inl2, hj9, rfl, rfl, hxy, fun c hc => hxn c (hsx c hc), ?_, fun Y h1 h2 z hz => ?_⟩
        · by_cases e : x &&& y = x
          · rw [e]
            rcases hpc with hpc | hpc
            · by_cases ex : x = 0
              · left
                rw [ex, show pc 0 = 0 from rfl]
                omega
              · right
                refine ⟨ex, fun c hc => ?_⟩
                rw [← e] at hc
                exact ((bxy c).mp hc).2
            · exact Or.inr hpc
          · have := pc_lt hxy hx hsx e
            rcases hpc with hpc | ⟨hx0, hcl⟩
            · left; omega
            · refine absurd (Nat.eq_of_testBit_eq (fun c => ?_)) e
              cases e1 : x.testBit c with
              | true => exact (bxy c).mpr ⟨e1, hcl c e1⟩
              | false =>
                cases e2 : (x &&& y).testBit c with
                | false => rfl
                | true => rw [hsx c e2] at e1; cases e1
        · refine (bxy z).mpr ⟨hY Y h1 h2 z hz, ?_⟩
          obtain ⟨p, p1, p2, p3⟩ := h2 z hz
          exact ⟨p, p1, p2, hY Y h1 h2 _ p3⟩
      · rw [t_le, e4, hl4] at c2
        have hi2 : i < nP ν := by clear hpc; omega
        obtain ⟨a1, a2, a3, a4, a5, a6⟩ := vd_path hv i hi2
        have e := h.2.2.2 i hi2
        have e70 : (m2.1 70 i).toInt = (Fr ν i : Nat) := by rw [e.1, a4]
        have e71 : (m2.1 71 i).toInt = (To ν i : Nat) := by rw [e.2.1, a5]
        have hk3 : nP ν - (i + 1) < k2 := by clear hpc; omega
        have inl4 := inc hl4 (i := i) (by clear hpc; omega)
        have i48 : i < 48 := by clear hpc; omega
        have f10 : Fr ν i < 10 := by clear hpc; omega
        have t10 : To ν i < 10 := by clear hpc; omega
        have no : ¬ (x.testBit (Fr ν i) = true ∧ x.testBit (To ν i) = true) → Wp (rc2 l3 (l4 + 1) m2) (fun r m => m = m2 ∧ ((r.toInt = 1 ∧ HP ν (ltS ν)) ∨ (r.toInt = 0 ∧ ¬ HP ν (ltS ν)))) := by
          intro g
          refine hrc2 (nP ν - (i + 1)) _ _ _ hk3 ⟨rfl, i + 1, y, inl4, hi2, rfl, hl3, hy, fun c => ?_⟩
          rw [hyb]
          constructor
          · rintro ⟨p, p1, p2⟩
            exact ⟨p, by omega, p2⟩
          · rintro ⟨p, p1, p2, p3, p4⟩
            by_cases ep : p = i
            · subst ep
              subst p2
              exact absurd ⟨p3, p4⟩ g
            · exact ⟨p, by omega, p2, p3, p4⟩
        refine wp_rd i hl4 i48 (wp_if (fun c3 => wp_rd i hl4 i48 (wp_if (fun c4 => wp_rd i hl4 i48 (wp_let ?_)) (fun c4 => no ?_))) (fun c3 => no ?_))
        · rw [tst _ _ e70 f10] at c3
          rw [tst _ _ e71 t10] at c4
          rw [hl3, i_nat e71, b_or2 y hy _ t10]
          have hlt : y ||| 2 ^ To ν i < 1024 := Nat.or_lt_two_pow (n := 10) hy (Nat.pow_lt_pow_right (by omega) t10)
          refine hrc2 (nP ν - (i + 1)) _ _ _ hk3 ⟨rfl, i + 1, y ||| 2 ^ To ν i, inl4, hi2, rfl, rfl, hlt, fun c => ?_⟩
          rw [Nat.testBit_or, Bool.or_eq_true, hyb, Nat.testBit_two_pow, decide_eq_true_iff]
          constructor
          · rintro (⟨p, p1, p2⟩ | g)
            · exact ⟨p, by omega, p2⟩
            · exact ⟨i, by omega, g, c3, by rw [← g]; exact c4⟩
          · rintro ⟨p, p1, p2, p3, p4⟩
            by_cases ep : p = i
            · subst ep
              exact Or.inr p2
            · exact Or.inl ⟨p, by omega, p2, p3, p4⟩
        · rw [tst _ _ e71 t10] at c4
          exact fun g => c4 g.2
        · rw [tst _ _ e70 f10] at c3
          exact fun g => c3 g.1
theorem sX9_breaks (h0 : RN μ ν) (hv : Vd ν) : Wp (fX9_breaks μ) (fun r m => r.toInt = (br ν (ltS ν) : Nat) ∧ RN m ν) := by
  have hn := vd_nums hv
  have hc := vd_cast hv
  have h : RN (ax_wi μ 57 0 0) ν := RN_wi57 h0
  have hls := ls_lt hv
  unfold fX9_breaks
  refine wp_let (lp_bits (nC ν) (lat ν) (by omega) (fun rc a l i hl hi hgo => ?_) (fun rc a l hl ha => ?_))
  · unfold fX9_breaks_B9 fX9_breaks_K33
    refine wp_rdf (sX9_cells h) (fun r4 e4 => ?_)
    rw [if_neg (by rw [t_le, e4, hl]; omega)]
    refine wp_rdf (sX9_isFlop h hv l i hl hi) (fun r20 e20 => wp_if (fun c1 => wp_let (hgo _ _ ?_ (inc hl (by omega)))) (fun c1 => wp_let (hgo _ _ ?_ (inc hl (by omega)))))
    · have hf := not_of e20 c1
      rw [if_pos (by unfold lat; simpa using hf)]
    · have hf := yes_of e20 c1
      rw [if_neg (by unfold lat; rw [hf]; decide), or0]
  · unfold fX9_breaks_B9
    refine wp_rdf (sX9_cells h) (fun r4 e4 => ?_)
    rw [if_pos (by rw [t_le, e4, hl]; omega)]
    have ha : a = Int32.ofNat (ltS ν) := ha
    have hat : a.toInt = (ltS ν : Nat) := by rw [ha]; exact nat_toInt (by omega)
    refine wp_lp2 (fun k (l2 l3 : Int32) m => RN m ν ∧ ∃ i : Nat, l3.toInt = (i : Int) ∧ i ≤ ltS ν ∧ k = ltS ν - i ∧ l2 = Int32.ofNat (br ν i)) ax_FU ?_ (ltS ν) (by unfold ax_FU; omega) ⟨h, 0, rfl, by omega, rfl, ha⟩
    rintro k rc2 hrc l2 l3 m ⟨hm, i, hl3, hi, hk, hl2⟩
    have hbi := br_lt hv i (by omega)
    unfold fX9_breaks_B45 fX9_breaks_K87 fX9_breaks_K93
    refine wp_if (fun c1 => wp_ret ⟨?_, hm⟩) (fun c1 => ?_)
    · rw [t_le, hat, hl3] at c1
      rw [hl2, show i = ltS ν by omega, nat_toInt (by have := br_lt hv (ltS ν) (by omega); omega)]
    · rw [t_le, hat, hl3] at c1
      have hi2 : i < 1024 := by omega
      have el3 : l3 = Int32.ofNat i := i_nat hl3
      have inl : (l3 + 1).toInt = ((i + 1 : Nat) : Int) := inc hl3 (by omega)
      have go : ∀ (x : Int32) (m : ax_M), RN m ν → x = Int32.ofNat (br ν (i + 1)) → Wp (rc2 x (l3 + 1) m) (fun r m => r.toInt = (br ν (ltS ν) : Nat) ∧ RN m ν) := fun x m hm hx => hrc (ltS ν - (i + 1)) _ _ _ (by omega) ⟨hm, i + 1, inl, by omega, rfl, hx⟩
      refine wp_if (fun c2 => ?_) (fun c2 => ?_)
      · rw [el3, ha, and_not0 hi2] at c2
        rw [el3] at go ⊢
        rw [hl2]
        refine wp_rdf (sX9_bits hi2) (fun r4 e4 => wp_rdf (sX9_bits hbi) (fun r6 e6 => wp_if (fun c3 => ?_) (fun c3 => go _ m hm ?_)))
        · rw [t_lt, e4, e6] at c3
          refine wp_bd (wp_mono (RN_make hm hv hi2) ?_)
          intro _ m9 hm9
          refine wp_bd (wp_mono (sX9_hasLoop hm9 (vd_fs hv i)) ?_)
          rintro v10 m11 ⟨rfl, h10⟩
          rw [ls_fs hv i] at h10
          have hhp : HP (fs ν i) (dif (ltS ν) i) ↔ HP ν (dif (ltS ν) i) := Iff.rfl
          rw [hhp, ← hl_hp hv (dif_lt _ _)] at h10
          refine wp_if (fun c4 => ?_) (fun c4 => ?_)
          · refine wp_bd (wp_mono (RN_unmake hm9 hv hi2 c2) ?_)
            intro _ m13 hm13
            refine go _ m13 hm13 ?_
            rcases h10 with ⟨g, -⟩ | ⟨-, hH⟩
            · have := q0.mp c4; omega
            · rw [br_yes ⟨by omega, c2, hH⟩]
          · refine wp_bd (wp_mono (RN_unmake hm9 hv hi2 c2) ?_)
            intro _ m13 hm13
            refine go _ m13 hm13 ?_
            rcases h10 with ⟨-, hH⟩ | ⟨g, -⟩
            · rw [br_no (fun g => g.2.2 hH)]
            · exact absurd (q0.mpr g) c4
        · rw [t_lt, e4, e6] at c3
          rw [br_no (fun g => by omega)]
      · rw [el3, ha, and_not0 hi2] at c2
        refine go _ m hm ?_
        rw [hl2, br_no (fun g => c2 g.2.1)]
end BRK
