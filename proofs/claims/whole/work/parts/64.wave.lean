/-! wave, fails: both sides -/
def cw (ν : Nv) (k c : Nat) : Int := Cm ν (fun p => Jr ν (ν 0 3) k (Fr ν p) + Wt ν (ν 0 3) p) c
def wrm (ν : Nv) (c k : Nat) : Int := Lm ν (ν 0 3) c - (if Fb ν c = true then cw ν k c else Jr ν (ν 0 3) (k + 1) c)
def wvv (ν : Nv) (p n : Int) : Int := if (0 ≤ p ∧ p < ν 0 1) ∧ 0 ≤ n ∧ n ≤ 200 then Jr ν (ν 0 3) n.toNat p.toNat else -9223372036854775808
def FlA (ν : Nv) (c : Nat) (r : Int) : Prop := (r = -2 ∧ ∀ k, k < 200 → 0 ≤ wrm ν c k) ∨ ∃ k : Nat, k < 200 ∧ r = ((k + 1 : Nat) : Int) ∧ wrm ν c k < 0 ∧ ∀ j, j < k → 0 ≤ wrm ν c j
def AnsFl (ν : Nv) (p r : Int) : Prop := (¬ (0 ≤ p ∧ p < ν 0 1) ∧ r = -1) ∨ ((0 ≤ p ∧ p < ν 0 1) ∧ FlA ν p.toNat r)
theorem flA_unique {ν : Nv} {c : Nat} {r s : Int} (h : FlA ν c r) (h2 : FlA ν c s) : r = s := by
  rcases h with ⟨a1, a2⟩ | ⟨k, a1, a2, a3, a4⟩ <;> rcases h2 with ⟨b1, b2⟩ | ⟨j, b1, b2, b3, b4⟩
  · omega
  · have := a2 j b1; omega
  · have := b2 k a1; omega
  · by_cases h1 : k < j
    · have := b4 k h1; omega
    · by_cases h2 : j < k
      · have := a4 j h2; omega
      · omega
theorem ansFl_unique {ν : Nv} {p r s : Int} (h : AnsFl ν p r) (h2 : AnsFl ν p s) : r = s := by
  rcases h with ⟨a1, a2⟩ | ⟨a1, a2⟩ <;> rcases h2 with ⟨b1, b2⟩ | ⟨b1, b2⟩
  · omega
  · exact absurd b1 a1
  · exact absurd a1 b1
  · exact flA_unique a2 b2
section WAV
variable {μ : ax_M} {ν : Nv}
theorem jr_200 (hv : Vd ν) (k c : Nat) (hk : k ≤ 201) : 0 ≤ Jr ν (ν 0 3) k c ∧ Jr ν (ν 0 3) k c ≤ 16000000 := by
  have h0 := hv.1
  have a := jr_bd hv (T := ν 0 3) (by omega) (by omega) k c
  have b := jr_pos (ν := ν) (T := ν 0 3) k c
  omega
theorem cw_bd (hv : Vd ν) (k c : Nat) (hk : k ≤ 201) (hc : c < nC ν) : -700000 ≤ cw ν k c ∧ cw ν k c ≤ 17000000 := by
  have h0 := hv.1
  have hs := hv.2.2.1 c hc
  unfold cw
  rcases cm_cases (ν := ν) (fun p => Jr ν (ν 0 3) k (Fr ν p) + Wt ν (ν 0 3) p) c with ⟨p, hp, ht, e⟩ | ⟨hn, e⟩
  · have a := jr_200 hv k (Fr ν p) hk
    have b := wt_bd hv p hp (ν 0 3) (by omega) (by omega)
    rw [e]
    show _ ≤ Jr ν (ν 0 3) k (Fr ν p) + Wt ν (ν 0 3) p ∧ Jr ν (ν 0 3) k (Fr ν p) + Wt ν (ν 0 3) p ≤ _
    omega
  · rw [e]
    split <;> omega
theorem jr_cw (k c : Nat) : Jr ν (ν 0 3) (k + 1) c = if Fb ν c = true then 0 else if cw ν k c < 0 then 0 else cw ν k c := rfl
theorem jr_stay (hv : Vd ν) {k : Nat} (h : ∀ c, c < nC ν → Jr ν (ν 0 3) (k + 1) c = Jr ν (ν 0 3) k c) : ∀ j, k ≤ j → ∀ c, c < nC ν → Jr ν (ν 0 3) j c = Jr ν (ν 0 3) k c := by
  intro j hj
  induction j with
  | zero =>
    intro c hc
    have : k = 0 := by omega
    rw [this]
  | succ j ih =>
    intro c hc
    by_cases e : k = j + 1
    · rw [e]
    · have h1 := ih (by omega)
      rw [← h c hc, jr_cw, jr_cw]
      have : cw ν j c = cw ν k c := cm_congr (fun p hp => by rw [h1 _ (vd_rng hv p hp).1])
      rw [this]
theorem wrm_stay (hv : Vd ν) {k c : Nat} (hc : c < nC ν) (h : ∀ c, c < nC ν → Jr ν (ν 0 3) (k + 1) c = Jr ν (ν 0 3) k c) (j : Nat) (hj : k ≤ j) : wrm ν c j = wrm ν c k := by
  have h1 := jr_stay hv h
  unfold wrm
  have : cw ν j c = cw ν k c := cm_congr (fun p hp => by rw [h1 j hj _ (vd_rng hv p hp).1])
  rw [this, h1 (j + 1) (by omega) c hc, h c hc]
theorem sX1_weighPaths_1 (h : CN μ ν) (hv : Vd ν) : Wp (fX1_weighPaths_1 μ) (fun _ m => ∀ p, p < nP ν → (m.1 38 p).toInt = Wt ν (ν 0 3) p) := by
  have h0 := hv.1
  unfold fX1_weighPaths_1
  refine wp_lp1 (fun k (l : Int32) m => ∃ i : Nat, l.toInt = (i : Int) ∧ i ≤ nP ν ∧ k = nP ν - i ∧ CN m ν ∧ ∀ p, p < i → (m.1 38 p).toInt = Wt ν (ν 0 3) p) ax_FU ?_ (nP ν) (by unfold ax_FU nP; omega) ⟨0, rfl, Nat.zero_le _, rfl, h, fun p hp => by omega⟩
  rintro k rc hrc l m ⟨i, hl, hi, hk, hm, hw⟩
  unfold fX1_weighPaths_1_B2
  have en := hm.1.2.2.1
  have eT := hm.1.2.2.2.1
  have hnP : ν 0 2 = (nP ν : Nat) := by unfold nP; omega
  refine wp_if (fun c => wp_ret ?_) (fun c => ?_)
  · rw [t_le, en, hl] at c
    intro p hp
    exact hw p (by omega)
  · rw [t_le, en, hl] at c
    have hi2 : i < nP ν := by omega
    have bd := sht_bd hv i hi2 (ν 0 3) (by omega)
    have bd2 := dl_bd hv i hi2
    refine wp_rdf (sX1_delayOf hm hv l i hl hi2) (fun r1 e1 => wp_rdf (sX1_shiftOf hm hv l i hl hi2) (fun r3 e3 => wp_wr i hl (by have := vd_path hv i hi2; omega) ?_))
    have hval : (r1 - r3 * m.1 2 16).toInt = Wt ν (ν 0 3) i := by
      simp only [t_sub, t_mul, e1, e3, eT]
      unfold Wt
      omega
    refine hrc (nP ν - (i + 1)) _ _ (by omega) ⟨i + 1, ?_, by omega, rfl, CN_wi hm (by omega), fun p hp => ?_⟩
    · simp only [t_add, hl, Int32.reduceToInt]; omega
    · by_cases e : p = i
      · rw [e, wi_self, hval]
      · rw [wi_other e]; exact hw p (by omega)
theorem sJ7_fill39 (x : Int32) : Wp (fJ7_fill_53178_2 x μ) (fun _ m => ∀ c, c < 10 → m.1 39 c = x) := by
  unfold fJ7_fill_53178_2
  refine wp_lp1 (fun k (l : Int32) m => ∃ i : Nat, l.toInt = (i : Int) ∧ i ≤ 10 ∧ k = 10 - i ∧ ∀ p, p < i → m.1 39 p = x) ax_FU ?_ 10 (by decide) ⟨0, rfl, by omega, rfl, fun p hp => by omega⟩
  rintro k rc hrc l m ⟨i, hl, hi, hk, hw⟩
  unfold fJ7_fill_53178_2_B5
  refine wp_if (fun c => wp_ret ?_) (fun c => ?_)
  · rw [t_le, hl] at c
    simp only [Int32.reduceToInt] at c
    intro p hp
    exact hw p (by omega)
  · rw [t_le, hl] at c
    simp only [Int32.reduceToInt] at c
    refine wp_wr i hl (by omega) (hrc (10 - (i + 1)) _ _ (by omega) ⟨i + 1, ?_, by omega, rfl, fun p hp => ?_⟩)
    · simp only [t_add, hl, Int32.reduceToInt]; omega
    · by_cases e : p = i
      · rw [e, wi_self]
      · rw [wi_other e]; exact hw p (by omega)
def WvI (m : ax_M) (ν : Nv) (k : Nat) : Prop := CN m ν ∧ (∀ p, p < nP ν → (m.1 38 p).toInt = Wt ν (ν 0 3) p) ∧ ∀ c, c < nC ν → (m.1 39 c).toInt = Jr ν (ν 0 3) k c
theorem sX7_rest (h : CN μ ν) (hv : Vd ν) : Wp (fX7_rest μ) (fun _ m => WvI m ν 0) := by
  have hn := vd_nums hv
  unfold fX7_rest
  refine wp_bd (wp_mono (wp_keep (sX1_weighPaths_1 h hv) (kf_X1_weighPaths_1 μ)) ?_)
  rintro _ m1 ⟨hw, hk1⟩
  refine wp_bd (wp_mono (wp_keep (sJ7_fill39 0) (kf_J7_fill_53178_2 0 m1)) ?_)
  rintro _ m2 ⟨hz, hk2⟩
  refine wp_ret ⟨CN_keep h (fun a h1 h2 => by rw [(hk2 a (by simp; omega)).1, (hk1 a (by simp; omega)).1]), fun p hp => by rw [(hk2 38 (by decide)).1]; exact hw p hp, fun c hc => by rw [hz c (by omega)]; rfl⟩
theorem or01 : ∀ a : Int32, a.toInt = 0 ∨ a.toInt = 1 → (a ||| 1) = 1 := by
  intro a h
  rcases h with h | h
  · rw [q0.mpr h]; decide
  · rw [q1.mpr h]; decide
theorem sX7_step (hv : Vd ν) (k : Nat) (hk : k ≤ 200) (hI : WvI μ ν k) : Wp (fX7_step μ) (fun r m => WvI m ν (k + 1) ∧ (∀ c, c < nC ν → (m.1 40 c).toInt = cw ν k c) ∧ (r = 0 → ∀ c, c < nC ν → Jr ν (ν 0 3) (k + 1) c = Jr ν (ν 0 3) k c)) := by
  have h0 := hv.1
  have hn := vd_nums hv
  have hc := vd_cast hv
  obtain ⟨h, h38, h39⟩ := hI
  unfold fX7_step
  refine wp_bd (wp_mono (wp_keep (sX1_gather_1 (v := fun p => Jr ν (ν 0 3) k (Fr ν p) + Wt ν (ν 0 3) p) h hv (fun p hp => ?_)) (kf_X1_gather_1 μ)) ?_)
  · rw [h39 _ (vd_rng hv p hp).1, h38 p hp]
    have a := jr_200 hv k (Fr ν p) (by omega)
    have b := wt_bd hv p hp (ν 0 3) (by omega) (by omega)
    exact ⟨rfl, by omega, by omega⟩
  · rintro _ m2 ⟨hg, hk2⟩
    have hm2 : CN m2 ν := CN_keep h (fun a h1 h2 => (hk2 a (by simp; omega)).1)
    have e39 : m2.1 39 = μ.1 39 := (hk2 39 (by decide)).1
    have e38 : m2.1 38 = μ.1 38 := (hk2 38 (by decide)).1
    refine wp_lp2 (fun n (l1 l2 : Int32) m => ∃ i : Nat, l2.toInt = (i : Int) ∧ i ≤ nC ν ∧ n = nC ν - i ∧ (∀ a, a ≠ 39 → m.1 a = m2.1 a) ∧ (∀ c, c < nC ν → (m.1 39 c).toInt = if c < i then Jr ν (ν 0 3) (k + 1) c else Jr ν (ν 0 3) k c) ∧ (l1.toInt = 0 ∨ l1.toInt = 1) ∧ (l1.toInt = 0 → ∀ c, c < i → Jr ν (ν 0 3) (k + 1) c = Jr ν (ν 0 3) k c)) ax_FU ?_ (nC ν) (by unfold ax_FU; omega) ⟨0, rfl, by omega, rfl, fun _ _ => rfl, fun c hc => by rw [e39, h39 c hc]; rfl, Or.inl rfl, fun _ c hc => by omega⟩
    rintro n rc hrc l1 l2 m ⟨i, hl, hi, hn2, kx, hw, h01, hz⟩
    have hm : CN m ν := CN_keep hm2 (fun a _ _ => kx a (by omega))
    have en : (m.1 2 13).toInt = ν 0 1 := hm.1.2.1
    unfold fX7_step_B23 fX7_step_K65
    refine wp_if (fun c1 => wp_ret ⟨⟨hm, fun p hp => by rw [kx 38 (by omega), e38]; exact h38 p hp, fun c hc => ?_⟩, fun c hc => by rw [kx 40 (by omega)]; exact hg c hc, fun hr c hc => ?_⟩) (fun c1 => ?_)
    · rw [t_le, en, hl] at c1
      rw [hw c hc, if_pos (by omega)]
    · rw [t_le, en, hl] at c1
      rw [nar_bool h01] at hr
      exact hz (q0.mp hr) c (by omega)
    · rw [t_le, en, hl] at c1
      have hi2 : i < nC ν := by omega
      have e40 : (m.1 40 i).toInt = cw ν k i := by rw [kx 40 (by omega)]; exact hg i hi2
      have wi := hw i hi2
      rw [if_neg (by omega)] at wi
      refine wp_rd i hl (by omega) (wp_rdf (sX1_leavesBy hm hv l2 _ i hl hi2) (fun r4 e4 => wp_rd i hl (by omega) ?_))
      rw [e40] at e4
      have e4 : r4.toInt = Jr ν (ν 0 3) (k + 1) i := by rw [e4, jr_cw]
      have stp : ∀ x : Int32, (x.toInt = 0 ∨ x.toInt = 1) → (x.toInt = 0 → l1.toInt = 0 ∧ Jr ν (ν 0 3) (k + 1) i = Jr ν (ν 0 3) k i) → Wp (rc x (l2 + 1) (ax_wi m 39 i r4)) (fun r m => WvI m ν (k + 1) ∧ (∀ c, c < nC ν → (m.1 40 c).toInt = cw ν k c) ∧ (r = 0 → ∀ c, c < nC ν → Jr ν (ν 0 3) (k + 1) c = Jr ν (ν 0 3) k c)) := by
        intro x hx hx0
        refine hrc (nC ν - (i + 1)) _ _ _ (by omega) ⟨i + 1, inc hl (by omega), by omega, rfl, fun a ha => by rw [wi_ne ha]; exact kx a ha, fun c hc => ?_, hx, fun g c hc => ?_⟩
        · by_cases ec : c = i
          · rw [ec, wi_self, if_pos (by omega)]; exact e4
          · rw [wi_other ec, hw c hc]
            by_cases e5 : c < i
            · rw [if_pos e5, if_pos (by omega)]
            · rw [if_neg e5, if_neg (by omega)]
        · by_cases ec : c = i
          · rw [ec]; exact (hx0 g).2
          · exact hz (hx0 g).1 c (by omega)
      refine wp_if (fun c2 => wp_let (wp_wr i hl (by omega) ?_)) (fun c2 => wp_let (wp_wr i hl (by omega) ?_))
      · rw [or0]
        rw [t_eq, e4, wi] at c2
        exact stp _ h01 (fun g => ⟨g, c2⟩)
      · rw [or01 l1 h01]
        exact stp _ (Or.inr rfl) (fun g => absurd g (by decide))
theorem sX8_wave (h : CN μ ν) (hv : Vd ν) (p n : Int32) : Wp (fX8_wave p n μ) (fun r m => r.toInt = wvv ν p.toInt n.toInt ∧ CN m ν) := by
  have hn := vd_nums hv
  have z0 : Int32.toInt 0 = 0 := rfl
  have z200 : Int32.toInt 200 = 200 := rfl
  unfold fX8_wave fX8_wave_K22
  refine wp_rdf (sX1_hasCell h p) (fun r e => wp_if (fun c => wp_ret ⟨?_, h⟩) (fun c => wp_if (fun c2 => wp_ret ⟨?_, h⟩) (fun c2 => wp_if (fun c3 => ?_) (fun c3 => wp_ret ⟨?_, h⟩))))
  · unfold wvv; rw [if_neg (fun g => not_of e c g.1)]; rfl
  · rw [t_lt, z0] at c2
    unfold wvv; rw [if_neg (by omega)]; rfl
  · rw [t_lt, z0] at c2
    rw [t_le, z200] at c3
    have hin := yes_of e c
    obtain ⟨k, hk, ek⟩ := in_nat (N := nC ν) hin rfl
    have hwv : wvv ν p.toInt n.toInt = Jr ν (ν 0 3) n.toInt.toNat k := by
      unfold wvv; rw [if_pos ⟨hin, by omega, c3⟩, ek, tn]
    have key : Wp (fX7_leavesAt p n μ) (fun r m => r.toInt = wvv ν p.toInt n.toInt ∧ CN m ν) := by
      unfold fX7_leavesAt
      refine wp_bd (wp_mono (sX7_rest h hv) ?_)
      intro _ m0 hI0
      refine wp_lp1 (fun j (l : Int32) m => ∃ i : Nat, l.toInt = (i : Int) ∧ i ≤ n.toInt.toNat ∧ j = n.toInt.toNat - i ∧ WvI m ν i) ax_FU ?_ n.toInt.toNat (by unfold ax_FU; omega) ⟨0, rfl, by omega, rfl, hI0⟩
      rintro j rc hrc l m ⟨i, hl, hi, hj, hI⟩
      unfold fX7_leavesAt_B6 fX7_leavesAt_K27
      refine wp_if (fun c4 => wp_rd k ek (by omega) (wp_ret ⟨?_, hI.1⟩)) (fun c4 => ?_)
      · rw [t_le, hl] at c4
        rw [hwv, hI.2.2 k hk, show i = n.toInt.toNat by omega]
      · rw [t_le, hl] at c4
        refine wp_bd (wp_mono (sX7_step hv i (by omega) hI) ?_)
        rintro r5 m5 ⟨hI5, -, hst⟩
        refine wp_if (fun c5 => wp_rd k ek (by omega) (wp_ret ⟨?_, hI5.1⟩)) (fun c5 => hrc (n.toInt.toNat - (i + 1)) _ _ (by omega) ⟨i + 1, inc hl (by omega), by omega, rfl, hI5⟩)
        rw [hwv, hI5.2.2 k hk, jr_stay hv (hst c5) n.toInt.toNat (by omega) k hk, hst c5 k hk]
    refine wp_bd (wp_mono key ?_)
    rintro r3 m4 ⟨a, b⟩
    exact wp_ret ⟨by rw [t_64]; exact a, b⟩
  · rw [t_le, z200] at c3
    unfold wvv; rw [if_neg (by omega)]; rfl
theorem RN_round (h : RN μ ν) (hv : Vd ν) (k : Nat) (hk : k ≤ 200) (hL : ∀ c, c < nC ν → (μ.2 76 c).toInt = Jr ν (ν 0 3) k c) : Wp (fX9_round μ) (fun _ m => RN m ν ∧ ∀ c, c < nC ν → (m.2 76 c).toInt = Jr ν (ν 0 3) (k + 1) c ∧ (m.2 77 c).toInt = cw ν k c) := by
  refine wp_mono (wp_keep (sX9_round h hv (Jr ν (ν 0 3) k) (fun c hc => ⟨hL c hc, by have := jr_200 hv k c (by omega); omega⟩)) (kf_X9_round μ)) ?_
  rintro _ m ⟨hr, hk2⟩
  refine ⟨RN_keep h (fun a h1 h2 => (hk2 a (by simp; omega)).1), fun c hc => ?_⟩
  have := hr c hc
  exact ⟨by rw [this.2.2]; rfl, this.2.1⟩
theorem RN_rest (h : RN μ ν) (hv : Vd ν) : Wp (fX9_rest μ) (fun _ m => RN m ν ∧ ∀ c, c < nC ν → (m.2 76 c).toInt = Jr ν (ν 0 3) 0 c) := by
  refine wp_mono (wp_keep (sX9_rest h hv) (kf_X9_rest μ)) ?_
  rintro _ m ⟨hr, hk2⟩
  exact ⟨RN_keep h (fun a h1 h2 => (hk2 a (by simp; omega)).1), fun c hc => hr c hc⟩
theorem sX9_wave (h0 : RN μ ν) (hv : Vd ν) (p n : Int32) : Wp (fX9_wave p n μ) (fun r m => r.toInt = wvv ν p.toInt n.toInt ∧ RN m ν) := by
  have hn := vd_nums hv
  have z0 : Int32.toInt 0 = 0 := rfl
  have z200 : Int32.toInt 200 = 200 := rfl
  have h : RN (ax_wi μ 57 0 0) ν := RN_wi57 h0
  unfold fX9_wave fX9_wave_K24
  refine wp_let (wp_rdf (sX9_isCell h p) (fun r e => wp_if (fun c => wp_ret ⟨?_, h⟩) (fun c => wp_if (fun c2 => wp_ret ⟨?_, h⟩) (fun c2 => wp_if (fun c3 => ?_) (fun c3 => wp_ret ⟨?_, h⟩)))))
  · unfold wvv; rw [if_neg (fun g => not_of e c g.1)]; rfl
  · rw [t_lt, z0] at c2
    unfold wvv; rw [if_neg (by omega)]; rfl
  · rw [t_lt, z0] at c2
    rw [t_le, z200] at c3
    have hin := yes_of e c
    obtain ⟨k, hk, ek⟩ := in_nat (N := nC ν) hin rfl
    have hwv : wvv ν p.toInt n.toInt = Jr ν (ν 0 3) n.toInt.toNat k := by
      unfold wvv; rw [if_pos ⟨hin, by omega, c3⟩, ek, tn]
    refine wp_bd (wp_mono (RN_rest h hv) ?_)
    rintro _ m0 ⟨hm0, hL0⟩
    refine wp_lp1 (fun j (l : Int32) m => ∃ i : Nat, l.toInt = (i : Int) ∧ i ≤ n.toInt.toNat ∧ j = n.toInt.toNat - i ∧ RN m ν ∧ ∀ c, c < nC ν → (m.2 76 c).toInt = Jr ν (ν 0 3) i c) ax_FU ?_ n.toInt.toNat (by unfold ax_FU; omega) ⟨0, rfl, by omega, rfl, hm0, hL0⟩
    rintro j rc hrc l m ⟨i, hl, hi, hj, hm, hL⟩
    unfold fX9_wave_B34
    refine wp_if (fun c4 => wp_rl k ek (by omega) (wp_ret ⟨?_, hm⟩)) (fun c4 => ?_)
    · rw [t_le, hl] at c4
      rw [hwv, hL k hk, show i = n.toInt.toNat by omega]
    · rw [t_le, hl] at c4
      refine wp_bd (wp_mono (RN_round hm hv i (by omega) hL) ?_)
      rintro _ m5 ⟨hm5, hL5⟩
      exact hrc (n.toInt.toNat - (i + 1)) _ _ (by omega) ⟨i + 1, inc hl (by omega), by omega, rfl, hm5, fun c hc => (hL5 c hc).1⟩
  · rw [t_le, z200] at c3
    unfold wvv; rw [if_neg (by omega)]; rfl
theorem sX8_fails (h : CN μ ν) (hv : Vd ν) (p : Int32) : Wp (fX8_fails p μ) (fun r m => AnsFl ν p.toInt r.toInt ∧ CN m ν) := by
  have hn := vd_nums hv
  have z0 : Int32.toInt 0 = 0 := rfl
  have z200 : Int32.toInt 200 = 200 := rfl
  unfold fX8_fails fX8_fails_K23
  refine wp_rdf (sX1_hasCell h p) (fun r e => wp_if (fun c => wp_ret ⟨Or.inl ⟨not_of e c, rfl⟩, h⟩) (fun c => ?_))
  have hin := yes_of e c
  obtain ⟨k, hk, ek⟩ := in_nat (N := nC ν) hin rfl
  have key : Wp (fX7_firstUnmet p μ) (fun r m => FlA ν k r.toInt ∧ CN m ν) := by
    unfold fX7_firstUnmet
    refine wp_bd (wp_mono (sX7_rest h hv) ?_)
    intro _ m0 hI0
    refine wp_lp1 (fun j (l : Int32) m => ∃ i : Nat, l.toInt = ((i + 1 : Nat) : Int) ∧ i ≤ 200 ∧ j = 200 - i ∧ WvI m ν i ∧ ∀ x, x < i → 0 ≤ wrm ν k x) ax_FU ?_ 200 (by unfold ax_FU; omega) ⟨0, rfl, by omega, rfl, hI0, fun x hx => by omega⟩
    rintro j rc hrc l m ⟨i, hl, hi, hj, hI, hno⟩
    unfold fX7_firstUnmet_B6 fX7_firstUnmet_K50
    refine wp_if (fun c4 => wp_ret ⟨Or.inl ⟨rfl, fun x hx => hno x ?_⟩, hI.1⟩) (fun c4 => ?_)
    · rw [t_lt, hl, z200] at c4; omega
    · rw [t_lt, hl, z200] at c4
      refine wp_bd (wp_mono (sX7_step hv i (by omega) hI) ?_)
      rintro r5 m5 ⟨hI5, h40, hst⟩
      have cb := cw_bd hv i k (by omega) hk
      have e40 := h40 k hk
      refine wp_rd k ek (by omega) (wp_rdf (sX1_roomBy hI5.1 hv p _ k ek hk (by omega) (by omega)) (fun r6 e6 => ?_))
      have e6 : r6.toInt = wrm ν k i := by
        rw [e6, e40]
        unfold wrm
        by_cases hf : Fb ν k = true
        · rw [if_pos hf, if_pos hf]
        · rw [if_neg hf, if_neg hf, jr_cw, if_neg hf]
      refine wp_if (fun c5 => wp_if (fun c6 => wp_ret ⟨Or.inl ⟨rfl, fun x hx => ?_⟩, hI5.1⟩) (fun c6 => hrc (200 - (i + 1)) _ _ (by omega) ⟨i + 1, inc hl (by omega), by omega, rfl, hI5, fun x hx => ?_⟩)) (fun c5 => wp_ret ⟨Or.inr ⟨i, by omega, hl, ?_, hno⟩, hI5.1⟩)
      · rw [t_le, z0, e6] at c5
        by_cases ex : x < i
        · exact hno x ex
        · rw [wrm_stay hv hk (hst c6) x (by omega)]; exact c5
      · rw [t_le, z0, e6] at c5
        by_cases ex : x = i
        · rw [ex]; exact c5
        · exact hno x (by omega)
      · rw [t_le, z0, e6] at c5; omega
  refine wp_bd (wp_mono key ?_)
  rintro r3 m4 ⟨a, b⟩
  exact wp_ret ⟨Or.inr ⟨hin, by rw [ek, tn]; exact a⟩, b⟩
theorem sX9_fails (h0 : RN μ ν) (hv : Vd ν) (p : Int32) : Wp (fX9_fails p μ) (fun r m => AnsFl ν p.toInt r.toInt ∧ RN m ν) := by
  have hn := vd_nums hv
  have z0 : Int64.toInt 0 = 0 := rfl
  have z200 : Int32.toInt 200 = 200 := rfl
  have h : RN (ax_wi μ 57 0 0) ν := RN_wi57 h0
  unfold fX9_fails
  refine wp_let (wp_rdf (sX9_isCell h p) (fun r e => wp_if (fun c => wp_ret ⟨Or.inl ⟨not_of e c, rfl⟩, h⟩) (fun c => ?_)))
  have hin := yes_of e c
  obtain ⟨k, hk, ek⟩ := in_nat (N := nC ν) hin rfl
  have yes : ∀ r m, FlA ν k r → RN m ν → AnsFl ν p.toInt r ∧ RN m ν := fun r m a b => ⟨Or.inr ⟨hin, by rw [ek, tn]; exact a⟩, b⟩
  refine wp_bd (wp_mono (RN_rest h hv) ?_)
  rintro _ m0 ⟨hm0, hL0⟩
  refine wp_lp1 (fun j (l : Int32) m => ∃ i : Nat, l.toInt = ((i + 1 : Nat) : Int) ∧ i ≤ 200 ∧ j = 200 - i ∧ (RN m ν ∧ ∀ c, c < nC ν → (m.2 76 c).toInt = Jr ν (ν 0 3) i c) ∧ ∀ x, x < i → 0 ≤ wrm ν k x) ax_FU ?_ 200 (by unfold ax_FU; omega) ⟨0, rfl, by omega, rfl, ⟨hm0, hL0⟩, fun x hx => by omega⟩
  rintro j rc hrc l m ⟨i, hl, hi, hj, ⟨hm, hL⟩, hno⟩
  unfold fX9_fails_B21
  refine wp_if (fun c4 => wp_ret (yes _ _ (Or.inl ⟨rfl, fun x hx => hno x ?_⟩) hm)) (fun c4 => ?_)
  · rw [t_lt, hl, z200] at c4; omega
  · rw [t_lt, hl, z200] at c4
    refine wp_bd (wp_mono (RN_round hm hv i (by omega) hL) ?_)
    rintro _ m5 ⟨hm5, hL5⟩
    have cb := cw_bd hv i k (by omega) hk
    have jb := jr_200 hv (i + 1) k (by omega)
    have e5 := hL5 k hk
    refine wp_rl k ek (by omega) (wp_rl k ek (by omega) (wp_rd6f (sX9_roomOf hm5 hv p _ _ k ek hk (by omega) (by omega) (by omega) (by omega)) (fun r6 e6 => ?_)))
    have e6 : r6.toInt = wrm ν k i := by
      rw [e6, e5.1, e5.2]
      rfl
    refine wp_if (fun c5 => hrc (200 - (i + 1)) _ _ (by omega) ⟨i + 1, inc hl (by omega), by omega, rfl, ⟨hm5, fun c hc => (hL5 c hc).1⟩, fun x hx => ?_⟩) (fun c5 => wp_ret (yes _ _ (Or.inr ⟨i, by omega, hl, ?_, hno⟩) hm5))
    · rw [cmp_ge, e6, z0] at c5
      by_cases ex : x = i
      · rw [ex]; exact c5
      · exact hno x (by omega)
    · rw [cmp_ge, e6, z0] at c5; omega
end WAV
