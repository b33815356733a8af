/-! what comes: the class's gather -/
def Cm (ν : Nv) (v : Nat → Int) (c : Nat) : Int := match cmo v (To ν) c (nP ν) with
  | none => if Fb ν c = true then -64 * ν 4 c else 0
  | some x => x
def Ut (o : Option Int) : Int := match o with
  | none => -2147483648
  | some x => x
theorem cmo_bd {v : Nat → Int} {to : Nat → Nat} {c n : Nat} {x a b : Int} (h : cmo v to c n = some x) (hv : ∀ p, p < n → a ≤ v p ∧ v p ≤ b) : a ≤ x ∧ x ≤ b := by
  obtain ⟨⟨p, hp, -, e⟩, -⟩ := cmo_some.mp h
  rw [← e]
  exact hv p hp
theorem mx_toInt (a b : Int32) : (ax_mx a b).toInt = if a.toInt < b.toInt then b.toInt else a.toInt := by
  unfold ax_mx
  by_cases h : a < b
  · rw [if_pos h, if_pos (t_lt.mp h)]
  · rw [if_neg h, if_neg (fun h2 => h (t_lt.mpr h2))]
theorem mn_toInt (a b : Int32) : (ax_mn a b).toInt = if b.toInt < a.toInt then b.toInt else a.toInt := by
  unfold ax_mn
  by_cases h : b < a
  · rw [if_pos h, if_pos (t_lt.mp h)]
  · rw [if_neg h, if_neg (fun h2 => h (t_lt.mpr h2))]
section CG0
variable {μ : ax_M} {ν : Nv}
theorem sJ7_fill36 (x : Int32) : Wp (fJ7_fill_53178_1 x μ) (fun _ m => ∀ c, c < 10 → m.1 36 c = x) := by
  unfold fJ7_fill_53178_1
  refine wp_lp1 (fun k (l : Int32) m => ∃ i : Nat, l.toInt = (i : Int) ∧ i ≤ 10 ∧ k = 10 - i ∧ ∀ p, p < i → m.1 36 p = x) ax_FU ?_ 10 (by decide) ⟨0, rfl, by omega, rfl, fun p hp => by omega⟩
  rintro k rc hrc l m ⟨i, hl, hi, hk, hw⟩
  unfold fJ7_fill_53178_1_B5
  refine wp_if (fun c => wp_ret ?_) (fun c => ?_)
  · rw [t_le, hl] at c
    simp only [Int32.reduceToInt] at c
    intro p hp
    exact hw p (by omega)
  · rw [t_le, hl] at c
    simp only [Int32.reduceToInt] at c
    refine wp_wr i hl (by omega) (hrc (10 - (i + 1)) _ _ (by omega) ⟨i + 1, ?_, by omega, rfl, fun p hp => ?_⟩)
    · simp only [t_add, hl, Int32.reduceToInt]; omega
    · by_cases e : p = i
      · rw [e, wi_self]
      · rw [wi_other e]; exact hw p (by omega)
theorem sX1_gather (h : CN μ ν) (hv : Vd ν) {v : Nat → Int} (hw : ∀ p, p < nP ν → (μ.1 35 (Fr ν p)).toInt + (μ.1 33 p).toInt = v p ∧ -700000 ≤ v p ∧ v p ≤ 40000000) :
    Wp (fX1_gather μ) (fun _ m => ∀ c, c < nC ν → (m.1 36 c).toInt = Cm ν v c) := by
  have h0 := hv.1
  have h10 : nC ν ≤ 10 := by unfold nC; omega
  have hnP : ν 0 2 = (nP ν : Nat) := by unfold nP; omega
  have hnC : ν 0 1 = (nC ν : Nat) := by unfold nC; omega
  unfold fX1_gather
  refine wp_bd (wp_mono (wp_keep (sJ7_fill36 (-2147483648)) (kf_J7_fill_53178_1 (-2147483648) μ)) ?_)
  rintro _ m0 ⟨hz, hkeep⟩
  have hm0 : CN m0 ν := CN_keep h (fun a h1 h2 => (hkeep a (by simp; omega)).1)
  refine wp_lp1 (fun k (l : Int32) m => ∃ i : Nat, l.toInt = (i : Int) ∧ i ≤ nP ν ∧ k = nP ν - i ∧ CN m ν ∧ m.1 33 = μ.1 33 ∧ m.1 35 = μ.1 35 ∧ ∀ c, c < nC ν → (m.1 36 c).toInt = Ut (cmo v (To ν) c i)) ax_FU ?_ (nP ν) (by unfold ax_FU; omega) ⟨0, rfl, by omega, rfl, hm0, (hkeep 33 (by decide)).1, (hkeep 35 (by decide)).1, fun c hc => by rw [hz c (by omega)]; rfl⟩
  rintro k rc hrc l m ⟨i, hl, hi, hk, hm, eW, eL, hcm⟩
  unfold fX1_gather_B9
  have en := hm.1.2.2.1
  refine wp_if (fun c => ?_) (fun c => ?_)
  · rw [t_le, en, hl] at c
    have hi2 : i = nP ν := by omega
    subst hi2
    refine wp_lp1 (fun k (l : Int32) m => ∃ i : Nat, l.toInt = (i : Int) ∧ i ≤ nC ν ∧ k = nC ν - i ∧ CN m ν ∧ ∀ c, c < nC ν → (m.1 36 c).toInt = if c < i then Cm ν v c else Ut (cmo v (To ν) c (nP ν))) ax_FU ?_ (nC ν) (by unfold ax_FU; omega) ⟨0, rfl, by omega, rfl, hm, fun c hc => by rw [if_neg (by omega)]; exact hcm c hc⟩
    rintro k2 rc2 hrc2 l2 m2 ⟨j, hl2, hj, hk2, hm2, hc2⟩
    unfold fX1_gather_B62 fX1_gather_K106 fX1_gather_K107
    have en2 := hm2.1.2.1
    refine wp_if (fun c2 => wp_ret ?_) (fun c2 => ?_)
    · rw [t_le, en2, hl2] at c2
      intro c hc
      rw [hc2 c hc, if_pos (by omega)]
    · rw [t_le, en2, hl2] at c2
      have hj2 : j < nC ν := by omega
      have hlt : nC ν - (j + 1) < k2 := by omega
      have hl4 : (l2 + 1).toInt = ((j + 1 : Nat) : Int) := by simp only [t_add, hl2, Int32.reduceToInt]; omega
      have hcj := hc2 j hj2
      rw [if_neg (by omega)] at hcj
      have hst := hv.2.2.1 j hj2
      have hs4 := (hm2.2.2.1 j hj2).2.2.1
      refine wp_rd j hl2 (by omega) (wp_if (fun c3 => ?_) (fun c3 => ?_))
      · rw [t_eq, hcj] at c3
        have hno : cmo v (To ν) j (nP ν) = none := by
          cases e : cmo v (To ν) j (nP ν) with
          | none => rfl
          | some x =>
            have hb := cmo_bd e (a := -700000) (b := 40000000) (fun p hp => (hw p hp).2)
            rw [e] at c3
            simp only [Ut, Int32.reduceToInt] at c3
            omega
        have hCm : Cm ν v j = if Fb ν j = true then -64 * ν 4 j else 0 := by unfold Cm; rw [hno]
        refine wp_rdf (sX1_isFlop hm2 hv l2 j hl2 hj2) (fun r er => wp_if (fun c4 => ?_) (fun c4 => ?_))
        · rw [t_eq, er] at c4
          have hf : ¬ Fb ν j = true := fun h2 => by rw [if_pos h2] at c4; exact absurd c4 (by decide)
          rw [if_neg hf] at hCm
          refine wp_wr j hl2 (by omega) (hrc2 _ _ _ hlt ⟨j + 1, hl4, by omega, rfl, CN_wi hm2 (by omega), fun c hc => ?_⟩)
          by_cases ec : c = j
          · rw [ec, wi_self, if_pos (by omega), hCm]; rfl
          · rw [wi_other ec, hc2 c hc]
            by_cases ec2 : c < j
            · rw [if_pos ec2, if_pos (by omega)]
            · rw [if_neg ec2, if_neg (by omega)]
        · rw [t_eq, er] at c4
          have hf : Fb ν j = true := by
            by_cases h2 : Fb ν j = true
            · exact h2
            · rw [if_neg h2] at c4; exact absurd rfl c4
          rw [if_pos hf] at hCm
          refine wp_rd j hl2 (by omega) (wp_wr j hl2 (by omega) (hrc2 _ _ _ hlt ⟨j + 1, hl4, by omega, rfl, CN_wi hm2 (by omega), fun c hc => ?_⟩))
          by_cases ec : c = j
          · rw [ec, wi_self, if_pos (by omega), hCm]
            simp only [t_mul, hs4, Int32.reduceToInt]
            omega
          · rw [wi_other ec, hc2 c hc]
            by_cases ec2 : c < j
            · rw [if_pos ec2, if_pos (by omega)]
            · rw [if_neg ec2, if_neg (by omega)]
      · rw [t_eq, hcj] at c3
        refine hrc2 _ _ _ hlt ⟨j + 1, hl4, by omega, rfl, hm2, fun c hc => ?_⟩
        rw [hc2 c hc]
        by_cases ec : c = j
        · rw [ec, if_neg (by omega), if_pos (by omega)]
          unfold Cm
          cases e : cmo v (To ν) j (nP ν) with
          | none => rw [e] at c3; exact absurd rfl c3
          | some x => rfl
        · by_cases ec2 : c < j
          · rw [if_pos ec2, if_pos (by omega)]
          · rw [if_neg ec2, if_neg (by omega)]
  · rw [t_le, en, hl] at c
    have hi2 : i < nP ν := by omega
    obtain ⟨a1, a2, a3, a4, a5, a6⟩ := vd_path hv i hi2
    have e := hm.2.2.2.1 i hi2
    have hwi := hw i hi2
    have hci := hcm _ a3
    refine wp_rd i hl a1 (wp_rd i hl a1 (wp_rd (To ν i) (by rw [e.2.1, a5]) (by omega) (wp_rd i hl a1 (wp_rd (Fr ν i) (by rw [e.1, a4]) (by omega) (wp_rd i hl a1 (wp_wr (To ν i) (by rw [e.2.1, a5]) (by omega) (hrc (nP ν - (i + 1)) _ _ (by omega) ⟨i + 1, by simp only [t_add, hl, Int32.reduceToInt]; omega, by omega, rfl, CN_wi hm (by omega), by rw [wi_ne (by omega)]; exact eW, by rw [wi_ne (by omega)]; exact eL, fun c hc => ?_⟩)))))))
    by_cases ec : c = To ν i
    · subst ec
      have hsum : (m.1 35 (Fr ν i) + m.1 33 i).toInt = v i := by
        rw [t_add, eW, eL]
        omega
      rw [wi_self, mx_toInt, hsum, hci]
      simp only [cmo, if_true]
      cases e9 : cmo v (To ν) (To ν i) i with
      | none => exact if_pos (show (-2147483648 : Int) < v i by omega)
      | some x => rfl
    · rw [wi_other ec, hcm c hc]
      simp only [cmo]
      rw [if_neg (fun h9 => ec h9.symm)]
end CG0
section CG1
variable {μ : ax_M} {ν : Nv}
theorem sJ7_fill40 (x : Int32) : Wp (fJ7_fill_53178_3 x μ) (fun _ m => ∀ c, c < 10 → m.1 40 c = x) := by
  unfold fJ7_fill_53178_3
  refine wp_lp1 (fun k (l : Int32) m => ∃ i : Nat, l.toInt = (i : Int) ∧ i ≤ 10 ∧ k = 10 - i ∧ ∀ p, p < i → m.1 40 p = x) ax_FU ?_ 10 (by decide) ⟨0, rfl, by omega, rfl, fun p hp => by omega⟩
  rintro k rc hrc l m ⟨i, hl, hi, hk, hw⟩
  unfold fJ7_fill_53178_3_B5
  refine wp_if (fun c => wp_ret ?_) (fun c => ?_)
  · rw [t_le, hl] at c
    simp only [Int32.reduceToInt] at c
    intro p hp
    exact hw p (by omega)
  · rw [t_le, hl] at c
    simp only [Int32.reduceToInt] at c
    refine wp_wr i hl (by omega) (hrc (10 - (i + 1)) _ _ (by omega) ⟨i + 1, ?_, by omega, rfl, fun p hp => ?_⟩)
    · simp only [t_add, hl, Int32.reduceToInt]; omega
    · by_cases e : p = i
      · rw [e, wi_self]
      · rw [wi_other e]; exact hw p (by omega)
theorem sX1_gather_1 (h : CN μ ν) (hv : Vd ν) {v : Nat → Int} (hw : ∀ p, p < nP ν → (μ.1 39 (Fr ν p)).toInt + (μ.1 38 p).toInt = v p ∧ -700000 ≤ v p ∧ v p ≤ 40000000) :
    Wp (fX1_gather_1 μ) (fun _ m => ∀ c, c < nC ν → (m.1 40 c).toInt = Cm ν v c) := by
  have h0 := hv.1
  have h10 : nC ν ≤ 10 := by unfold nC; omega
  have hnP : ν 0 2 = (nP ν : Nat) := by unfold nP; omega
  have hnC : ν 0 1 = (nC ν : Nat) := by unfold nC; omega
  unfold fX1_gather_1
  refine wp_bd (wp_mono (wp_keep (sJ7_fill40 (-2147483648)) (kf_J7_fill_53178_3 (-2147483648) μ)) ?_)
  rintro _ m0 ⟨hz, hkeep⟩
  have hm0 : CN m0 ν := CN_keep h (fun a h1 h2 => (hkeep a (by simp; omega)).1)
  refine wp_lp1 (fun k (l : Int32) m => ∃ i : Nat, l.toInt = (i : Int) ∧ i ≤ nP ν ∧ k = nP ν - i ∧ CN m ν ∧ m.1 38 = μ.1 38 ∧ m.1 39 = μ.1 39 ∧ ∀ c, c < nC ν → (m.1 40 c).toInt = Ut (cmo v (To ν) c i)) ax_FU ?_ (nP ν) (by unfold ax_FU; omega) ⟨0, rfl, by omega, rfl, hm0, (hkeep 38 (by decide)).1, (hkeep 39 (by decide)).1, fun c hc => by rw [hz c (by omega)]; rfl⟩
  rintro k rc hrc l m ⟨i, hl, hi, hk, hm, eW, eL, hcm⟩
  unfold fX1_gather_1_B9
  have en := hm.1.2.2.1
  refine wp_if (fun c => ?_) (fun c => ?_)
  · rw [t_le, en, hl] at c
    have hi2 : i = nP ν := by omega
    subst hi2
    refine wp_lp1 (fun k (l : Int32) m => ∃ i : Nat, l.toInt = (i : Int) ∧ i ≤ nC ν ∧ k = nC ν - i ∧ CN m ν ∧ ∀ c, c < nC ν → (m.1 40 c).toInt = if c < i then Cm ν v c else Ut (cmo v (To ν) c (nP ν))) ax_FU ?_ (nC ν) (by unfold ax_FU; omega) ⟨0, rfl, by omega, rfl, hm, fun c hc => by rw [if_neg (by omega)]; exact hcm c hc⟩
    rintro k2 rc2 hrc2 l2 m2 ⟨j, hl2, hj, hk2, hm2, hc2⟩
    unfold fX1_gather_1_B62 fX1_gather_1_K106 fX1_gather_1_K107
    have en2 := hm2.1.2.1
    refine wp_if (fun c2 => wp_ret ?_) (fun c2 => ?_)
    · rw [t_le, en2, hl2] at c2
      intro c hc
      rw [hc2 c hc, if_pos (by omega)]
    · rw [t_le, en2, hl2] at c2
      have hj2 : j < nC ν := by omega
      have hlt : nC ν - (j + 1) < k2 := by omega
      have hl4 : (l2 + 1).toInt = ((j + 1 : Nat) : Int) := by simp only [t_add, hl2, Int32.reduceToInt]; omega
      have hcj := hc2 j hj2
      rw [if_neg (by omega)] at hcj
      have hst := hv.2.2.1 j hj2
      have hs4 := (hm2.2.2.1 j hj2).2.2.1
      refine wp_rd j hl2 (by omega) (wp_if (fun c3 => ?_) (fun c3 => ?_))
      · rw [t_eq, hcj] at c3
        have hno : cmo v (To ν) j (nP ν) = none := by
          cases e : cmo v (To ν) j (nP ν) with
          | none => rfl
          | some x =>
            have hb := cmo_bd e (a := -700000) (b := 40000000) (fun p hp => (hw p hp).2)
            rw [e] at c3
            simp only [Ut, Int32.reduceToInt] at c3
            omega
        have hCm : Cm ν v j = if Fb ν j = true then -64 * ν 4 j else 0 := by unfold Cm; rw [hno]
        refine wp_rdf (sX1_isFlop hm2 hv l2 j hl2 hj2) (fun r er => wp_if (fun c4 => ?_) (fun c4 => ?_))
        · rw [t_eq, er] at c4
          have hf : ¬ Fb ν j = true := fun h2 => by rw [if_pos h2] at c4; exact absurd c4 (by decide)
          rw [if_neg hf] at hCm
          refine wp_wr j hl2 (by omega) (hrc2 _ _ _ hlt ⟨j + 1, hl4, by omega, rfl, CN_wi hm2 (by omega), fun c hc => ?_⟩)
          by_cases ec : c = j
          · rw [ec, wi_self, if_pos (by omega), hCm]; rfl
          · rw [wi_other ec, hc2 c hc]
            by_cases ec2 : c < j
            · rw [if_pos ec2, if_pos (by omega)]
            · rw [if_neg ec2, if_neg (by omega)]
        · rw [t_eq, er] at c4
          have hf : Fb ν j = true := by
            by_cases h2 : Fb ν j = true
            · exact h2
            · rw [if_neg h2] at c4; exact absurd rfl c4
          rw [if_pos hf] at hCm
          refine wp_rd j hl2 (by omega) (wp_wr j hl2 (by omega) (hrc2 _ _ _ hlt ⟨j + 1, hl4, by omega, rfl, CN_wi hm2 (by omega), fun c hc => ?_⟩))
          by_cases ec : c = j
          · rw [ec, wi_self, if_pos (by omega), hCm]
            simp only [t_mul, hs4, Int32.reduceToInt]
            omega
          · rw [wi_other ec, hc2 c hc]
            by_cases ec2 : c < j
            · rw [if_pos ec2, if_pos (by omega)]
            · rw [if_neg ec2, if_neg (by omega)]
      · rw [t_eq, hcj] at c3
        refine hrc2 _ _ _ hlt ⟨j + 1, hl4, by omega, rfl, hm2, fun c hc => ?_⟩
        rw [hc2 c hc]
        by_cases ec : c = j
        · rw [ec, if_neg (by omega), if_pos (by omega)]
          unfold Cm
          cases e : cmo v (To ν) j (nP ν) with
          | none => rw [e] at c3; exact absurd rfl c3
          | some x => rfl
        · by_cases ec2 : c < j
          · rw [if_pos ec2, if_pos (by omega)]
          · rw [if_neg ec2, if_neg (by omega)]
  · rw [t_le, en, hl] at c
    have hi2 : i < nP ν := by omega
    obtain ⟨a1, a2, a3, a4, a5, a6⟩ := vd_path hv i hi2
    have e := hm.2.2.2.1 i hi2
    have hwi := hw i hi2
    have hci := hcm _ a3
    refine wp_rd i hl a1 (wp_rd i hl a1 (wp_rd (To ν i) (by rw [e.2.1, a5]) (by omega) (wp_rd i hl a1 (wp_rd (Fr ν i) (by rw [e.1, a4]) (by omega) (wp_rd i hl a1 (wp_wr (To ν i) (by rw [e.2.1, a5]) (by omega) (hrc (nP ν - (i + 1)) _ _ (by omega) ⟨i + 1, by simp only [t_add, hl, Int32.reduceToInt]; omega, by omega, rfl, CN_wi hm (by omega), by rw [wi_ne (by omega)]; exact eW, by rw [wi_ne (by omega)]; exact eL, fun c hc => ?_⟩)))))))
    by_cases ec : c = To ν i
    · subst ec
      have hsum : (m.1 39 (Fr ν i) + m.1 38 i).toInt = v i := by
        rw [t_add, eW, eL]
        omega
      rw [wi_self, mx_toInt, hsum, hci]
      simp only [cmo, if_true]
      cases e9 : cmo v (To ν) (To ν i) i with
      | none => exact if_pos (show (-2147483648 : Int) < v i by omega)
      | some x => rfl
    · rw [wi_other ec, hcm c hc]
      simp only [cmo]
      rw [if_neg (fun h9 => ec h9.symm)]
end CG1
