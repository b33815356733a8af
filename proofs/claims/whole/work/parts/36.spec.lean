/-! what is asked: LEAVES and COMES, as numbers -/
def Jr (ν : Nv) (T : Int) : Nat → Nat → Int
  | 0 => fun _ => 0
  | k + 1 => fun c => if Fb ν c = true then 0 else if Cm ν (fun p => Jr ν T k (Fr ν p) + Wt ν T p) c < 0 then 0 else Cm ν (fun p => Jr ν T k (Fr ν p) + Wt ν T p) c
def Psn (ν : Nv) (T : Int) (U : Nat → Int) : Prop := Pst (nC ν) (nP ν) (Fr ν) (To ν) (Wt ν T) (Fb ν) U
def Lfn (ν : Nv) (T : Int) (U : Nat → Int) : Prop := Lf (nC ν) (nP ν) (Fr ν) (To ν) (Wt ν T) (Fb ν) U
def LL (ν : Nv) (T : Int) (c : Nat) : Int := Jr ν T (nC ν) c
def bd (ν : Nv) (T : Int) : Bool := (List.range (nC ν)).all (fun c => decide (Jr ν T (nC ν + 1) c = Jr ν T (nC ν) c))
def CC (ν : Nv) (T : Int) (c : Nat) : Int := Cm ν (fun p => LL ν T (Fr ν p) + Wt ν T p) c
section SPC
variable {ν : Nv} {T : Int}
theorem cm_ge {v : Nat → Int} {c p : Nat} (hp : p < nP ν) (ht : To ν p = c) : v p ≤ Cm ν v c := by
  unfold Cm
  cases e : cmo v (To ν) c (nP ν) with
  | none => exact absurd ht (cmo_none.mp e p hp)
  | some x => exact (cmo_some.mp e).2 p hp ht
theorem cm_cases (v : Nat → Int) (c : Nat) : (∃ p, p < nP ν ∧ To ν p = c ∧ Cm ν v c = v p) ∨ ((∀ p, p < nP ν → To ν p ≠ c) ∧ Cm ν v c = if Fb ν c = true then -64 * ν 4 c else 0) := by
  unfold Cm
  cases e : cmo v (To ν) c (nP ν) with
  | none => exact Or.inr ⟨cmo_none.mp e, rfl⟩
  | some x =>
    obtain ⟨⟨p, hp, ht, hx⟩, -⟩ := cmo_some.mp e
    exact Or.inl ⟨p, hp, ht, hx.symm⟩
theorem cmo_congr {v v2 : Nat → Int} {to : Nat → Nat} {c n : Nat} (h : ∀ p, p < n → v p = v2 p) : cmo v to c n = cmo v2 to c n := by
  induction n with
  | zero => rfl
  | succ n ih =>
    simp only [cmo]
    rw [ih (fun p hp => h p (by omega)), h n (by omega)]
theorem cm_congr {v v2 : Nat → Int} {c : Nat} (h : ∀ p, p < nP ν → v p = v2 p) : Cm ν v c = Cm ν v2 c := by
  unfold Cm
  rw [cmo_congr h]
theorem cm_mono {v v2 : Nat → Int} {c : Nat} (h : ∀ p, p < nP ν → v p ≤ v2 p) : Cm ν v c ≤ Cm ν v2 c := by
  rcases cm_cases (ν := ν) v c with ⟨p, hp, ht, e⟩ | ⟨hn, e⟩
  · have := cm_ge (v := v2) hp ht
    have := h p hp
    omega
  · rcases cm_cases (ν := ν) v2 c with ⟨p, hp, ht, e2⟩ | ⟨-, e2⟩
    · exact absurd ht (hn p hp)
    · rw [e, e2]; exact Int.le_refl _
theorem jr_succ (k c : Nat) : Jr ν T (k + 1) c = if Fb ν c = true then 0 else if Cm ν (fun p => Jr ν T k (Fr ν p) + Wt ν T p) c < 0 then 0 else Cm ν (fun p => Jr ν T k (Fr ν p) + Wt ν T p) c := rfl
theorem jr_pos (k c : Nat) : 0 ≤ Jr ν T k c := by
  cases k with
  | zero => exact Int.le_refl 0
  | succ k =>
    simp only [Jr]
    split
    · exact Int.le_refl 0
    · split <;> omega
theorem jr_mono (k c : Nat) : Jr ν T k c ≤ Jr ν T (k + 1) c := by
  induction k generalizing c with
  | zero => exact jr_pos 1 c
  | succ k ih =>
    have h := cm_mono (ν := ν) (c := c) (v := fun p => Jr ν T k (Fr ν p) + Wt ν T p) (v2 := fun p => Jr ν T (k + 1) (Fr ν p) + Wt ν T p) (fun p _ => by have := ih (Fr ν p); omega)
    rw [jr_succ, jr_succ]
    split
    · exact Int.le_refl 0
    · split <;> split <;> omega
theorem jr_flop (k c : Nat) (h : Fb ν c = true) : Jr ν T k c = 0 := by
  cases k with
  | zero => rfl
  | succ k => simp only [Jr]; rw [if_pos h]
theorem jr_step (k p : Nat) (hp : p < nP ν) (hf : Fb ν (To ν p) = false) : Jr ν T k (Fr ν p) + Wt ν T p ≤ Jr ν T (k + 1) (To ν p) := by
  have h := cm_ge (ν := ν) (v := fun p => Jr ν T k (Fr ν p) + Wt ν T p) hp rfl
  rw [jr_succ, if_neg (by rw [hf]; decide)]
  have h : Jr ν T k (Fr ν p) + Wt ν T p ≤ Cm ν (fun p => Jr ν T k (Fr ν p) + Wt ν T p) (To ν p) := h
  split <;> omega
theorem jr_le (hv : Vd ν) {U : Nat → Int} (hU : Psn ν T U) (k c : Nat) (hc : c < nC ν) : Jr ν T k c ≤ U c := by
  induction k generalizing c with
  | zero => exact (hU.1 c hc).1
  | succ k ih =>
    have h0 := (hU.1 c hc).1
    rw [jr_succ]
    split
    · exact h0
    · rename_i hf
      split
      · exact h0
      · rcases cm_cases (ν := ν) (fun p => Jr ν T k (Fr ν p) + Wt ν T p) c with ⟨p, hp, ht, e⟩ | ⟨hn, e⟩
        · have h1 := ih (Fr ν p) (vd_rng hv p hp).1
          have h2 := hU.2 p hp (by rw [ht]; simpa using hf)
          rw [ht] at h2
          rw [e]
          show Jr ν T k (Fr ν p) + Wt ν T p ≤ U c
          omega
        · rw [e, if_neg hf]; exact h0
theorem jr_bd (hv : Vd ν) (h0 : 0 ≤ T) (h1 : T ≤ 9999) (k c : Nat) : Jr ν T k c ≤ (k : Int) * 76608 := by
  induction k generalizing c with
  | zero => exact Int.le_refl 0
  | succ k ih =>
    rw [jr_succ]
    split
    · omega
    · rename_i hf
      split
      · omega
      · rcases cm_cases (ν := ν) (fun p => Jr ν T k (Fr ν p) + Wt ν T p) c with ⟨p, hp, ht, e⟩ | ⟨hn, e⟩
        · have a := ih (Fr ν p)
          have b := wt_bd hv p hp T h0 h1
          rw [e]
          show Jr ν T k (Fr ν p) + Wt ν T p ≤ _
          omega
        · rw [e, if_neg hf]; omega
theorem jr_still_pst {k : Nat} (h : ∀ c, c < nC ν → Jr ν T (k + 1) c = Jr ν T k c) (hv : Vd ν) : Psn ν T (Jr ν T k) := by
  refine ⟨fun c _ => ⟨jr_pos k c, jr_flop k c⟩, fun p hp hf => ?_⟩
  rw [← h _ (vd_rng hv p hp).2]
  exact jr_step k p hp hf
theorem ll_of_pst (hv : Vd ν) {U : Nat → Int} (hU : Psn ν T U) : Lfn ν T (LL ν T) ∧ bd ν T = true := by
  obtain ⟨M, hM⟩ := lf_exists (vd_rng hv) hU
  have h1 := lf_done (vd_rng hv) hM (Jr ν T) (nC ν + 1) (fun k _ c _ => jr_pos k c) (fun k _ c hc => jr_le hv hM.1 k c hc) (fun k _ c _ => jr_mono k c) (fun k _ p hp hf => jr_step k p hp hf) (by omega)
  have h2 : ∀ c, c < nC ν → Jr ν T (nC ν + 1) c = Jr ν T (nC ν) c := by
    intro c hc
    have a := jr_mono (ν := ν) (T := T) (nC ν) c
    have b := jr_le hv hM.1 (nC ν + 1) c hc
    have d := h1 c hc
    omega
  refine ⟨⟨jr_still_pst h2 hv, fun V hV c hc => jr_le hv hV (nC ν) c hc⟩, ?_⟩
  unfold bd
  rw [List.all_eq_true]
  intro c hc
  exact decide_eq_true (h2 c (List.mem_range.mp hc))
theorem bd_iff (hv : Vd ν) : bd ν T = true ↔ ∃ U, Psn ν T U := by
  constructor
  · intro h
    refine ⟨_, jr_still_pst (k := nC ν) (fun c hc => ?_) hv⟩
    unfold bd at h
    rw [List.all_eq_true] at h
    exact of_decide_eq_true (h c (List.mem_range.mpr hc))
  · rintro ⟨U, hU⟩
    exact (ll_of_pst hv hU).2
theorem ll_lf (hv : Vd ν) (h : bd ν T = true) : Lfn ν T (LL ν T) := by
  obtain ⟨U, hU⟩ := (bd_iff hv).mp h
  exact (ll_of_pst hv hU).1
theorem lf_ll (hv : Vd ν) {M : Nat → Int} (h : Lfn ν T M) (c : Nat) (hc : c < nC ν) : M c = LL ν T c := lf_unique h (ll_of_pst hv h.1).1 c hc
theorem bd_false (hv : Vd ν) (h : ¬ ∃ U, Psn ν T U) : bd ν T = false := by
  cases e : bd ν T with
  | false => rfl
  | true => exact absurd ((bd_iff hv).mp e) h
theorem ll_bd (hv : Vd ν) (h0 : 0 ≤ T) (h1 : T ≤ 9999) (c : Nat) : 0 ≤ LL ν T c ∧ LL ν T c ≤ 766080 := by
  have a := jr_bd hv h0 h1 (nC ν) c
  have b := jr_pos (ν := ν) (T := T) (nC ν) c
  have d := hv.1
  unfold LL
  refine ⟨b, ?_⟩
  have : (nC ν : Int) ≤ 10 := by unfold nC; omega
  omega
theorem cc_bd (hv : Vd ν) (h0 : 0 ≤ T) (h1 : T ≤ 9999) (c : Nat) (hc : c < nC ν) : -700000 ≤ CC ν T c ∧ CC ν T c ≤ 900000 := by
  have hs := hv.2.2.1 c hc
  rcases cm_cases (ν := ν) (fun p => LL ν T (Fr ν p) + Wt ν T p) c with ⟨p, hp, ht, e⟩ | ⟨hn, e⟩
  · have a := ll_bd hv h0 h1 (Fr ν p)
    have b := wt_bd hv p hp T h0 h1
    unfold CC
    rw [e]
    show _ ≤ LL ν T (Fr ν p) + Wt ν T p ∧ LL ν T (Fr ν p) + Wt ν T p ≤ _
    omega
  · unfold CC
    rw [e]
    split <;> omega
end SPC
/-! the class's Times, once known -/
def TOk (μ : ax_M) (ν : Nv) : Prop :=
  ((μ.1 32 6).toInt = 1 ∧ bd ν (ν 0 3) = false) ∨ ((μ.1 32 6).toInt = 0 ∧ bd ν (ν 0 3) = true ∧ (∀ c, c < nC ν → (μ.1 35 c).toInt = LL ν (ν 0 3) c) ∧ (∀ c, c < nC ν → (μ.1 36 c).toInt = CC ν (ν 0 3) c) ∧ ∀ p, p < nP ν → (μ.1 33 p).toInt = Wt ν (ν 0 3) p)
def TIn (μ : ax_M) (ν : Nv) : Prop := (μ.1 32 5).toInt = 0 ∨ ((μ.1 32 5).toInt = 1 ∧ TOk μ ν)
theorem TOk_keep {μ μ2 : ax_M} {ν : Nv} (h : TOk μ ν) (h1 : μ2.1 32 6 = μ.1 32 6) (h2 : μ2.1 35 = μ.1 35) (h3 : μ2.1 36 = μ.1 36) (h4 : μ2.1 33 = μ.1 33) : TOk μ2 ν := by
  unfold TOk at *
  rw [h1, h2, h3, h4]
  exact h
theorem nar_bool {x : Int32} (h : x.toInt = 0 ∨ x.toInt = 1) : vp_nar .boolean x = x := by
  rcases h with h | h
  · have : x = 0 := t_eq.mpr h
    rw [this]; rfl
  · have : x = 1 := t_eq.mpr h
    rw [this]; rfl
theorem sX5_isForever {μ : ax_M} {ν : Nv} (h : CN μ ν) (hv : Vd ν) (ht : TIn μ ν) : Wp (fX5_isForever μ) (fun r m => CN m ν ∧ TOk m ν ∧ (m.1 32 5).toInt = 1 ∧ r.toInt = (if bd ν (ν 0 3) = true then 0 else 1)) := by
  have h0 := hv.1
  have key : ∀ m : ax_M, CN m ν → TOk m ν → (m.1 32 5).toInt = 1 → Wp (fX5_isForever_K58 m) (fun r m => CN m ν ∧ TOk m ν ∧ (m.1 32 5).toInt = 1 ∧ r.toInt = (if bd ν (ν 0 3) = true then 0 else 1)) := by
    intro m a b d
    unfold fX5_isForever_K58
    refine wp_ret ⟨a, b, d, ?_⟩
    rcases b with ⟨b1, b2⟩ | ⟨b1, b2, -⟩
    · rw [nar_bool (Or.inr b1), b1, b2]; rfl
    · rw [nar_bool (Or.inl b1), b1, b2]; rfl
  unfold fX5_isForever
  refine wp_if (fun c => ?_) (fun c => ?_)
  · refine wp_bd (wp_mono (wp_keep (sX1_weighPaths h hv) (kf_X1_weighPaths μ)) ?_)
    rintro _ m1 ⟨hw, hk1⟩
    have hm1 : CN m1 ν := CN_keep h (fun a h1 h2 => (hk1 a (by simp; omega)).1)
    refine wp_bd (wp_mono (wp_keep (sX5_settle hm1 hv (fun p hp => ⟨hw p hp, by have := wt_bd hv p hp (ν 0 3) (by omega) (by omega); omega⟩)) (kf_X5_settle m1)) ?_)
    rintro r m2 ⟨⟨hb, hr⟩, hk2⟩
    have hm2 : CN m2 ν := CN_keep hm1 (fun a h1 h2 => (hk2 a (by simp; omega)).1)
    have e33 : m2.1 33 = m1.1 33 := (hk2 33 (by decide)).1
    have fin : ∀ s1 : Int32, (s1.toInt = 1 ∧ bd ν (ν 0 3) = false) ∨ (s1.toInt = 0 ∧ bd ν (ν 0 3) = true ∧ (∀ c, c < nC ν → (m2.1 35 c).toInt = LL ν (ν 0 3) c)) → Wp (fX5_isForever_K31 s1 m2) (fun r m => CN m ν ∧ TOk m ν ∧ (m.1 32 5).toInt = 1 ∧ r.toInt = (if bd ν (ν 0 3) = true then 0 else 1)) := by
      intro s1 hs
      unfold fX5_isForever_K31
      have hs01 : s1 = 0 ∨ s1 = 1 := by
        rcases hs with ⟨a, -⟩ | ⟨a, -⟩
        · exact Or.inr (t_eq.mpr a)
        · exact Or.inl (t_eq.mpr a)
      rw [if_pos hs01]
      refine wp_let (wp_bd (wp_mono (wp_keep (sX1_gather (v := fun p => (m2.1 35 (Fr ν p)).toInt + Wt ν (ν 0 3) p) (CN_wi hm2 (by omega)) hv (fun p hp => ?_)) (kf_X1_gather _)) ?_))
      · rw [wi_ne (by omega), wi_ne (by omega), e33, hw p hp]
        have a := hb _ (vd_rng hv p hp).1
        have b := wt_bd hv p hp (ν 0 3) (by omega) (by omega)
        exact ⟨rfl, by omega, by omega⟩
      · rintro _ m3 ⟨hg, hk3⟩
        have hm3 : CN m3 ν := CN_keep (CN_wi (j := 6) (v := s1) hm2 (show 15 ≤ 32 by omega)) (fun a h1 h2 => (hk3 a (by simp; omega)).1)
        have e6 : m3.1 32 6 = s1 := by rw [(hk3 32 (by decide)).1, wi_self]
        have e35 : m3.1 35 = m2.1 35 := by rw [(hk3 35 (by decide)).1, wi_ne (by omega)]
        have e33b : m3.1 33 = m1.1 33 := by rw [(hk3 33 (by decide)).1, wi_ne (by omega), e33]
        refine wp_let (key _ (CN_wi hm3 (by omega)) ?_ (by rw [wi_self]; rfl))
        refine TOk_keep (μ := m3) ?_ (wi_other (by omega)) (wi_ne (by omega)) (wi_ne (by omega)) (wi_ne (by omega))
        rcases hs with ⟨a, b⟩ | ⟨a, b, d⟩
        · exact Or.inl ⟨by rw [e6]; exact a, b⟩
        · refine Or.inr ⟨by rw [e6]; exact a, b, fun c hc => by rw [e35]; exact d c hc, fun c hc => ?_, fun p hp => by rw [e33b]; exact hw p hp⟩
          rw [hg c hc]
          exact cm_congr (fun p hp => by rw [d _ (vd_rng hv p hp).1])
    rcases hr with ⟨hr1, hL⟩ | ⟨hr1, hn⟩
    · rw [if_neg (by rw [t_eq, hr1]; decide)]
      exact fin 0 (Or.inr ⟨rfl, (ll_of_pst hv hL.1).2, fun c hc => lf_ll hv hL c hc⟩)
    · rw [if_pos (t_eq.mpr hr1)]
      exact fin 1 (Or.inl ⟨rfl, bd_false hv hn⟩)
  · rcases ht with ht | ⟨ht, hT⟩
    · exact absurd (t_eq.mpr ht) c
    · exact key μ h hT ht
