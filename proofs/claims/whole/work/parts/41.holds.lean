/-! whether it is good at a period: the class's Trial -/
section HLD
variable {μ : ax_M} {ν : Nv}
theorem gd_lim (hv : Vd ν) {T : Int} (h : gd ν T = true) (c : Nat) (hc : c < nC ν) (hf : Fb ν c = false) : 0 ≤ Lm ν T c := by
  obtain ⟨U, hU, h1, -⟩ := (gd_iff hv).mp h
  have a := h1 c hc hf
  have b := (hU.1 c hc).1
  omega
theorem sX6_begin (h : CN μ ν) (hv : Vd ν) (ht : TrL μ ν) (t : Int32) (h0t : 0 ≤ t.toInt) (h1t : t.toInt ≤ 9999) : Wp (fX6_begin t μ) (fun r m => CN m ν ∧ TrL m ν ∧ ((r.toInt = 1 ∧ (∀ p, p < nP ν → (m.1 52 p).toInt = Wt ν t.toInt p) ∧ (∀ c, c < nC ν → (m.1 53 c).toInt = 0 ∧ (m.1 55 c).toInt = -1 ∧ (m.1 54 c).toInt = Lm ν t.toInt c ∧ (Fb ν c = false → 0 ≤ Lm ν t.toInt c))) ∨ (r.toInt = 0 ∧ gd ν t.toInt = false ∧ CKv m ν t.toInt))) := by
  have h0 := hv.1
  have hnP : ν 0 2 = (nP ν : Nat) := by unfold nP; omega
  have hnC : ν 0 1 = (nC ν : Nat) := by unfold nC; omega
  unfold fX6_begin
  refine wp_lp1 (fun k (l : Int32) m => ∃ i : Nat, l.toInt = (i : Int) ∧ i ≤ nP ν ∧ k = nP ν - i ∧ CN m ν ∧ TrL m ν ∧ ∀ p, p < i → (m.1 52 p).toInt = Wt ν t.toInt p) ax_FU ?_ (nP ν) (by unfold ax_FU; omega) ⟨0, rfl, by omega, rfl, h, ht, fun p hp => by omega⟩
  rintro k rc hrc l m ⟨i, hl, hi, hk, hm, htm, hw⟩
  unfold fX6_begin_B2
  have en := hm.1.2.2.1
  refine wp_if (fun c => ?_) (fun c => ?_)
  · rw [t_le, en, hl] at c
    have hi2 : i = nP ν := by omega
    subst hi2
    refine wp_lp1 (fun k (l : Int32) m2 => ∃ j : Nat, l.toInt = (j : Int) ∧ j ≤ nC ν ∧ k = nC ν - j ∧ CN m2 ν ∧ TrL m2 ν ∧ m2.1 52 = m.1 52 ∧ ∀ c, c < j → (m2.1 53 c).toInt = 0 ∧ (m2.1 55 c).toInt = -1 ∧ (m2.1 54 c).toInt = Lm ν t.toInt c ∧ (Fb ν c = false → 0 ≤ Lm ν t.toInt c)) ax_FU ?_ (nC ν) (by unfold ax_FU; omega) ⟨0, rfl, by omega, rfl, hm, htm, rfl, fun c hc => by omega⟩
    rintro k2 rc2 hrc2 l2 m2 ⟨j, hl2, hj, hk2, hm2, ht2, e52, hc2⟩
    unfold fX6_begin_B42 fX6_begin_K113
    have en2 := hm2.1.2.1
    refine wp_if (fun c2 => wp_ret ⟨hm2, ht2, Or.inl ⟨rfl, fun p hp => by rw [e52]; exact hw p hp, fun c hc => ?_⟩⟩) (fun c2 => ?_)
    · rw [t_le, en2, hl2] at c2
      exact hc2 c (by omega)
    · rw [t_le, en2, hl2] at c2
      have hj2 : j < nC ν := by omega
      have hlt : nC ν - (j + 1) < k2 := by omega
      have hl4 : (l2 + 1).toInt = ((j + 1 : Nat) : Int) := by simp only [t_add, hl2, Int32.reduceToInt]; omega
      have hcnA : CN (ax_wi (ax_wi m2 53 j 0) 55 j (-1)) ν := CN_wi (CN_wi hm2 (by omega)) (by omega)
      refine wp_wr j hl2 (by omega) (wp_wr j hl2 (by omega) (wp_rdf (sX1_limitOf hcnA hv l2 t j hl2 hj2 h0t h1t) (fun r3 e3 => wp_wr j hl2 (by omega) (wp_rd j hl2 (by omega) ?_))))
      rw [wi_self]
      have hcnB : CN (ax_wi (ax_wi (ax_wi m2 53 j 0) 55 j (-1)) 54 j r3) ν := CN_wi hcnA (by omega)
      have htB : TrL (ax_wi (ax_wi (ax_wi m2 53 j 0) 55 j (-1)) 54 j r3) ν := TrL_keep ht2 (by rw [wi_ne (by omega), wi_ne (by omega), wi_ne (by omega)]) (by rw [wi_ne (by omega), wi_ne (by omega), wi_ne (by omega)])
      have go : (Fb ν j = false → 0 ≤ Lm ν t.toInt j) → Wp (rc2 (l2 + 1) (ax_wi (ax_wi (ax_wi m2 53 j 0) 55 j (-1)) 54 j r3)) (fun r m => CN m ν ∧ TrL m ν ∧ ((r.toInt = 1 ∧ (∀ p, p < nP ν → (m.1 52 p).toInt = Wt ν t.toInt p) ∧ (∀ c, c < nC ν → (m.1 53 c).toInt = 0 ∧ (m.1 55 c).toInt = -1 ∧ (m.1 54 c).toInt = Lm ν t.toInt c ∧ (Fb ν c = false → 0 ≤ Lm ν t.toInt c))) ∨ (r.toInt = 0 ∧ gd ν t.toInt = false ∧ CKv m ν t.toInt))) := by
        intro hpos
        refine hrc2 _ _ _ hlt ⟨j + 1, hl4, by omega, rfl, hcnB, htB, by rw [wi_ne (by omega), wi_ne (by omega), wi_ne (by omega)]; exact e52, fun c hc => ?_⟩
        by_cases e : c = j
        · subst e
          rw [wi_self, wi_ne (show 53 ≠ 54 by omega), wi_ne (show 53 ≠ 55 by omega), wi_self, wi_ne (show 55 ≠ 54 by omega), wi_self]
          exact ⟨rfl, rfl, e3, hpos⟩
        · rw [wi_other e, wi_other e, wi_other e, wi_other e, wi_other e, wi_other e, wi_other e, wi_other e, wi_other e]
          exact hc2 c (by omega)
      refine wp_if (fun c3 => go (fun _ => ?_)) (fun c3 => ?_)
      · rw [t_le, e3] at c3
        exact c3
      · rw [t_le, e3] at c3
        simp only [Int32.reduceToInt] at c3
        refine wp_rdf (sX1_isFlop hcnB hv l2 j hl2 hj2) (fun r7 e7 => wp_if (fun c4 => ?_) (fun c4 => go (fun hf => ?_)))
        · rw [t_eq, e7] at c4
          have hf : ¬ Fb ν j = true := fun h2 => by rw [if_pos h2] at c4; exact absurd c4 (by decide)
          have hf2 : Fb ν j = false := by simpa using hf
          refine wp_bd (wp_mono sX6_forgetCut ?_)
          rintro _ m8 ⟨z8, z9, z10, hk8⟩
          have hm8 : CN m8 ν := CN_keep hcnB (fun a g1 g2 => hk8 a (by omega))
          refine wp_bd (wp_mono (sX6_endCut hm8 hv l2 j hl2 hj2 (by omega) (by omega)) ?_)
          rintro _ m9 ⟨g1, g2, g3, g4⟩
          refine wp_ret ⟨CN_keep hm8 (fun a q1 q2 => g4 a (by omega)), TrL_keep htB (by rw [g4 50 (by omega), hk8 50 (by omega)]) (by rw [g4 51 (by omega), hk8 51 (by omega)]), Or.inr ⟨rfl, ?_, 0, fun _ => 0, by rw [g1]; exact z8, by omega, fun i hi => by omega, ⟨⟨fun i hi => by omega, fun i hi => by omega⟩, fun i j hi => by omega, Or.inl ⟨j, hj2, fun hz => by omega, fun _ => hf2, ?_, g3⟩⟩, ?_⟩⟩
          · cases eg : gd ν t.toInt with
            | false => rfl
            | true => exact absurd (gd_lim hv eg j hj2 hf2) c3
          · rw [g2, z9]; rfl
          · rw [g2, z9, g3, if_neg hf]
            have c3 : ¬ 0 ≤ Lm ν t.toInt j := c3
            unfold Lm at c3
            rw [if_neg hf] at c3
            simp only [sm]
            rw [Int.add_zero, Int.mul_comm]
            omega
        · rw [t_eq, e7] at c4
          rw [if_neg (by rw [hf]; decide)] at c4
          exact absurd rfl c4
  · rw [t_le, en, hl] at c
    have hi2 : i < nP ν := by omega
    have hti := htm i hi2
    have bd := sht_bd hv i hi2 t.toInt h0t
    have bd2 := dl_bd hv i hi2
    refine wp_rd i hl (by omega) (wp_rd i hl (by omega) (wp_wr i hl (by omega) (hrc (nP ν - (i + 1)) _ _ (by omega) ⟨i + 1, by simp only [t_add, hl, Int32.reduceToInt]; omega, by omega, rfl, CN_wi hm (by omega), TrL_keep htm (wi_ne (by omega)) (wi_ne (by omega)), fun p hp => ?_⟩)))
    by_cases e : p = i
    · subst e
      rw [wi_self]
      simp only [t_sub, t_mul, hti.1, hti.2]
      unfold Wt
      omega
    · rw [wi_other e]; exact hw p (by omega)
/-- the leads and the limits, as the passes keep them -/
def Lds (ν : Nv) (T : Int) (m : ax_M) : Prop := CN m ν ∧ TrL m ν ∧ (∀ p, p < nP ν → (m.1 52 p).toInt = Wt ν T p) ∧ (∀ c, c < nC ν → (m.1 54 c).toInt = Lm ν T c ∧ (Fb ν c = false → (m.1 53 c).toInt ≤ Lm ν T c)) ∧ Ldk ν (fun c => (m.1 55 c).toInt) ∧ LdP ν T (fun c => (m.1 53 c).toInt) (fun c => (m.1 55 c).toInt)
theorem sX6_holds (h : CN μ ν) (hv : Vd ν) (ht : TrL μ ν) (t : Int32) (h0t : 0 ≤ t.toInt) (h1t : t.toInt ≤ 9999) : Wp (fX6_holds t μ) (fun r m => (r.toInt = 1 ∧ gd ν t.toInt = true) ∨ (r.toInt = 0 ∧ gd ν t.toInt = false ∧ CKv m ν t.toInt)) := by
  have h0 := hv.1
  have h10 : nC ν ≤ 10 := by unfold nC; omega
  have hnP : ν 0 2 = (nP ν : Nat) := by unfold nP; omega
  have hnC : ν 0 1 = (nC ν : Nat) := by unfold nC; omega
  have hnP24 : nP ν ≤ 24 := by omega
  have wbd := fun p hp => wt_bd hv p hp t.toInt h0t h1t
  unfold fX6_holds
  refine wp_bd (wp_mono (sX6_begin h hv ht t h0t h1t) ?_)
  rintro r0 m0 ⟨hm0, ht0, hb⟩
  rcases hb with ⟨hr, hw0, hc0⟩ | ⟨hr, hg, hck⟩
  · rw [if_neg (by rw [t_eq, hr]; decide)]
    refine wp_lp2 (fun k (l2 l : Int32) m => ∃ i : Nat, l.toInt = (i : Int) ∧ i ≤ nC ν + 1 ∧ k = nC ν + 1 - i ∧ Lds ν t.toInt m ∧ (∀ c, c < nC ν → 0 ≤ (m.1 53 c).toInt ∧ (m.1 53 c).toInt ≤ (24 * i : Nat) * 76608 ∧ (Fb ν c = true → (m.1 53 c).toInt = 0)) ∧ ∃ L, Hist ν (Wt ν t.toInt) L i ∧ (∀ c, c < nC ν → L i c = (m.1 53 c).toInt) ∧ (0 < i → ∃ p, p < nP ν ∧ l2.toInt = (p : Nat) ∧ Fb ν (To ν p) = false ∧ (m.1 55 (To ν p)).toInt = (p : Nat) ∧ L (i - 1) (To ν p) < (m.1 53 (To ν p)).toInt)) ax_FU ?_ (nC ν + 1) (by unfold ax_FU; omega)
      ⟨0, rfl, by omega, rfl, ⟨hm0, ht0, hw0, fun c hc => ⟨(hc0 c hc).2.2.1, fun hf => by rw [(hc0 c hc).1]; exact (hc0 c hc).2.2.2 hf⟩, fun c hc => Or.inl (hc0 c hc).2.1, ⟨fun c hc _ => by show (m0.1 53 c).toInt = 0; rw [(hc0 c hc).1], fun _ => 0, 0, fun c hc e => absurd (hc0 c hc).2.1 e, fun c d hc hd e => absurd (hc0 c hc).2.1 e⟩⟩, fun c hc => by rw [(hc0 c hc).1]; exact ⟨by decide, by decide, fun _ => rfl⟩, fun _ _ => 0, ⟨fun c hc => ⟨Int.le_refl 0, fun _ => rfl⟩, fun U hU c hc => (hU.1 c hc).1, fun j hj => by omega⟩, fun c hc => by rw [(hc0 c hc).1], fun hz => by omega⟩
    rintro k rc hrc l2 l m ⟨i, hl, hi, hk, hD, hcur, L, hH, hL, hrs⟩
    obtain ⟨hm, htm, hwm, hlm, hld, hLP⟩ := hD
    unfold fX6_holds_B14
    have en := hm.1.2.1
    refine wp_if (fun c => ?_) (fun c => ?_)
    · rw [t_lt, en, hl] at c
      have hi2 : i = nC ν + 1 := by omega
      obtain ⟨p, hp, ep, hpf, hpl, hpr⟩ := hrs (by omega)
      have hHn := hH
      rw [hi2] at hHn hpr
      refine wp_bd (wp_mono (sX6_cutAt hm hv htm hld l2 p ep hp (T := t.toInt) (fun n hn h1 h2 => ?_) (fun b hb h1 n h2 => ldp_loop hv hLP hld hb n h1 h2)) ?_)
      · exfalso
        have hto := (vd_rng hv p hp).2
        have g1 := ldp_end hv hLP hld hp n h1 h2
        have g2 := row_hist hv hHn hld hp hpf n h1 (by omega)
        have g3 : (m.1 53 (To ν p)).toInt ≤ (m.1 53 (Fr ν p)).toInt + Wt ν t.toInt p := by
          obtain ⟨-, st, s, hi5, -⟩ := hLP
          have := (hi5 (To ν p) hto (by show (m.1 55 (To ν p)).toInt ≠ -1; rw [hpl]; omega)).2.1
          simp only [hpl, Int.toNat_natCast] at this
          exact this
        have hmono : ∀ d, n + 1 + d ≤ nC ν + 1 → L (n + 1) (To ν p) ≤ L (n + 1 + d) (To ν p) := by
          intro d
          induction d with
          | zero => intro _; exact Int.le_refl _
          | succ d ih =>
            intro hd
            have a := ih (by omega)
            have b := ((hHn.2.2 (n + 1 + d) (by omega)).1.1 _ hto).1
            rw [show n + 1 + (d + 1) = n + 1 + d + 1 by omega]
            omega
        by_cases hnn : n = nC ν
        · subst hnn
          have hpth := al_path hv hld hp h1
          have hlead : ∀ j, j ≤ nC ν → (m.1 55 (To ν (qn ν (fun c => (m.1 55 c).toInt) p j))).toInt = (qn ν (fun c => (m.1 55 c).toInt) p j : Nat) := by
            intro j hj
            cases j with
            | zero => exact hpl
            | succ j =>
              have a := al_next hv hld hp h1 j (by omega)
              rw [a.2.1]
              exact a.1
          obtain ⟨x, y, hxy, hy, e⟩ := pigeon (nC ν) (fun j => To ν (qn ν (fun c => (m.1 55 c).toInt) p j)) (fun j hj => (vd_rng hv _ (hpth j hj)).2)
          have e1 := hlead x (by omega)
          have e2 := hlead y hy
          have e : To ν (qn ν (fun c => (m.1 55 c).toInt) p x) = To ν (qn ν (fun c => (m.1 55 c).toInt) p y) := e
          rw [e, e2] at e1
          have := al_distinct (n := nC ν + 1) h1 h2 x y (by omega) (by omega) (by omega)
          omega
        · have g4 := hmono (nC ν - (n + 1)) (by omega)
          rw [show n + 1 + (nC ν - (n + 1)) = nC ν by omega] at g4
          rw [show nC ν + 1 - 1 = nC ν by omega] at hpr
          omega
      rintro _ m4 hck
      refine wp_ret (Or.inr ⟨rfl, ?_, hck⟩)
      rw [hi2] at hH
      have hn := hist_end hv hH
      cases eg : gd ν t.toInt with
      | false => rfl
      | true => exact absurd ((bd_iff hv).mp (gd_bd eg)) hn
    · rw [t_lt, en, hl] at c
      have hi2 : i ≤ nC ν := by omega
      have hltO : nC ν + 1 - (i + 1) < k := by omega
      have hlO : (l + 1).toInt = ((i + 1 : Nat) : Int) := by simp only [t_add, hl, Int32.reduceToInt]; omega
      refine wp_lp2 (fun k (l2 l3 : Int32) m2 => ∃ q : Nat, l3.toInt = (q : Int) ∧ q ≤ nP ν ∧ k = nP ν - q ∧ Lds ν t.toInt m2 ∧ Pass ν (Wt ν t.toInt) (L i) (fun c => (m2.1 53 c).toInt) q (24 * i + q) ∧ ((l2.toInt = -1 ∧ (∀ c, c < nC ν → (m2.1 53 c).toInt = L i c) ∧ ∀ p, p < q → L i (Fr ν p) + Wt ν t.toInt p ≤ Lm ν t.toInt (To ν p) ∧ (Fb ν (To ν p) = false → L i (Fr ν p) + Wt ν t.toInt p ≤ L i (To ν p))) ∨ ((∃ p, p < nP ν ∧ l2.toInt = (p : Nat) ∧ Fb ν (To ν p) = false ∧ (m2.1 55 (To ν p)).toInt = (p : Nat) ∧ L i (To ν p) < (m2.1 53 (To ν p)).toInt) ∧ ∃ c, c < nC ν ∧ (m2.1 53 c).toInt ≠ L i c))) ax_FU ?_ (nP ν) (by unfold ax_FU; omega)
        ⟨0, rfl, by omega, rfl, ⟨hm, htm, hwm, hlm, hld, hLP⟩, ⟨fun c hc => ?_, fun p hp => by omega, fun U hU c hc => ?_⟩, Or.inl ⟨rfl, fun c hc => (hL c hc).symm, fun p hp => by omega⟩⟩
      · rintro k2 rc2 hrc2 l2b l3 m2 ⟨q, hl3, hq, hk2, hD2, hP, hch⟩
        obtain ⟨hm2, ht2, hw2, hlm2, hld2, hLP2⟩ := hD2
        have en2 := hm2.1.2.2.1
        unfold fX6_holds_B30 fX6_holds_K132
        refine wp_if (fun c2 => wp_if (fun c3 => wp_ret (Or.inl ⟨rfl, ?_⟩)) (fun c3 => ?_)) (fun c2 => ?_)
        · rw [t_le, en2, hl3] at c2
          rw [t_eq] at c3
          have hq2 : q = nP ν := by omega
          rcases hch with ⟨-, hc1, hc2⟩ | ⟨⟨p, hp, ep, -⟩, -⟩
          · refine (gd_iff hv).mpr ⟨L i, ⟨fun c hc => ?_, fun p hp hf => (hc2 p (by omega)).2 hf⟩, fun c hc hf => ?_, fun p hp _ => (hc2 p (by omega)).1⟩
            · rw [hL c hc]; exact ⟨(hcur c hc).1, (hcur c hc).2.2⟩
            · rw [hL c hc]; exact (hlm c hc).2 hf
          · rw [ep] at c3
            simp only [Int32.reduceToInt] at c3
            omega
        · rw [t_le, en2, hl3] at c2
          rw [t_eq] at c3
          have hq2 : q = nP ν := by omega
          rcases hch with ⟨hc0, -⟩ | ⟨hpp, hc1⟩
          · rw [hc0] at c3; exact absurd rfl c3
          · refine hrc (nC ν + 1 - (i + 1)) _ _ _ hltO ⟨i + 1, hlO, Nat.succ_le_succ hi2, rfl, ⟨hm2, ht2, hw2, hlm2, hld2, hLP2⟩, fun c hc => ?_, fun j c => if j = i + 1 then (m2.1 53 c).toInt else L j c, ⟨?_, ?_, ?_⟩, fun c hc => if_pos rfl, fun _ => ?_⟩
            · have := hP.1 c hc
              simp only at this
              clear hpp hc1
              refine ⟨by omega, by omega, this.2.2.2⟩
            · intro c hc
              show 0 ≤ (if 0 = i + 1 then _ else L 0 c) ∧ _
              rw [if_neg (by omega)]
              exact hH.1 c hc
            · intro U hU c hc
              show (if 0 = i + 1 then _ else L 0 c) ≤ _
              rw [if_neg (by omega)]
              exact hH.2.1 U hU c hc
            · intro j hj
              by_cases e : j = i
              · subst e
                simp only [if_neg (show ¬ j = j + 1 by omega), if_true]
                refine ⟨⟨fun c hc => ?_, fun p hp hf => hP.2.1 p (by omega) hf, hP.2.2⟩, hc1⟩
                have := hP.1 c hc
                simp only at this
                refine ⟨this.1, this.2.1, ?_, this.2.2.2⟩
                show (m2.1 53 c).toInt ≤ ((24 * (j + 1) : Nat) : Int) * 76608
                omega
              · simp only [if_neg (show ¬ j = i + 1 by omega), if_neg (show ¬ j + 1 = i + 1 by omega)]
                exact hH.2.2 j (by omega)
            · obtain ⟨p, hp, ep, hpf, hpl, hpr⟩ := hpp
              refine ⟨p, hp, ep, hpf, hpl, ?_⟩
              rw [show i + 1 - 1 = i by omega]
              simp only [if_neg (show ¬ i = i + 1 by omega)]
              exact hpr
        · rw [t_le, en2, hl3] at c2
          have hq2 : q < nP ν := by omega
          have hlt : nP ν - (q + 1) < k2 := by clear hch; omega
          have hl4 : (l3 + 1).toInt = ((q + 1 : Nat) : Int) := by clear hch; simp only [t_add, hl3, Int32.reduceToInt]; omega
          obtain ⟨a1, a2, a3, a4, a5, a6⟩ := vd_path hv q hq2
          have e := hm2.2.2.2.1 q hq2
          have hwq := hw2 q hq2
          have wb := wbd q hq2
          have b1 := hP.1 _ a2
          have b2 := hP.1 _ a3
          have lg := hlm2 _ a3
          simp only at b1 b2
          have eto : (m2.1 12 q).toInt = (To ν q : Nat) := by rw [e.2.1, a5]
          have efr : (m2.1 11 q).toInt = (Fr ν q : Nat) := by rw [e.1, a4]
          refine wp_rd q hl3 a1 (wp_rd q hl3 a1 (wp_rd (Fr ν q) efr (by omega) (wp_rd q hl3 a1 (wp_let (wp_rd (To ν q) eto (by omega) ?_)))))
          have hsum : (m2.1 53 (Fr ν q) + m2.1 52 q).toInt = (m2.1 53 (Fr ν q)).toInt + Wt ν t.toInt q := by
            rw [t_add, hwq]
            omega
          refine wp_if (fun c3 => ?_) (fun c3 => ?_)
          · rw [t_le, hsum, lg.1] at c3
            refine wp_rd (To ν q) eto (by omega) (wp_if (fun c4 => ?_) (fun c4 => ?_))
            · rw [t_le, hsum] at c4
              refine hrc2 (nP ν - (q + 1)) _ _ _ hlt ⟨q + 1, hl4, hq2, rfl, ⟨hm2, ht2, hw2, hlm2, hld2, hLP2⟩, ⟨fun c hc => ?_, fun p hp hf => ?_, hP.2.2⟩, ?_⟩
              · have := hP.1 c hc
                simp only at this
                exact ⟨this.1, this.2.1, by show (m2.1 53 c).toInt ≤ ((24 * i + (q + 1) : Nat) : Int) * 76608; omega, this.2.2.2⟩
              · by_cases ep : p = q
                · subst ep
                  show L i (Fr ν p) + Wt ν t.toInt p ≤ (m2.1 53 (To ν p)).toInt
                  omega
                · exact hP.2.1 p (by omega) hf
              · rcases hch with ⟨hc0, hc1, hc2⟩ | hc0
                · refine Or.inl ⟨hc0, hc1, fun p hp => ?_⟩
                  by_cases ep : p = q
                  · subst ep
                    have g1 := hc1 _ a2
                    have g2 := hc1 _ a3
                    exact ⟨by omega, fun _ => by omega⟩
                  · exact hc2 p (by omega)
                · exact Or.inr hc0
            · rw [t_le, hsum] at c4
              have hnf : Fb ν (To ν q) = false := by
                by_cases hf : Fb ν (To ν q) = true
                · have z := b2.2.2.2 hf
                  have z2 := lm_flop (T := t.toInt) hf
                  have z3 := hv.2.2.1 _ a3
                  omega
                · simpa using hf
              have hD3 : Lds ν t.toInt (ax_wi (ax_wi m2 53 (To ν q) (m2.1 53 (Fr ν q) + m2.1 52 q)) 55 (To ν q) l3) := by
                refine ⟨CN_wi (CN_wi hm2 (by omega)) (by omega), TrL_keep ht2 (by rw [wi_ne (by omega), wi_ne (by omega)]) (by rw [wi_ne (by omega), wi_ne (by omega)]), fun p hp => by rw [wi_ne (by omega), wi_ne (by omega)]; exact hw2 p hp, fun c hc => ?_, fun c hc => ?_, ?_⟩
                · rw [wi_ne (show 54 ≠ 55 by omega), wi_ne (show 54 ≠ 53 by omega), wi_ne (show 53 ≠ 55 by omega)]
                  refine ⟨(hlm2 c hc).1, fun hf => ?_⟩
                  by_cases ec : c = To ν q
                  · rw [ec, wi_self, hsum]; exact c3
                  · rw [wi_other ec]; exact (hlm2 c hc).2 hf
                · simp only
                  by_cases ec : c = To ν q
                  · rw [ec, wi_self]
                    exact Or.inr ⟨q, hq2, hl3, rfl, hnf⟩
                  · rw [wi_other ec, wi_ne (by omega)]
                    exact hld2 c hc
                · have hup := ldp_up hv hq2 hLP2 hld2 (by show (m2.1 53 (To ν q)).toInt < (m2.1 53 (Fr ν q)).toInt + Wt ν t.toInt q; omega)
                  have f1 : (fun c => if c = To ν q then (m2.1 53 (Fr ν q)).toInt + Wt ν t.toInt q else (m2.1 53 c).toInt) = (fun c => ((ax_wi (ax_wi m2 53 (To ν q) (m2.1 53 (Fr ν q) + m2.1 52 q)) 55 (To ν q) l3).1 53 c).toInt) := by
                    funext c
                    rw [wi_ne (show 53 ≠ 55 by omega)]
                    by_cases ec : c = To ν q
                    · rw [if_pos ec, ec, wi_self, hsum]
                    · rw [if_neg ec, wi_other ec]
                  have f2 : (fun c => if c = To ν q then (q : Int) else (m2.1 55 c).toInt) = (fun c => ((ax_wi (ax_wi m2 53 (To ν q) (m2.1 53 (Fr ν q) + m2.1 52 q)) 55 (To ν q) l3).1 55 c).toInt) := by
                    funext c
                    by_cases ec : c = To ν q
                    · rw [if_pos ec, ec, wi_self, hl3]
                    · rw [if_neg ec, wi_other ec, wi_ne (show 55 ≠ 53 by omega)]
                  rw [← f1, ← f2]
                  exact hup
              refine wp_wr (To ν q) eto (by omega) (wp_wr (To ν q) (by rw [eto]) (by omega) (hrc2 (nP ν - (q + 1)) _ _ _ hlt ⟨q + 1, hl4, hq2, rfl, hD3, ⟨fun c hc => ?_, fun p hp hf => ?_, fun U hU c hc => ?_⟩, Or.inr ⟨⟨q, hq2, hl3, hnf, by rw [wi_self]; exact hl3, by rw [wi_ne (by omega), wi_self]; omega⟩, To ν q, a3, by rw [wi_ne (by omega), wi_self]; omega⟩⟩))
              · have b3 := hP.1 c hc
                simp only at b3 ⊢
                rw [wi_ne (by omega)]
                by_cases ec : c = To ν q
                · subst ec
                  rw [wi_self]
                  refine ⟨by omega, by omega, by omega, fun hf => ?_⟩
                  rw [hnf] at hf; cases hf
                · rw [wi_other ec]
                  exact ⟨b3.1, b3.2.1, by omega, b3.2.2.2⟩
              · simp only
                rw [wi_ne (by omega)]
                by_cases ec : To ν p = To ν q
                · rw [ec, wi_self]
                  by_cases ep : p = q
                  · rw [ep]; omega
                  · have := hP.2.1 p (by omega) hf
                    simp only [ec] at this
                    omega
                · rw [wi_other ec]
                  exact hP.2.1 p (by
                    by_cases ep : p = q
                    · exact absurd (by rw [ep]) ec
                    · omega) hf
              · simp only
                rw [wi_ne (by omega)]
                by_cases ec : c = To ν q
                · subst ec
                  rw [wi_self]
                  have g1 := hP.2.2 U hU _ a2
                  have g2 := hU.2 q hq2 hnf
                  simp only at g1
                  omega
                · rw [wi_other ec]
                  exact hP.2.2 U hU c hc
          · rw [t_le, hsum, lg.1] at c3
            refine wp_bd (wp_mono (sX6_cutAt hm2 hv ht2 hld2 l3 q hl3 hq2 (T := t.toInt) (fun n hn h1 h2 => by have := ldp_end hv hLP2 hld2 hq2 n h1 h2; omega) (fun b hb h1 n h2 => ldp_loop hv hLP2 hld2 hb n h1 h2)) ?_)
            rintro _ m4 hck
            refine wp_ret (Or.inr ⟨rfl, ?_, hck⟩)
            cases eg : gd ν t.toInt with
            | false => rfl
            | true =>
              exfalso
              obtain ⟨U, hU, u1, u2⟩ := (gd_iff hv).mp eg
              have g1 := hP.2.2 U hU _ a2
              simp only at g1
              by_cases hf : Fb ν (To ν q) = true
              · have g2 := u2 q hq2 hf
                omega
              · have g2 := hU.2 q hq2 (by simpa using hf)
                have g3 := u1 _ a3 (by simpa using hf)
                omega
      · have := hcur c hc
        rw [hL c hc]
        exact ⟨Int.le_refl _, this.1, this.2.1, this.2.2⟩
      · have := (hist_le hH i (Nat.le_refl _)).2 U hU c hc
        rw [hL c hc] at this
        exact this
  · rw [if_pos (t_eq.mpr hr)]
    exact wp_ret (Or.inr ⟨rfl, hg, hck⟩)
end HLD
