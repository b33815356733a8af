/-! the class's Trial -/
def TrL (μ : ax_M) (ν : Nv) : Prop := ∀ p, p < nP ν → (μ.1 50 p).toInt = Dl ν p ∧ (μ.1 51 p).toInt = Sh ν p
def CK (μ : ax_M) (ν : Nv) : Prop := ∃ (n : Nat) (q : Nat → Nat), (μ.1 49 8).toInt = (n : Int) ∧ n ≤ 11 ∧ (∀ i, i < n → (μ.1 56 i).toInt = (q i : Nat)) ∧ Cut ν n q (μ.1 49 9).toInt (μ.1 49 10).toInt
/-- a cut that tells that it isn't good at T -/
def CKv (μ : ax_M) (ν : Nv) (T : Int) : Prop := ∃ (n : Nat) (q : Nat → Nat), (μ.1 49 8).toInt = (n : Int) ∧ n ≤ 11 ∧ (∀ i, i < n → (μ.1 56 i).toInt = (q i : Nat)) ∧ Cut ν n q (μ.1 49 9).toInt (μ.1 49 10).toInt ∧ T * ((μ.1 49 10).toInt + sm (fun i => Sh ν (q i)) n) < (μ.1 49 9).toInt
theorem CKv_CK {μ : ax_M} {ν : Nv} {T : Int} (h : CKv μ ν T) : CK μ ν := by
  obtain ⟨n, q, h1, h2, h3, h4, -⟩ := h
  exact ⟨n, q, h1, h2, h3, h4⟩
section TRI
variable {μ : ax_M} {ν : Nv}
theorem TrL_keep {μ2 : ax_M} (h : TrL μ ν) (h1 : μ2.1 50 = μ.1 50) (h2 : μ2.1 51 = μ.1 51) : TrL μ2 ν := by
  unfold TrL at *
  rw [h1, h2]
  exact h
theorem sX6_load (h : CN μ ν) (hv : Vd ν) : Wp (fX6_load μ) (fun _ m => CN m ν ∧ TrL m ν) := by
  have h0 := hv.1
  have hnP : ν 0 2 = (nP ν : Nat) := by unfold nP; omega
  unfold fX6_load
  refine wp_lp1 (fun k (l : Int32) m => ∃ i : Nat, l.toInt = (i : Int) ∧ i ≤ nP ν ∧ k = nP ν - i ∧ CN m ν ∧ ∀ p, p < i → (m.1 50 p).toInt = Dl ν p ∧ (m.1 51 p).toInt = Sh ν p) ax_FU ?_ (nP ν) (by unfold ax_FU; omega) ⟨0, rfl, by omega, rfl, h, fun p hp => by omega⟩
  rintro k rc hrc l m ⟨i, hl, hi, hk, hm, hw⟩
  unfold fX6_load_B2
  have en := hm.1.2.2.1
  refine wp_if (fun c => wp_ret ⟨hm, ?_⟩) (fun c => ?_)
  · rw [t_le, en, hl] at c
    intro p hp
    exact hw p (by omega)
  · rw [t_le, en, hl] at c
    have hi2 : i < nP ν := by omega
    refine wp_rdf (sX1_delayOf hm hv l i hl hi2) (fun r1 e1 => wp_wr i hl (by omega) (wp_rdf (sX1_shiftOf (CN_wi hm (by omega)) hv l i hl hi2) (fun r3 e3 => wp_wr i hl (by omega) (hrc (nP ν - (i + 1)) _ _ (by omega) ⟨i + 1, by simp only [t_add, hl, Int32.reduceToInt]; omega, by omega, rfl, CN_wi (CN_wi hm (by omega)) (by omega), fun p hp => ?_⟩))))
    by_cases e : p = i
    · subst e
      rw [wi_ne (by omega), wi_self, wi_self]
      exact ⟨e1, e3⟩
    · rw [wi_other e, wi_other e, wi_other e, wi_other e]
      exact hw p (by omega)
theorem sX6_forgetCut : Wp (fX6_forgetCut μ) (fun _ m => (m.1 49 8).toInt = 0 ∧ (m.1 49 9).toInt = 0 ∧ (m.1 49 10).toInt = 0 ∧ ∀ a, a ≠ 49 → m.1 a = μ.1 a) := by
  unfold fX6_forgetCut
  refine wp_let (wp_let (wp_let (wp_ret ⟨?_, ?_, ?_, fun a ha => ?_⟩)))
  · rw [wi_other (by omega), wi_other (by omega), wi_self]; rfl
  · rw [wi_other (by omega), wi_self]; rfl
  · rw [wi_self]; rfl
  · rw [wi_ne ha, wi_ne ha, wi_ne ha]
theorem CK_zero (h8 : (μ.1 49 8).toInt = 0) (h9 : (μ.1 49 9).toInt = 0) (h10 : (μ.1 49 10).toInt = 0) : CK μ ν :=
  ⟨0, fun _ => 0, h8, by omega, fun i hi => by omega, ⟨fun i hi => by omega, fun i hi => by omega⟩, fun i j hi => by omega, Or.inr (Or.inr ⟨rfl, h9, h10⟩)⟩
theorem sX6_endCut (h : CN μ ν) (hv : Vd ν) (p : Int32) (g : Nat) (hp : p.toInt = g) (hg : g < nC ν) (hN : 0 ≤ (μ.1 49 9).toInt) (hN2 : (μ.1 49 9).toInt ≤ 10000000) : Wp (fX6_endCut p μ) (fun _ m => m.1 49 8 = μ.1 49 8 ∧ (m.1 49 9).toInt = (μ.1 49 9).toInt + 64 * ν 4 g ∧ (m.1 49 10).toInt = (if Fb ν g = true then 0 else ν 2 (Ph ν g)) ∧ ∀ a, a ≠ 49 → m.1 a = μ.1 a) := by
  obtain ⟨b1, b2, b3, b4⟩ := vd_cell hv g hg
  have f1 := h.2.2.1 g hg
  have g1 := h.2.1 _ b2
  have v2 := hv.2.2.1 g hg
  have key : ∀ s1 : Int32, s1.toInt = (if Fb ν g = true then 0 else ν 2 (Ph ν g)) → Wp (fX6_endCut_K54 s1 (ax_wi μ 49 9 (μ.1 49 9 + 64 * μ.1 8 g))) (fun _ m => m.1 49 8 = μ.1 49 8 ∧ (m.1 49 9).toInt = (μ.1 49 9).toInt + 64 * ν 4 g ∧ (m.1 49 10).toInt = (if Fb ν g = true then 0 else ν 2 (Ph ν g)) ∧ ∀ a, a ≠ 49 → m.1 a = μ.1 a) := by
    intro s1 hs
    unfold fX6_endCut_K54
    refine wp_let (wp_ret ⟨?_, ?_, ?_, fun a ha => ?_⟩)
    · rw [wi_other (by omega), wi_other (by omega)]
    · rw [wi_other (by omega), wi_self]
      simp only [t_add, t_mul, f1.2.2.1, Int32.reduceToInt]
      omega
    · rw [wi_self]; exact hs
    · rw [wi_ne ha, wi_ne ha]
  unfold fX6_endCut
  refine wp_rd g hp b1 (wp_let (wp_rdf (sX1_isFlop (CN_wi h (by omega)) hv p g hp hg) (fun r e => wp_if (fun c => ?_) (fun c => ?_))))
  · rw [t_eq, e] at c
    have hf : ¬ Fb ν g = true := fun h2 => by rw [if_pos h2] at c; exact absurd c (by decide)
    refine wp_rd g hp b1 (wp_rd (Ph ν g) (by rw [wi_ne (by omega), f1.2.1, b3]) (by omega) (key _ ?_))
    rw [if_neg hf, wi_ne (by omega)]
    exact g1.2.2
  · rw [t_eq, e] at c
    have hf : Fb ν g = true := by
      by_cases h2 : Fb ν g = true
      · exact h2
      · rw [if_neg h2] at c; exact absurd rfl c
    exact key 0 (by rw [if_pos hf]; rfl)
theorem sX6_addToCut (h : CN μ ν) (hv : Vd ν) (ht : TrL μ ν) (p : Int32) (k n : Nat) (hp : p.toInt = k) (hk : k < nP ν) (hn : (μ.1 49 8).toInt = (n : Int)) (hn2 : n ≤ 10) (hN : 0 ≤ (μ.1 49 9).toInt) (hN2 : (μ.1 49 9).toInt ≤ 10000000) :
    Wp (fX6_addToCut p μ) (fun r m => r.toInt = (μ.1 55 (Fr ν k)).toInt ∧ (m.1 49 8).toInt = ((n + 1 : Nat) : Int) ∧ (m.1 49 9).toInt = (μ.1 49 9).toInt + Dl ν k ∧ m.1 49 10 = μ.1 49 10 ∧ (m.1 56 n).toInt = (k : Nat) ∧ (∀ i, i ≠ n → m.1 56 i = μ.1 56 i) ∧ ∀ a, a ≠ 49 → a ≠ 56 → m.1 a = μ.1 a) := by
  obtain ⟨a1, a2, a3, a4, a5, a6⟩ := vd_path hv k hk
  have e := h.2.2.2.1 k hk
  have hd := dl_bd hv k hk
  unfold fX6_addToCut
  refine wp_wr n hn (by omega) (wp_let (wp_rd k hp a1 (wp_let (wp_rd k hp a1 (wp_rd (Fr ν k) ?_ (by omega) (wp_ret ⟨?_, ?_, ?_, ?_, ?_, fun i hi => ?_, fun a h1 h2 => ?_⟩))))))
  · rw [wi_ne (by omega), wi_ne (by omega), wi_ne (by omega), e.1, a4]
  · rw [wi_ne (by omega), wi_ne (by omega), wi_ne (by omega)]
  · rw [wi_other (by omega), wi_self, wi_ne (by omega), t_add, hn]
    simp only [Int32.reduceToInt]
    omega
  · rw [wi_self, wi_other (by omega), wi_ne (show 49 ≠ 56 by omega), wi_ne (show 50 ≠ 49 by omega), wi_ne (show 50 ≠ 56 by omega), t_add, (ht k hk).1]
    omega
  · rw [wi_other (by omega), wi_other (by omega), wi_ne (by omega)]
  · rw [wi_ne (by omega), wi_ne (by omega), wi_self]; exact hp
  · rw [wi_ne (by omega), wi_ne (by omega), wi_other hi]
  · rw [wi_ne h1, wi_ne h1, wi_ne h2]
theorem qn_shift {ld : Nat → Int} (a i j : Nat) : qn ν ld (qn ν ld a i) j = qn ν ld a (i + j) := by
  induction j with
  | zero => rfl
  | succ j ih =>
    show (ld (Fr ν (qn ν ld (qn ν ld a i) j))).toNat = (ld (Fr ν (qn ν ld a (i + j)))).toNat
    rw [ih]
/-- the row so far lies in the cut -/
def Laid (m : ax_M) (ν : Nv) (q : Nat → Nat) (n : Nat) : Prop := (m.1 49 8).toInt = (n : Int) ∧ (m.1 49 9).toInt = sm (fun i => Dl ν (q i)) n ∧ (m.1 49 10).toInt = 0 ∧ ∀ i, i < n → (m.1 56 i).toInt = (q i : Nat)
theorem dl_sum (hv : Vd ν) {q : Nat → Nat} {n : Nat} (h : ∀ i, i < n → q i < nP ν) (hn : n ≤ 11) : 0 ≤ sm (fun i => Dl ν (q i)) n ∧ sm (fun i => Dl ν (q i)) n ≤ 842688 := by
  have a := sm_bd (f := fun i => Dl ν (q i)) (n := n) (b := 76608) (fun i hi => dl_bd hv _ (h i hi))
  refine ⟨a.1, ?_⟩
  omega
theorem laid_add (h : CN μ ν) (hv : Vd ν) (ht : TrL μ ν) {q : Nat → Nat} {n : Nat} (hL : Laid μ ν q n) (hq : ∀ i, i ≤ n → q i < nP ν) (hn : n ≤ 10) (p : Int32) (hp : p.toInt = (q n : Nat)) : Wp (fX6_addToCut p μ) (fun r m => r.toInt = (μ.1 55 (Fr ν (q n))).toInt ∧ Laid m ν q (n + 1) ∧ CN m ν ∧ TrL m ν ∧ m.1 55 = μ.1 55) := by
  have hs := dl_sum hv (q := q) (n := n) (fun i hi => hq i (by omega)) (by omega)
  refine wp_mono (sX6_addToCut h hv ht p (q n) n hp (hq n (Nat.le_refl n)) hL.1 hn (by rw [hL.2.1]; exact hs.1) (by rw [hL.2.1]; omega)) ?_
  rintro r m ⟨h1, h2, h3, h4, h5, h6, h7⟩
  refine ⟨h1, ⟨h2, ?_, by rw [h4]; exact hL.2.2.1, fun i hi => ?_⟩, CN_keep h (fun a g1 g2 => h7 a (by omega) (by omega)), TrL_keep ht (h7 50 (by omega) (by omega)) (h7 51 (by omega) (by omega)), h7 55 (by omega) (by omega)⟩
  · rw [h3, hL.2.1]; rfl
  · by_cases e : i = n
    · rw [e]; exact h5
    · rw [h6 i e]; exact hL.2.2.2 i (by omega)
theorem sX6_cutLoop (h : CN μ ν) (hv : Vd ν) (ht : TrL μ ν) (hl : Ldk ν (fun c => (μ.1 55 c).toInt)) (p : Int32) (a : Nat) (hp : p.toInt = (a : Nat)) (ha : a < nP ν) (d : Nat) (hd0 : 0 < d) (hd1 : d ≤ nC ν) (hd2 : qn ν (fun c => (μ.1 55 c).toInt) a d = a) (hal : ∀ k, al ν (fun c => (μ.1 55 c).toInt) a k) {T : Int} (hO : ∀ n, qn ν (fun c => (μ.1 55 c).toInt) a (n + 1) = a → 0 < sm (fun i => Wt ν T (qn ν (fun c => (μ.1 55 c).toInt) a i)) (n + 1)) : Wp (fX6_cutLoop p μ) (fun _ m => CKv m ν T) := by
  have h0 := hv.1
  have h10 : nC ν ≤ 10 := by unfold nC; omega
  have hnC : ν 0 1 = (nC ν : Nat) := by unfold nC; omega
  unfold fX6_cutLoop
  refine wp_bd (wp_mono sX6_forgetCut ?_)
  rintro _ m0 ⟨z8, z9, z10, hk0⟩
  refine wp_lp2 (fun k (l2 l3 : Int32) m => ∃ i : Nat, l3.toInt = (i : Int) ∧ i < d ∧ k = nC ν - i ∧ l2.toInt = (qn ν (fun c => (μ.1 55 c).toInt) a i : Nat) ∧ CN m ν ∧ TrL m ν ∧ m.1 55 = μ.1 55 ∧ Laid m ν (qn ν (fun c => (μ.1 55 c).toInt) a) i ∧ ∀ j, 0 < j → j ≤ i → qn ν (fun c => (μ.1 55 c).toInt) a j ≠ a) ax_FU ?_ (nC ν) (by unfold ax_FU; omega) ⟨0, rfl, hd0, rfl, hp, CN_keep h (fun a g1 g2 => hk0 a (by omega)), TrL_keep ht (hk0 50 (by omega)) (hk0 51 (by omega)), hk0 55 (by omega), ⟨z8, z9, z10, fun i hi => by omega⟩, fun j h1 h2 => by omega⟩
  rintro k rc hrc l2 l3 m ⟨i, hl3, hi, hk, hl2, hm, htm, e55, hL, hne⟩
  unfold fX6_cutLoop_B8 fX6_cutLoop_K44
  have en := hm.1.2.1
  rw [if_neg (by rw [t_le, en, hl3]; omega), if_neg (by rw [t_eq, hl2]; simp only [Int32.reduceToInt]; omega)]
  have hpath := al_path hv hl ha (hal (i + 1))
  refine wp_bd (wp_mono (laid_add hm hv htm hL (fun j hj => hpath j (by omega)) (by omega) l2 hl2) ?_)
  rintro r m2 ⟨hr, hL2, hm2, ht2, e55b⟩
  have hnx := al_next hv hl ha (hal (i + 1)) i (by omega)
  have hr2 : r.toInt = (qn ν (fun c => (μ.1 55 c).toInt) a (i + 1) : Nat) := by rw [hr, e55]; exact hnx.1
  refine wp_if (fun c => wp_ret ?_) (fun c => ?_)
  · rw [t_eq, hr2, hp] at c
    have hback : qn ν (fun c => (μ.1 55 c).toInt) a (i + 1) = a := by omega
    refine ⟨i + 1, _, hL2.1, by omega, hL2.2.2.2, ⟨al_row hv hl ha (hal i), ?_, Or.inr (Or.inl ⟨by omega, ?_, ?_, hL2.2.1, hL2.2.2.1⟩)⟩, ?_⟩
    · have key : ∀ x y, x < y → y < i + 1 → qn ν (fun c => (μ.1 55 c).toInt) a x ≠ qn ν (fun c => (μ.1 55 c).toInt) a y := by
        intro x y hxy hy e
        have h1 := qn_add e (i + 1 - y)
        rw [show y + (i + 1 - y) = i + 1 by omega, hback] at h1
        exact hne (x + (i + 1 - y)) (by omega) (by omega) h1
      intro x y hx hy e
      by_cases h1 : x < y
      · exact absurd e (key x y h1 hy)
      · by_cases h2 : y < x
        · exact absurd e.symm (key y x h2 hx)
        · omega
    · show To ν a = Fr ν (qn ν (fun c => (μ.1 55 c).toInt) a (i + 1 - 1))
      have := hnx.2.1
      rw [hback] at this
      exact this
    · show Fb ν (To ν a) = false
      have := hnx.2.2
      rw [hback] at this
      exact this
    · have := hO i hback
      refine vio_sum (g := 0) (x := 0) (by rw [hL2.2.1]; omega) this ?_
      rw [hL2.2.2.1, Int.mul_zero]
      omega
  · rw [t_eq, hr2, hp] at c
    have hne2 : qn ν (fun c => (μ.1 55 c).toInt) a (i + 1) ≠ a := by omega
    have hid : i + 1 < d := by
      by_cases e : i + 1 = d
      · rw [e] at hne2; exact absurd hd2 hne2
      · omega
    exact hrc (nC ν - (i + 1)) _ _ _ (by omega) ⟨i + 1, by simp only [t_add, hl3, Int32.reduceToInt]; omega, hid, rfl, hr2, hm2, ht2, e55b.trans e55, hL2, fun j h1 h2 => by
      by_cases e : j = i + 1
      · rw [e]; exact hne2
      · exact hne j h1 (by omega)⟩
theorem sX6_cutAt (h : CN μ ν) (hv : Vd ν) (ht : TrL μ ν) (hl : Ldk ν (fun c => (μ.1 55 c).toInt)) (p : Int32) (a : Nat) (hp : p.toInt = (a : Nat)) (ha : a < nP ν) {T : Int} (hE : ∀ n, n ≤ nC ν → al ν (fun c => (μ.1 55 c).toInt) a n → (μ.1 55 (Fr ν (qn ν (fun c => (μ.1 55 c).toInt) a n))).toInt = -1 → Lm ν T (To ν a) < sm (fun i => Wt ν T (qn ν (fun c => (μ.1 55 c).toInt) a i)) (n + 1)) (hO : ∀ b, b < nP ν → (∀ k, al ν (fun c => (μ.1 55 c).toInt) b k) → ∀ n, qn ν (fun c => (μ.1 55 c).toInt) b (n + 1) = b → 0 < sm (fun i => Wt ν T (qn ν (fun c => (μ.1 55 c).toInt) b i)) (n + 1)) : Wp (fX6_cutAt p μ) (fun _ m => CKv m ν T) := by
  have h0 := hv.1
  have h10 : nC ν ≤ 10 := by unfold nC; omega
  have hnC : ν 0 1 = (nC ν : Nat) := by unfold nC; omega
  obtain ⟨a1, a2, a3, a4, a5, a6⟩ := vd_path hv a ha
  unfold fX6_cutAt
  refine wp_bd (wp_mono sX6_forgetCut ?_)
  rintro _ m0 ⟨z8, z9, z10, hk0⟩
  refine wp_lp2 (fun k (l2 l3 : Int32) m => ∃ i : Nat, l3.toInt = (i : Int) ∧ i ≤ nC ν + 1 ∧ k = nC ν + 1 - i ∧ CN m ν ∧ TrL m ν ∧ m.1 55 = μ.1 55 ∧ Laid m ν (qn ν (fun c => (μ.1 55 c).toInt) a) i ∧ ((l2.toInt = -1 ∧ 0 < i ∧ (μ.1 55 (Fr ν (qn ν (fun c => (μ.1 55 c).toInt) a (i - 1)))).toInt = -1 ∧ al ν (fun c => (μ.1 55 c).toInt) a (i - 1)) ∨ (l2.toInt = (qn ν (fun c => (μ.1 55 c).toInt) a i : Nat) ∧ al ν (fun c => (μ.1 55 c).toInt) a i))) ax_FU ?_ (nC ν + 1) (by unfold ax_FU; omega) ⟨0, rfl, by omega, rfl, CN_keep h (fun a g1 g2 => hk0 a (by omega)), TrL_keep ht (hk0 50 (by omega)) (hk0 51 (by omega)), hk0 55 (by omega), ⟨z8, z9, z10, fun i hi => by omega⟩, Or.inr ⟨hp, fun j hj => by omega⟩⟩
  rintro k rc hrc l2 l3 m ⟨i, hl3, hi, hk, hm, htm, e55, hL, hst⟩
  unfold fX6_cutAt_B8 fX6_cutAt_K36 fX6_cutAt_K62
  have en := hm.1.2.1
  have e12 := (hm.2.2.2.1 a ha).2.1
  rcases hst with ⟨c1, c2, c3, c4⟩ | ⟨c1, c2⟩
  · have hend : Wp (Option.bind (ax_rd m 12 24 p) (fun v5 => ax_bd (fX6_endCut v5 m) (fun _ m7 => some ((), m7)))) (fun _ m => CKv m ν T) := by
      have hrow := al_row hv hl ha (n := i) c4
      have hs := dl_sum hv (q := qn ν (fun c => (μ.1 55 c).toInt) a) (n := i) hrow.1 (by omega)
      refine wp_rd a hp a1 (wp_bd (wp_mono (sX6_endCut hm hv _ (To ν a) (by rw [e12, a5]) a3 (by rw [hL.2.1]; exact hs.1) (by rw [hL.2.1]; omega)) ?_))
      rintro _ m7 ⟨g1, g2, g3, g4⟩
      refine wp_ret ⟨i, _, by rw [g1]; exact hL.1, by omega, fun j hj => by rw [g4 56 (by omega)]; exact hL.2.2.2 j hj, ⟨hrow, al_distinct c4 c3, Or.inl ⟨To ν a, a3, fun _ => rfl, fun hz => by omega, by rw [g2, hL.2.1], g3⟩⟩, ?_⟩
      have hE2 := hE (i - 1) (by omega) c4 c3
      rw [show i - 1 + 1 = i by omega] at hE2
      refine vio_sum (g := 64 * ν 4 (To ν a)) (x := Lm ν T (To ν a)) (by rw [g2, hL.2.1]) hE2 ?_
      rw [g3]
      unfold Lm
      by_cases hf : Fb ν (To ν a) = true
      · rw [if_pos hf, if_pos hf, Int.mul_zero]
      · rw [if_neg hf, if_neg hf, Int.mul_comm]
    have hm1 : l2 = -1 := t_eq.mpr c1
    refine wp_if (fun _ => ?_) (fun _ => ?_)
    · rw [if_pos hm1]; exact hend
    · rw [if_pos hm1, if_pos hm1]; exact hend
  · have hpath := al_path hv hl ha c2
    have hm1 : ¬ l2 = -1 := by rw [t_eq, c1]; simp only [Int32.reduceToInt]; omega
    refine wp_if (fun c5 => ?_) (fun c5 => ?_)
    · rw [t_lt, en, hl3] at c5
      have hi2 : i = nC ν + 1 := by omega
      subst hi2
      rw [if_neg hm1]
      obtain ⟨d, d0, d1, d2, d3⟩ := al_loop hv hl ha c2
      have hl' : Ldk ν (fun c => (m.1 55 c).toInt) := by rw [e55]; exact hl
      have hal2 : ∀ k, al ν (fun c => (μ.1 55 c).toInt) (qn ν (fun c => (μ.1 55 c).toInt) a (nC ν + 1)) k := by
        intro k j hj
        rw [qn_shift]
        exact d3 (nC ν + 1 + j + 1) (nC ν + 1 + j) (by omega)
      refine wp_bd (wp_mono (sX6_cutLoop hm hv htm hl' l2 _ c1 (hpath _ (Nat.le_refl _)) d d0 d1 ?_ ?_ (T := T) ?_) ?_)
      · rw [e55, qn_shift]; exact d2
      · rw [e55]; exact hal2
      · rw [e55]; exact hO _ (hpath _ (Nat.le_refl _)) hal2
      · rintro _ m4 hc
        exact wp_ret hc
    · rw [t_lt, en, hl3] at c5
      have hi2 : i ≤ nC ν := by omega
      rw [if_neg hm1]
      refine wp_bd (wp_mono (laid_add hm hv htm hL (fun j hj => hpath j hj) (by omega) l2 c1) ?_)
      rintro r m2 ⟨hr, hL2, hm2, ht2, e55b⟩
      rw [e55] at hr
      refine hrc (nC ν + 1 - (i + 1)) _ _ _ (by omega) ⟨i + 1, by simp only [t_add, hl3, Int32.reduceToInt]; omega, by omega, rfl, hm2, ht2, e55b.trans e55, hL2, ?_⟩
      by_cases e : (μ.1 55 (Fr ν (qn ν (fun c => (μ.1 55 c).toInt) a i))).toInt = -1
      · exact Or.inl ⟨by rw [hr]; exact e, by omega, e, c2⟩
      · have al2 : al ν (fun c => (μ.1 55 c).toInt) a (i + 1) := by
          intro j hj
          by_cases ej : j = i
          · rw [ej]; exact e
          · exact c2 j (by omega)
        refine Or.inr ⟨?_, al2⟩
        rw [hr]
        exact (al_next hv hl ha al2 i (by omega)).1
end TRI
