/-! where phases would best open -/
def op (ν : Nv) (f : Nat → Int) : Nv := fun a b => if a = 1 then f b else ν a b
theorem op_same (ν : Nv) : op ν (ν 1) = ν := by
  funext a b
  show (if a = 1 then ν 1 b else ν a b) = ν a b
  split
  · rename_i h; rw [h]
  · rfl
def BestA (F : Nat → Nv) (N : Nat) (r : Int) : Prop := (r = -2 ∧ ∀ i, i < N → ∀ T : Int, 1 ≤ T → T ≤ 9999 → gd (F i) T = false) ∨ ∃ (i : Nat) (z : Int), i < N ∧ r = (i : Int) ∧ 1 ≤ z ∧ z ≤ 9999 ∧ gd (F i) z = true ∧ (∀ j, j < i → ∀ T : Int, 1 ≤ T → T ≤ z → gd (F j) T = false) ∧ ∀ j, i ≤ j → j < N → ∀ T : Int, 1 ≤ T → T < z → gd (F j) T = false
theorem bestA_unique {F : Nat → Nv} {N : Nat} {r s : Int} (h : BestA F N r) (h2 : BestA F N s) : r = s := by
  rcases h with ⟨a1, a2⟩ | ⟨i, z, a1, a2, a3, a4, a5, a6, a7⟩ <;> rcases h2 with ⟨b1, b2⟩ | ⟨j, y, b1, b2, b3, b4, b5, b6, b7⟩
  · omega
  · have := a2 j b1 y b3 b4; rw [b5] at this; cases this
  · have := b2 i a1 z a3 a4; rw [a5] at this; cases this
  · by_cases h1 : i < j
    · by_cases h3 : z ≤ y
      · have := b6 i h1 z a3 h3; rw [a5] at this; cases this
      · have := a7 j (by omega) b1 y b3 (by omega); rw [b5] at this; cases this
    · by_cases h2 : j < i
      · by_cases h3 : y ≤ z
        · have := a6 j h2 y b3 h3; rw [b5] at this; cases this
        · have := b7 i (by omega) a1 z a3 (by omega); rw [a5] at this; cases this
      · omega
section OPN
variable {μ : ax_M} {ν : Nv} {T : Int}
theorem wp_cp {α : Type} {Q : α → ax_M → Prop} {a n0 b n1 : Nat} {sp dp nn : Int32} {f : ax_M → Option (α × ax_M)} (s d n : Nat) (hs : sp.toInt = (s : Nat)) (hd : dp.toInt = (d : Nat)) (hn : nn.toInt = (n : Nat)) (h1 : s + n ≤ n0) (h2 : d + n ≤ n1)
    (hf : ∀ m : ax_M, (∀ i, i ≠ b → m.1 i = μ.1 i) → (∀ k, m.1 b k = if d ≤ k ∧ k < d + n then μ.1 a (s + (k - d)) else μ.1 b k) → m.2 = μ.2 → Wp (f m) Q) : Wp (Option.bind (ax_cp μ a n0 sp b n1 dp nn) f) Q := by
  unfold ax_cp
  have e1 : sp.toNatClampNeg = s := by rw [t_clamp, hs]; rfl
  have e2 : dp.toNatClampNeg = d := by rw [t_clamp, hd]; rfl
  have e3 : nn.toNatClampNeg = n := by rw [t_clamp, hn]; rfl
  rw [e1, e2, e3, if_neg (by
    simp only [t_lt, hs, hd, hn, Int32.reduceToInt]
    omega)]
  refine hf _ (fun i hi => if_neg hi) (fun k => ?_) rfl
  show (if b = b then va_cpy (μ.1 a) (μ.1 b) s d n else μ.1 b) k = _
  rw [if_pos rfl]
  rfl
theorem dv_ok {x y : Int32} (hx : 0 ≤ x.toInt) (hy : 0 < y.toInt) : ax_dv x y = some (x / y) ∧ (x / y).toInt = x.toInt / y.toInt ∧ ax_rm x y = some (x - x / y * y) ∧ (x - x / y * y).toInt = x.toInt % y.toInt := by
  have h1 := t_hi x
  have hy0 : ¬ y = 0 := by rw [t_eq]; simp only [Int32.reduceToInt]; omega
  have b1 : 0 ≤ x.toInt / y.toInt := Int.ediv_nonneg hx (by omega)
  have b2 : x.toInt / y.toInt ≤ x.toInt := Int.ediv_le_self _ hx
  have hv : (x / y).toInt = x.toInt / y.toInt := by
    rw [Int32.toInt_div, t_bmod, Int.tdiv_eq_ediv_of_nonneg hx]
    omega
  have b3 : x.toInt / y.toInt * y.toInt = x.toInt - x.toInt % y.toInt := by have := Int.mul_ediv_add_emod x.toInt y.toInt; rw [Int.mul_comm] at this; omega
  have b4 : 0 ≤ x.toInt % y.toInt := Int.emod_nonneg _ (by omega)
  have b5 : x.toInt % y.toInt ≤ x.toInt := by
    have : 0 ≤ x.toInt / y.toInt * y.toInt := Int.mul_nonneg b1 (by omega)
    omega
  refine ⟨by unfold ax_dv; rw [if_neg hy0], hv, by unfold ax_rm; rw [if_neg hy0], ?_⟩
  rw [t_sub, t_mul, hv, b3]
  omega
theorem CN_op (h : CN μ ν) {m : ax_M} {f : Nat → Int} (hk : ∀ a, 2 ≤ a → a < 15 → a ≠ 4 → m.1 a = μ.1 a) (h4 : ∀ i, i < nH ν → (m.1 4 i).toInt = f i) : CN m (op ν f) := by
  obtain ⟨a, hb, hc, hd, he⟩ := h
  refine ⟨?_, fun i hi => ?_, fun c hc2 => ?_, fun p hp => ?_, ?_⟩
  · rw [hk 2 (by omega) (by omega) (by omega)]; exact a
  · rw [hk 3 (by omega) (by omega) (by omega), hk 5 (by omega) (by omega) (by omega)]
    exact ⟨(hb i hi).1, h4 i hi, (hb i hi).2.2⟩
  · rw [hk 6 (by omega) (by omega) (by omega), hk 7 (by omega) (by omega) (by omega), hk 8 (by omega) (by omega) (by omega), hk 9 (by omega) (by omega) (by omega), hk 10 (by omega) (by omega) (by omega)]
    exact hc c hc2
  · rw [hk 11 (by omega) (by omega) (by omega), hk 12 (by omega) (by omega) (by omega), hk 13 (by omega) (by omega) (by omega), hk 14 (by omega) (by omega) (by omega)]
    exact hd p hp
  · rw [hk 2 (by omega) (by omega) (by omega)]; exact he
theorem vd_op (hv : Vd ν) {f : Nat → Int} (h : ∀ i, i < nH ν → 0 ≤ f i ∧ f i ≤ 63) : Vd (op ν f) := by
  obtain ⟨ha, hb, hc, hd, he⟩ := hv
  exact ⟨ha, fun i hi => ⟨(h i hi).1, (h i hi).2, (hb i hi).2.2⟩, hc, hd, he⟩
theorem gd_zero (hv : Vd ν) {f : Nat → Int} (h : ∀ i, i < nH ν → 0 ≤ f i ∧ f i ≤ 63) (h0 : 0 ≤ T) (hg : gd (op ν f) T = true) : gd (op ν (fun _ => 0)) T = true := by
  have hv1 := vd_op hv h
  have hv2 : Vd (op ν (fun _ => 0)) := vd_op hv (fun _ _ => by decide)
  refine gd_imp hv1 hv2 rfl rfl (fun p hp => ⟨rfl, rfl, ?_⟩) (fun c hc => ⟨rfl, Int.le_refl _⟩) hg
  have a := sh_bd hv1 p hp
  have e : Sh (op ν (fun _ => 0)) p = 64 := rfl
  have m1 : Sh (op ν f) p * T ≤ 64 * T := Int.mul_le_mul_of_nonneg_right a.2 h0
  show Dl ν p - Sh (op ν (fun _ => 0)) p * T ≤ Dl ν p - Sh (op ν f) p * T
  rw [e]
  omega
theorem sJ7_fill4 (x : Int32) : Wp (fJ7_fill_53178_5 x μ) (fun _ m => ∀ c, c < 4 → m.1 4 c = x) := by
  unfold fJ7_fill_53178_5
  refine wp_lp1 (fun k (l : Int32) m => ∃ i : Nat, l.toInt = (i : Int) ∧ i ≤ 4 ∧ k = 4 - i ∧ ∀ p, p < i → m.1 4 p = x) ax_FU ?_ 4 (by decide) ⟨0, rfl, by omega, rfl, fun p hp => by omega⟩
  rintro k rc hrc l m ⟨i, hl, hi, hk, hw⟩
  unfold fJ7_fill_53178_5_B5
  refine wp_if (fun c => wp_ret ?_) (fun c => ?_)
  · rw [t_le, hl] at c
    simp only [Int32.reduceToInt] at c
    intro p hp
    exact hw p (by omega)
  · rw [t_le, hl] at c
    simp only [Int32.reduceToInt] at c
    refine wp_wr i hl (by omega) (hrc (4 - (i + 1)) _ _ (by omega) ⟨i + 1, ?_, by omega, rfl, fun p hp => ?_⟩)
    · simp only [t_add, hl, Int32.reduceToInt]; omega
    · by_cases e : p = i
      · rw [e, wi_self]
      · rw [wi_other e]; exact hw p (by omega)
theorem sX4_full (h : CN μ ν) (hv : Vd ν) : Wp (fX4_periodByFullShifts μ) (fun r m => Lst (op ν (fun _ => 0)) 9999 r.toInt ∧ CN m ν ∧ ∀ i, i < 4 → m.1 4 i = μ.1 4 i) := by
  have hn := vd_nums hv
  have hv0 : Vd (op ν (fun _ => 0)) := vd_op hv (fun _ _ => by decide)
  unfold fX4_periodByFullShifts
  refine wp_cp 0 0 4 rfl rfl rfl (by omega) (by omega) (fun m1 k1 c1 _ => ?_)
  refine wp_bd (wp_mono (wp_keep (sJ7_fill4 0) (kf_J7_fill_53178_5 0 m1)) ?_)
  rintro _ m3 ⟨hz, hk3⟩
  have hm3 : CN m3 (op ν (fun _ => 0)) := CN_op h (fun a h1 h2 h3 => by rw [(hk3 a (by simp; omega)).1, k1 a (by omega)]) (fun i hi => by rw [hz i (by omega)]; rfl)
  have k48 : ∀ i, i < 4 → m3.1 48 i = μ.1 4 i := fun i hi => by
    rw [(hk3 48 (by decide)).1, c1 i, if_pos (by omega), show 0 + (i - 0) = i by omega]
  refine wp_bd (wp_mono (wp_keep (sX6_load hm3 hv0) (kf_X6_load m3)) ?_)
  rintro _ m5 ⟨⟨hm5, ht5⟩, hk5⟩
  refine wp_bd (wp_mono (sX6_firstGood hm5 hv0 ht5 1 9999 (by decide) (by decide) (by decide)) ?_)
  rintro r m7 ⟨hm7, -, -, hr, hk7⟩
  have k48b : ∀ i, i < 4 → m7.1 48 i = μ.1 4 i := fun i hi => by rw [(hk7 48 (by decide)).1, (hk5 48 (by decide)).1]; exact k48 i hi
  refine wp_cp 0 0 4 rfl rfl rfl (by omega) (by omega) (fun m8 k8 c8 _ => wp_ret ⟨?_, ?_, ?_⟩)
  · rcases hr with ⟨a, b⟩ | ⟨a, b, d, e⟩
    · exact Or.inl ⟨a, fun T h1 h2 => b T h1 h2⟩
    · exact Or.inr ⟨a, b, d, fun T h1 h2 => e T h1 h2⟩
  · have h4 : ∀ i, i < nH ν → (m8.1 4 i).toInt = ν 1 i := fun i hi => by
      rw [c8 i, if_pos (by omega), show 0 + (i - 0) = i by omega, k48b i (by omega)]
      exact (h.2.1 i hi).2.1
    have := CN_op h (m := m8) (f := ν 1) (fun a h1 h2 h3 => by
      rw [k8 a h3, (hk7 a (by simp; omega)).1, (hk5 a (by simp; omega)).1, (hk3 a (by simp; omega)).1, k1 a (by omega)]) h4
    rw [op_same] at this
    exact this
  · intro i hi
    rw [c8 i, if_pos (by omega), show 0 + (i - 0) = i by omega, k48b i hi]
theorem sX4_isGoodAt (h : CN μ ν) (hv : Vd ν) (hc : CK μ ν) (t : Int32) (h0t : 0 ≤ t.toInt) (h1t : t.toInt ≤ 9999) : Wp (fX4_isGoodAt t μ) (fun r m => CN m ν ∧ CK m ν ∧ ((r.toInt = 1 ∧ gd ν t.toInt = true ∧ TrL m ν) ∨ (r.toInt = 0 ∧ gd ν t.toInt = false))) := by
  obtain ⟨n, q, g1, g2, g3, g4⟩ := id hc
  obtain ⟨hby, hb1, hb2⟩ := sX6_beyond h hv g1 g2 g3 g4 t h0t h1t
  unfold fX4_isGoodAt
  refine wp_rdf hby (fun r e => wp_if (fun c => ?_) (fun c => wp_ret ⟨h, hc, Or.inr ⟨rfl, ?_⟩⟩))
  · refine wp_bd (wp_mono (wp_keep (sX6_load h hv) (kf_X6_load μ)) ?_)
    rintro _ m4 ⟨⟨hm4, ht4⟩, hk4⟩
    have hc4 : CK m4 ν := CK_keep hc (hk4 49 (by decide)).1 (hk4 56 (by decide)).1
    refine wp_bd (wp_mono (sX6_holdsK hm4 hv ht4 t h0t h1t) ?_)
    rintro r5 m6 ⟨hm6, ht6, hc6, hr5, -⟩
    refine wp_ret ⟨hm6, hc6 hc4, ?_⟩
    rcases hr5 with ⟨a, b⟩ | ⟨a, b, -⟩
    · rw [nar_bool (Or.inr a)]; exact Or.inl ⟨a, b, ht6⟩
    · rw [nar_bool (Or.inl a)]; exact Or.inr ⟨a, b⟩
  · rw [t_le, e] at c
    simp only [Int32.reduceToInt] at c
    cases eg : gd ν t.toInt with
    | false => rfl
    | true =>
      have := cut_ok hv g4 eg
      omega
end OPN
