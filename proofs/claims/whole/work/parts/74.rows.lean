/-! what is kept: rows of what can change -/
/-- the same but for what calls can change -/
def St (ν ν2 : Nv) : Prop := (∀ b, b ≠ 3 → b ≠ 4 → ν 0 b = ν2 0 b) ∧ ∀ a b, a ≠ 0 → a ≠ 1 → a ≠ 2 → a ≠ 9 → a ≠ 10 → a ≠ 11 → ν a b = ν2 a b
theorem st_nums {ν ν2 : Nv} (h : St ν ν2) : nH ν2 = nH ν ∧ nC ν2 = nC ν ∧ nP ν2 = nP ν := by
  unfold nH nC nP
  rw [h.1 0 (by omega) (by omega), h.1 1 (by omega) (by omega), h.1 2 (by omega) (by omega)]
  exact ⟨rfl, rfl, rfl⟩
theorem st_refl (ν : Nv) : St ν ν := ⟨fun _ _ _ => rfl, fun _ _ _ _ _ _ _ _ => rfl⟩
theorem st_trans {a b c : Nv} (h : St a b) (h2 : St b c) : St a c := ⟨fun x h3 h4 => (h.1 x h3 h4).trans (h2.1 x h3 h4), fun x y h3 h4 h5 h6 h7 h8 => (h.2 x y h3 h4 h5 h6 h7 h8).trans (h2.2 x y h3 h4 h5 h6 h7 h8)⟩
theorem st_symm {a b : Nv} (h : St a b) : St b a := ⟨fun x h3 h4 => (h.1 x h3 h4).symm, fun x y h3 h4 h5 h6 h7 h8 => (h.2 x y h3 h4 h5 h6 h7 h8).symm⟩
/-- a row of the class holds what a net has -/
def HR (m : ax_M) (c b : Nat) (ν : Nv) : Prop := (m.1 c b).toInt = ν 0 3 ∧ (m.1 c (b + 1)).toInt = ν 0 4 ∧ (m.1 c (b + 2)).toInt = (bt (Fb ν) (nC ν) : Nat) ∧ (∀ i, i < nH ν → (m.1 c (b + 3 + i)).toInt = ν 1 i ∧ (m.1 c (b + 7 + i)).toInt = ν 2 i) ∧ ∀ p, p < nP ν → (m.1 c (b + 11 + p)).toInt = ν 9 p ∧ (m.1 c (b + 35 + p)).toInt = ν 10 p
theorem HR_keep {m m2 : ax_M} {c b : Nat} {ν : Nv} (hv : Vd ν) (h : HR m c b ν) (hk : ∀ x, b ≤ x → x < b + 59 → m2.1 c x = m.1 c x) : HR m2 c b ν := by
  have hn := vd_nums hv
  obtain ⟨a1, a2, a3, a4, a5⟩ := h
  refine ⟨by rw [hk b (by omega) (by omega)]; exact a1, by rw [hk _ (by omega) (by omega)]; exact a2, by rw [hk _ (by omega) (by omega)]; exact a3, fun i hi => ?_, fun p hp => ?_⟩
  · rw [hk _ (by omega) (by omega), hk _ (by omega) (by omega)]; exact a4 i hi
  · rw [hk _ (by omega) (by omega), hk _ (by omega) (by omega)]; exact a5 p hp
section PST
variable {μ : ax_M} {ν : Nv}
theorem sX1_writeTo (h : CN μ ν) (hv : Vd ν) (p : Int32) (b : Nat) (hp : p.toInt = (b : Int)) (hb : b + 59 ≤ 1180) : Wp (fX1_writeTo p μ) (fun _ m => HR m 30 b ν ∧ (∀ a, a ≠ 30 → m.1 a = μ.1 a) ∧ ∀ x, (x < b ∨ b + 59 ≤ x) → m.1 30 x = μ.1 30 x) := by
  have hn := vd_nums hv
  obtain ⟨⟨c0, c1, c2, c3, c4, c5⟩, hH, hC, hP, hF⟩ := h
  unfold fX1_writeTo
  have i1 : (p + 1).toInt = ((b + 1 : Nat) : Int) := by rw [t_add, hp, show Int32.toInt 1 = 1 from rfl]; omega
  have i2 : (p + 2).toInt = ((b + 2 : Nat) : Int) := by rw [t_add, hp, show Int32.toInt 2 = 2 from rfl]; omega
  have i3 : (p + 3).toInt = ((b + 3 : Nat) : Int) := by rw [t_add, hp, show Int32.toInt 3 = 3 from rfl]; omega
  have i7 : (p + 3 + 4).toInt = ((b + 7 : Nat) : Int) := by rw [t_add, i3, show Int32.toInt 4 = 4 from rfl]; omega
  have i11 : (p + 3 + 8).toInt = ((b + 11 : Nat) : Int) := by rw [t_add, i3, show Int32.toInt 8 = 8 from rfl]; omega
  have i35 : (p + 3 + 8 + 24).toInt = ((b + 35 : Nat) : Int) := by rw [t_add, i11, show Int32.toInt 24 = 24 from rfl]; omega
  refine wp_wr b hp (by omega) (wp_wr (b + 1) i1 (by omega) (wp_wr (b + 2) i2 (by omega) (wp_let ?_)))
  rw [wi_ne (show 2 ≠ 30 by omega), wi_ne (show 2 ≠ 30 by omega), wi_ne (show 2 ≠ 30 by omega)]
  have k3 : ∀ a, a ≠ 30 → (ax_wi (ax_wi (ax_wi μ 30 b (μ.1 2 16)) 30 (b + 1) (μ.1 2 17)) 30 (b + 2) (μ.1 2 15)).1 a = μ.1 a := fun a ha => by rw [wi_ne ha, wi_ne ha, wi_ne ha]
  have r0 : (ax_wi (ax_wi (ax_wi μ 30 b (μ.1 2 16)) 30 (b + 1) (μ.1 2 17)) 30 (b + 2) (μ.1 2 15)).1 30 b = μ.1 2 16 := by rw [wi_other (by omega), wi_other (by omega), wi_self]
  have r1 : (ax_wi (ax_wi (ax_wi μ 30 b (μ.1 2 16)) 30 (b + 1) (μ.1 2 17)) 30 (b + 2) (μ.1 2 15)).1 30 (b + 1) = μ.1 2 17 := by rw [wi_other (by omega), wi_self]
  have r2 : (ax_wi (ax_wi (ax_wi μ 30 b (μ.1 2 16)) 30 (b + 1) (μ.1 2 17)) 30 (b + 2) (μ.1 2 15)).1 30 (b + 2) = μ.1 2 15 := wi_self
  have rx : ∀ x, (x < b ∨ b + 3 ≤ x) → (ax_wi (ax_wi (ax_wi μ 30 b (μ.1 2 16)) 30 (b + 1) (μ.1 2 17)) 30 (b + 2) (μ.1 2 15)).1 30 x = μ.1 30 x := fun x hx => by rw [wi_other (by omega), wi_other (by omega), wi_other (by omega)]
  generalize ax_wi (ax_wi (ax_wi μ 30 b (μ.1 2 16)) 30 (b + 1) (μ.1 2 17)) 30 (b + 2) (μ.1 2 15) = m3 at k3 r0 r1 r2 rx ⊢
  refine wp_cp 0 (b + 3) 4 rfl i3 rfl (by omega) (by omega) (fun m5 k5 w5 _ => wp_cp 0 (b + 7) 4 rfl i7 rfl (by omega) (by omega) (fun m6 k6 w6 _ => wp_cp 0 (b + 11) 24 rfl i11 rfl (by omega) (by omega) (fun m7 k7 w7 _ => wp_cp 0 (b + 35) 24 rfl i35 rfl (by omega) (by omega) (fun m8 k8 w8 _ => wp_ret ⟨⟨?_, ?_, ?_, fun i hi => ⟨?_, ?_⟩, fun q hq => ⟨?_, ?_⟩⟩, fun a ha => ?_, fun x hx => ?_⟩))))
  · rw [w8, if_neg (by omega), w7, if_neg (by omega), w6, if_neg (by omega), w5, if_neg (by omega), r0]; exact c3
  · rw [w8, if_neg (by omega), w7, if_neg (by omega), w6, if_neg (by omega), w5, if_neg (by omega), r1]; exact c4
  · rw [w8, if_neg (by omega), w7, if_neg (by omega), w6, if_neg (by omega), w5, if_neg (by omega), r2]; exact hF
  · rw [w8, if_neg (by omega), w7, if_neg (by omega), w6, if_neg (by omega), w5, if_pos (by omega), k3 4 (by omega), show 0 + (b + 3 + i - (b + 3)) = i by omega]; exact (hH i hi).2.1
  · rw [w8, if_neg (by omega), w7, if_neg (by omega), w6, if_pos (by omega), k5 5 (by omega), k3 5 (by omega), show 0 + (b + 7 + i - (b + 7)) = i by omega]; exact (hH i hi).2.2
  · rw [w8, if_neg (by omega), w7, if_pos (by omega), k6 13 (by omega), k5 13 (by omega), k3 13 (by omega), show 0 + (b + 11 + q - (b + 11)) = q by omega]; exact (hP q hq).2.2.1
  · rw [w8, if_pos (by omega), k7 14 (by omega), k6 14 (by omega), k5 14 (by omega), k3 14 (by omega), show 0 + (b + 35 + q - (b + 35)) = q by omega]; exact (hP q hq).2.2.2
  · rw [k8 a ha, k7 a ha, k6 a ha, k5 a ha, k3 a ha]
  · rw [w8, if_neg (by omega), w7, if_neg (by omega), w6, if_neg (by omega), w5, if_neg (by omega), rx x (by omega)]
theorem sX1_readFrom {ν2 : Nv} (h : CN μ ν) (hs : St ν ν2) (hv : Vd ν2) (p : Int32) (b : Nat) (hp : p.toInt = (b : Int)) (hb : b + 59 ≤ 1180) (hr : HR μ 30 b ν2) : Wp (fX1_readFrom p μ) (fun _ m => CN m ν2) := by
  have hn := vd_nums hv
  obtain ⟨n1, n2, n3⟩ := st_nums hs
  obtain ⟨⟨c0, c1, c2, c3, c4, c5⟩, hH, hC, hP, hF⟩ := h
  obtain ⟨a1, a2, a3, a4, a5⟩ := hr
  unfold fX1_readFrom
  have i1 : (p + 1).toInt = ((b + 1 : Nat) : Int) := by rw [t_add, hp, show Int32.toInt 1 = 1 from rfl]; omega
  have i2 : (p + 2).toInt = ((b + 2 : Nat) : Int) := by rw [t_add, hp, show Int32.toInt 2 = 2 from rfl]; omega
  have i3 : (p + 3).toInt = ((b + 3 : Nat) : Int) := by rw [t_add, hp, show Int32.toInt 3 = 3 from rfl]; omega
  have i7 : (p + 3 + 4).toInt = ((b + 7 : Nat) : Int) := by rw [t_add, i3, show Int32.toInt 4 = 4 from rfl]; omega
  have i11 : (p + 3 + 8).toInt = ((b + 11 : Nat) : Int) := by rw [t_add, i3, show Int32.toInt 8 = 8 from rfl]; omega
  have i35 : (p + 3 + 8 + 24).toInt = ((b + 35 : Nat) : Int) := by rw [t_add, i11, show Int32.toInt 24 = 24 from rfl]; omega
  refine wp_rd b hp (by omega) (wp_let (wp_rd (b + 1) i1 (by omega) (wp_let (wp_rd (b + 2) i2 (by omega) (wp_let (wp_let ?_))))))
  rw [show (ax_wi μ 2 16 (μ.1 30 b)).1 30 = μ.1 30 from wi_ne (by omega), show (ax_wi (ax_wi μ 2 16 (μ.1 30 b)) 2 17 (μ.1 30 (b + 1))).1 30 = μ.1 30 by rw [wi_ne (by omega), wi_ne (by omega)]]
  have k6 : ∀ a, a ≠ 2 → (ax_wi (ax_wi (ax_wi μ 2 16 (μ.1 30 b)) 2 17 (μ.1 30 (b + 1))) 2 15 (μ.1 30 (b + 2))).1 a = μ.1 a := fun a ha => by rw [wi_ne ha, wi_ne ha, wi_ne ha]
  have f16 : (ax_wi (ax_wi (ax_wi μ 2 16 (μ.1 30 b)) 2 17 (μ.1 30 (b + 1))) 2 15 (μ.1 30 (b + 2))).1 2 16 = μ.1 30 b := by rw [wi_other (by omega), wi_other (by omega), wi_self]
  have f17 : (ax_wi (ax_wi (ax_wi μ 2 16 (μ.1 30 b)) 2 17 (μ.1 30 (b + 1))) 2 15 (μ.1 30 (b + 2))).1 2 17 = μ.1 30 (b + 1) := by rw [wi_other (by omega), wi_self]
  have f15 : (ax_wi (ax_wi (ax_wi μ 2 16 (μ.1 30 b)) 2 17 (μ.1 30 (b + 1))) 2 15 (μ.1 30 (b + 2))).1 2 15 = μ.1 30 (b + 2) := wi_self
  have fx : ∀ j, j ≠ 15 → j ≠ 16 → j ≠ 17 → (ax_wi (ax_wi (ax_wi μ 2 16 (μ.1 30 b)) 2 17 (μ.1 30 (b + 1))) 2 15 (μ.1 30 (b + 2))).1 2 j = μ.1 2 j := fun j h1 h2 h3 => by rw [wi_other h1, wi_other h3, wi_other h2]
  generalize ax_wi (ax_wi (ax_wi μ 2 16 (μ.1 30 b)) 2 17 (μ.1 30 (b + 1))) 2 15 (μ.1 30 (b + 2)) = m6 at k6 f16 f17 f15 fx ⊢
  refine wp_cp (b + 3) 0 4 i3 rfl rfl (by omega) (by omega) (fun m8 k8 w8 _ => wp_cp (b + 7) 0 4 i7 rfl rfl (by omega) (by omega) (fun m9 k9 w9 _ => wp_cp (b + 11) 0 24 i11 rfl rfl (by omega) (by omega) (fun m10 k10 w10 _ => wp_cp (b + 35) 0 24 i35 rfl rfl (by omega) (by omega) (fun m11 k11 w11 _ => wp_ret ⟨⟨?_, ?_, ?_, ?_, ?_, ?_⟩, fun i hi => ⟨?_, ?_, ?_⟩, fun c hc => ?_, fun q hq => ⟨?_, ?_, ?_, ?_⟩, ?_⟩))))
  · rw [k11 2 (by omega), k10 2 (by omega), k9 2 (by omega), k8 2 (by omega), fx 12 (by omega) (by omega) (by omega), ← hs.1 0 (by omega) (by omega)]; exact c0
  · rw [k11 2 (by omega), k10 2 (by omega), k9 2 (by omega), k8 2 (by omega), fx 13 (by omega) (by omega) (by omega), ← hs.1 1 (by omega) (by omega)]; exact c1
  · rw [k11 2 (by omega), k10 2 (by omega), k9 2 (by omega), k8 2 (by omega), fx 14 (by omega) (by omega) (by omega), ← hs.1 2 (by omega) (by omega)]; exact c2
  · rw [k11 2 (by omega), k10 2 (by omega), k9 2 (by omega), k8 2 (by omega), f16]; exact a1
  · rw [k11 2 (by omega), k10 2 (by omega), k9 2 (by omega), k8 2 (by omega), f17]; exact a2
  · rw [k11 2 (by omega), k10 2 (by omega), k9 2 (by omega), k8 2 (by omega), fx 18 (by omega) (by omega) (by omega), ← hs.1 5 (by omega) (by omega)]; exact c5
  · rw [k11 3 (by omega), k10 3 (by omega), k9 3 (by omega), k8 3 (by omega), k6 3 (by omega), ← hs.2 12 i (by omega) (by omega) (by omega) (by omega) (by omega) (by omega)]; exact (hH i (by omega)).1
  · rw [k11 4 (by omega), k10 4 (by omega), k9 4 (by omega), w8, if_pos (by omega), k6 30 (by omega), show b + 3 + (i - 0) = b + 3 + i by omega]; exact (a4 i hi).1
  · rw [k11 5 (by omega), k10 5 (by omega), w9, if_pos (by omega), k8 30 (by omega), k6 30 (by omega), show b + 7 + (i - 0) = b + 7 + i by omega]; exact (a4 i hi).2
  · have g : ∀ a, a ≠ 2 → a ≠ 4 → a ≠ 5 → a ≠ 13 → a ≠ 14 → m11.1 a = μ.1 a := fun a h1 h2 h3 h4 h5 => by rw [k11 a h5, k10 a h4, k9 a h3, k8 a h2, k6 a h1]
    rw [g 6 (by omega) (by omega) (by omega) (by omega) (by omega), g 7 (by omega) (by omega) (by omega) (by omega) (by omega), g 8 (by omega) (by omega) (by omega) (by omega) (by omega), g 9 (by omega) (by omega) (by omega) (by omega) (by omega), g 10 (by omega) (by omega) (by omega) (by omega) (by omega), ← hs.2 13 c (by omega) (by omega) (by omega) (by omega) (by omega) (by omega), ← hs.2 3 c (by omega) (by omega) (by omega) (by omega) (by omega) (by omega), ← hs.2 4 c (by omega) (by omega) (by omega) (by omega) (by omega) (by omega), ← hs.2 5 c (by omega) (by omega) (by omega) (by omega) (by omega) (by omega), ← hs.2 6 c (by omega) (by omega) (by omega) (by omega) (by omega) (by omega)]
    exact hC c (by omega)
  · rw [k11 11 (by omega), k10 11 (by omega), k9 11 (by omega), k8 11 (by omega), k6 11 (by omega), ← hs.2 7 q (by omega) (by omega) (by omega) (by omega) (by omega) (by omega)]; exact (hP q (by omega)).1
  · rw [k11 12 (by omega), k10 12 (by omega), k9 12 (by omega), k8 12 (by omega), k6 12 (by omega), ← hs.2 8 q (by omega) (by omega) (by omega) (by omega) (by omega) (by omega)]; exact (hP q (by omega)).2.1
  · rw [k11 13 (by omega), w10, if_pos (by omega), k9 30 (by omega), k8 30 (by omega), k6 30 (by omega), show b + 11 + (q - 0) = b + 11 + q by omega]; exact (a5 q hq).1
  · rw [w11, if_pos (by omega), k10 30 (by omega), k9 30 (by omega), k8 30 (by omega), k6 30 (by omega), show b + 35 + (q - 0) = b + 35 + q by omega]; exact (a5 q hq).2
  · rw [k11 2 (by omega), k10 2 (by omega), k9 2 (by omega), k8 2 (by omega), f15]; exact a3
theorem sX1_writeTo_1 (h : CN μ ν) (hv : Vd ν) (p : Int32) (b : Nat) (hp : p.toInt = (b : Int)) (hb : b + 59 ≤ 59) : Wp (fX1_writeTo_1 p μ) (fun _ m => HR m 31 b ν ∧ (∀ a, a ≠ 31 → m.1 a = μ.1 a) ∧ ∀ x, (x < b ∨ b + 59 ≤ x) → m.1 31 x = μ.1 31 x) := by
  have hn := vd_nums hv
  obtain ⟨⟨c0, c1, c2, c3, c4, c5⟩, hH, hC, hP, hF⟩ := h
  unfold fX1_writeTo_1
  have i1 : (p + 1).toInt = ((b + 1 : Nat) : Int) := by rw [t_add, hp, show Int32.toInt 1 = 1 from rfl]; omega
  have i2 : (p + 2).toInt = ((b + 2 : Nat) : Int) := by rw [t_add, hp, show Int32.toInt 2 = 2 from rfl]; omega
  have i3 : (p + 3).toInt = ((b + 3 : Nat) : Int) := by rw [t_add, hp, show Int32.toInt 3 = 3 from rfl]; omega
  have i7 : (p + 3 + 4).toInt = ((b + 7 : Nat) : Int) := by rw [t_add, i3, show Int32.toInt 4 = 4 from rfl]; omega
  have i11 : (p + 3 + 8).toInt = ((b + 11 : Nat) : Int) := by rw [t_add, i3, show Int32.toInt 8 = 8 from rfl]; omega
  have i35 : (p + 3 + 8 + 24).toInt = ((b + 35 : Nat) : Int) := by rw [t_add, i11, show Int32.toInt 24 = 24 from rfl]; omega
  refine wp_wr b hp (by omega) (wp_wr (b + 1) i1 (by omega) (wp_wr (b + 2) i2 (by omega) (wp_let ?_)))
  rw [wi_ne (show 2 ≠ 31 by omega), wi_ne (show 2 ≠ 31 by omega), wi_ne (show 2 ≠ 31 by omega)]
  have k3 : ∀ a, a ≠ 31 → (ax_wi (ax_wi (ax_wi μ 31 b (μ.1 2 16)) 31 (b + 1) (μ.1 2 17)) 31 (b + 2) (μ.1 2 15)).1 a = μ.1 a := fun a ha => by rw [wi_ne ha, wi_ne ha, wi_ne ha]
  have r0 : (ax_wi (ax_wi (ax_wi μ 31 b (μ.1 2 16)) 31 (b + 1) (μ.1 2 17)) 31 (b + 2) (μ.1 2 15)).1 31 b = μ.1 2 16 := by rw [wi_other (by omega), wi_other (by omega), wi_self]
  have r1 : (ax_wi (ax_wi (ax_wi μ 31 b (μ.1 2 16)) 31 (b + 1) (μ.1 2 17)) 31 (b + 2) (μ.1 2 15)).1 31 (b + 1) = μ.1 2 17 := by rw [wi_other (by omega), wi_self]
  have r2 : (ax_wi (ax_wi (ax_wi μ 31 b (μ.1 2 16)) 31 (b + 1) (μ.1 2 17)) 31 (b + 2) (μ.1 2 15)).1 31 (b + 2) = μ.1 2 15 := wi_self
  have rx : ∀ x, (x < b ∨ b + 3 ≤ x) → (ax_wi (ax_wi (ax_wi μ 31 b (μ.1 2 16)) 31 (b + 1) (μ.1 2 17)) 31 (b + 2) (μ.1 2 15)).1 31 x = μ.1 31 x := fun x hx => by rw [wi_other (by omega), wi_other (by omega), wi_other (by omega)]
  generalize ax_wi (ax_wi (ax_wi μ 31 b (μ.1 2 16)) 31 (b + 1) (μ.1 2 17)) 31 (b + 2) (μ.1 2 15) = m3 at k3 r0 r1 r2 rx ⊢
  refine wp_cp 0 (b + 3) 4 rfl i3 rfl (by omega) (by omega) (fun m5 k5 w5 _ => wp_cp 0 (b + 7) 4 rfl i7 rfl (by omega) (by omega) (fun m6 k6 w6 _ => wp_cp 0 (b + 11) 24 rfl i11 rfl (by omega) (by omega) (fun m7 k7 w7 _ => wp_cp 0 (b + 35) 24 rfl i35 rfl (by omega) (by omega) (fun m8 k8 w8 _ => wp_ret ⟨⟨?_, ?_, ?_, fun i hi => ⟨?_, ?_⟩, fun q hq => ⟨?_, ?_⟩⟩, fun a ha => ?_, fun x hx => ?_⟩))))
  · rw [w8, if_neg (by omega), w7, if_neg (by omega), w6, if_neg (by omega), w5, if_neg (by omega), r0]; exact c3
  · rw [w8, if_neg (by omega), w7, if_neg (by omega), w6, if_neg (by omega), w5, if_neg (by omega), r1]; exact c4
  · rw [w8, if_neg (by omega), w7, if_neg (by omega), w6, if_neg (by omega), w5, if_neg (by omega), r2]; exact hF
  · rw [w8, if_neg (by omega), w7, if_neg (by omega), w6, if_neg (by omega), w5, if_pos (by omega), k3 4 (by omega), show 0 + (b + 3 + i - (b + 3)) = i by omega]; exact (hH i hi).2.1
  · rw [w8, if_neg (by omega), w7, if_neg (by omega), w6, if_pos (by omega), k5 5 (by omega), k3 5 (by omega), show 0 + (b + 7 + i - (b + 7)) = i by omega]; exact (hH i hi).2.2
  · rw [w8, if_neg (by omega), w7, if_pos (by omega), k6 13 (by omega), k5 13 (by omega), k3 13 (by omega), show 0 + (b + 11 + q - (b + 11)) = q by omega]; exact (hP q hq).2.2.1
  · rw [w8, if_pos (by omega), k7 14 (by omega), k6 14 (by omega), k5 14 (by omega), k3 14 (by omega), show 0 + (b + 35 + q - (b + 35)) = q by omega]; exact (hP q hq).2.2.2
  · rw [k8 a ha, k7 a ha, k6 a ha, k5 a ha, k3 a ha]
  · rw [w8, if_neg (by omega), w7, if_neg (by omega), w6, if_neg (by omega), w5, if_neg (by omega), rx x (by omega)]
theorem sX1_readFrom_1 {ν2 : Nv} (h : CN μ ν) (hs : St ν ν2) (hv : Vd ν2) (p : Int32) (b : Nat) (hp : p.toInt = (b : Int)) (hb : b + 59 ≤ 59) (hr : HR μ 31 b ν2) : Wp (fX1_readFrom_1 p μ) (fun _ m => CN m ν2) := by
  have hn := vd_nums hv
  obtain ⟨n1, n2, n3⟩ := st_nums hs
  obtain ⟨⟨c0, c1, c2, c3, c4, c5⟩, hH, hC, hP, hF⟩ := h
  obtain ⟨a1, a2, a3, a4, a5⟩ := hr
  unfold fX1_readFrom_1
  have i1 : (p + 1).toInt = ((b + 1 : Nat) : Int) := by rw [t_add, hp, show Int32.toInt 1 = 1 from rfl]; omega
  have i2 : (p + 2).toInt = ((b + 2 : Nat) : Int) := by rw [t_add, hp, show Int32.toInt 2 = 2 from rfl]; omega
  have i3 : (p + 3).toInt = ((b + 3 : Nat) : Int) := by rw [t_add, hp, show Int32.toInt 3 = 3 from rfl]; omega
  have i7 : (p + 3 + 4).toInt = ((b + 7 : Nat) : Int) := by rw [t_add, i3, show Int32.toInt 4 = 4 from rfl]; omega
  have i11 : (p + 3 + 8).toInt = ((b + 11 : Nat) : Int) := by rw [t_add, i3, show Int32.toInt 8 = 8 from rfl]; omega
  have i35 : (p + 3 + 8 + 24).toInt = ((b + 35 : Nat) : Int) := by rw [t_add, i11, show Int32.toInt 24 = 24 from rfl]; omega
  refine wp_rd b hp (by omega) (wp_let (wp_rd (b + 1) i1 (by omega) (wp_let (wp_rd (b + 2) i2 (by omega) (wp_let (wp_let ?_))))))
  rw [show (ax_wi μ 2 16 (μ.1 31 b)).1 31 = μ.1 31 from wi_ne (by omega), show (ax_wi (ax_wi μ 2 16 (μ.1 31 b)) 2 17 (μ.1 31 (b + 1))).1 31 = μ.1 31 by rw [wi_ne (by omega), wi_ne (by omega)]]
  have k6 : ∀ a, a ≠ 2 → (ax_wi (ax_wi (ax_wi μ 2 16 (μ.1 31 b)) 2 17 (μ.1 31 (b + 1))) 2 15 (μ.1 31 (b + 2))).1 a = μ.1 a := fun a ha => by rw [wi_ne ha, wi_ne ha, wi_ne ha]
  have f16 : (ax_wi (ax_wi (ax_wi μ 2 16 (μ.1 31 b)) 2 17 (μ.1 31 (b + 1))) 2 15 (μ.1 31 (b + 2))).1 2 16 = μ.1 31 b := by rw [wi_other (by omega), wi_other (by omega), wi_self]
  have f17 : (ax_wi (ax_wi (ax_wi μ 2 16 (μ.1 31 b)) 2 17 (μ.1 31 (b + 1))) 2 15 (μ.1 31 (b + 2))).1 2 17 = μ.1 31 (b + 1) := by rw [wi_other (by omega), wi_self]
  have f15 : (ax_wi (ax_wi (ax_wi μ 2 16 (μ.1 31 b)) 2 17 (μ.1 31 (b + 1))) 2 15 (μ.1 31 (b + 2))).1 2 15 = μ.1 31 (b + 2) := wi_self
  have fx : ∀ j, j ≠ 15 → j ≠ 16 → j ≠ 17 → (ax_wi (ax_wi (ax_wi μ 2 16 (μ.1 31 b)) 2 17 (μ.1 31 (b + 1))) 2 15 (μ.1 31 (b + 2))).1 2 j = μ.1 2 j := fun j h1 h2 h3 => by rw [wi_other h1, wi_other h3, wi_other h2]
  generalize ax_wi (ax_wi (ax_wi μ 2 16 (μ.1 31 b)) 2 17 (μ.1 31 (b + 1))) 2 15 (μ.1 31 (b + 2)) = m6 at k6 f16 f17 f15 fx ⊢
  refine wp_cp (b + 3) 0 4 i3 rfl rfl (by omega) (by omega) (fun m8 k8 w8 _ => wp_cp (b + 7) 0 4 i7 rfl rfl (by omega) (by omega) (fun m9 k9 w9 _ => wp_cp (b + 11) 0 24 i11 rfl rfl (by omega) (by omega) (fun m10 k10 w10 _ => wp_cp (b + 35) 0 24 i35 rfl rfl (by omega) (by omega) (fun m11 k11 w11 _ => wp_ret ⟨⟨?_, ?_, ?_, ?_, ?_, ?_⟩, fun i hi => ⟨?_, ?_, ?_⟩, fun c hc => ?_, fun q hq => ⟨?_, ?_, ?_, ?_⟩, ?_⟩))))
  · rw [k11 2 (by omega), k10 2 (by omega), k9 2 (by omega), k8 2 (by omega), fx 12 (by omega) (by omega) (by omega), ← hs.1 0 (by omega) (by omega)]; exact c0
  · rw [k11 2 (by omega), k10 2 (by omega), k9 2 (by omega), k8 2 (by omega), fx 13 (by omega) (by omega) (by omega), ← hs.1 1 (by omega) (by omega)]; exact c1
  · rw [k11 2 (by omega), k10 2 (by omega), k9 2 (by omega), k8 2 (by omega), fx 14 (by omega) (by omega) (by omega), ← hs.1 2 (by omega) (by omega)]; exact c2
  · rw [k11 2 (by omega), k10 2 (by omega), k9 2 (by omega), k8 2 (by omega), f16]; exact a1
  · rw [k11 2 (by omega), k10 2 (by omega), k9 2 (by omega), k8 2 (by omega), f17]; exact a2
  · rw [k11 2 (by omega), k10 2 (by omega), k9 2 (by omega), k8 2 (by omega), fx 18 (by omega) (by omega) (by omega), ← hs.1 5 (by omega) (by omega)]; exact c5
  · rw [k11 3 (by omega), k10 3 (by omega), k9 3 (by omega), k8 3 (by omega), k6 3 (by omega), ← hs.2 12 i (by omega) (by omega) (by omega) (by omega) (by omega) (by omega)]; exact (hH i (by omega)).1
  · rw [k11 4 (by omega), k10 4 (by omega), k9 4 (by omega), w8, if_pos (by omega), k6 31 (by omega), show b + 3 + (i - 0) = b + 3 + i by omega]; exact (a4 i hi).1
  · rw [k11 5 (by omega), k10 5 (by omega), w9, if_pos (by omega), k8 31 (by omega), k6 31 (by omega), show b + 7 + (i - 0) = b + 7 + i by omega]; exact (a4 i hi).2
  · have g : ∀ a, a ≠ 2 → a ≠ 4 → a ≠ 5 → a ≠ 13 → a ≠ 14 → m11.1 a = μ.1 a := fun a h1 h2 h3 h4 h5 => by rw [k11 a h5, k10 a h4, k9 a h3, k8 a h2, k6 a h1]
    rw [g 6 (by omega) (by omega) (by omega) (by omega) (by omega), g 7 (by omega) (by omega) (by omega) (by omega) (by omega), g 8 (by omega) (by omega) (by omega) (by omega) (by omega), g 9 (by omega) (by omega) (by omega) (by omega) (by omega), g 10 (by omega) (by omega) (by omega) (by omega) (by omega), ← hs.2 13 c (by omega) (by omega) (by omega) (by omega) (by omega) (by omega), ← hs.2 3 c (by omega) (by omega) (by omega) (by omega) (by omega) (by omega), ← hs.2 4 c (by omega) (by omega) (by omega) (by omega) (by omega) (by omega), ← hs.2 5 c (by omega) (by omega) (by omega) (by omega) (by omega) (by omega), ← hs.2 6 c (by omega) (by omega) (by omega) (by omega) (by omega) (by omega)]
    exact hC c (by omega)
  · rw [k11 11 (by omega), k10 11 (by omega), k9 11 (by omega), k8 11 (by omega), k6 11 (by omega), ← hs.2 7 q (by omega) (by omega) (by omega) (by omega) (by omega) (by omega)]; exact (hP q (by omega)).1
  · rw [k11 12 (by omega), k10 12 (by omega), k9 12 (by omega), k8 12 (by omega), k6 12 (by omega), ← hs.2 8 q (by omega) (by omega) (by omega) (by omega) (by omega) (by omega)]; exact (hP q (by omega)).2.1
  · rw [k11 13 (by omega), w10, if_pos (by omega), k9 31 (by omega), k8 31 (by omega), k6 31 (by omega), show b + 11 + (q - 0) = b + 11 + q by omega]; exact (a5 q hq).1
  · rw [w11, if_pos (by omega), k10 31 (by omega), k9 31 (by omega), k8 31 (by omega), k6 31 (by omega), show b + 35 + (q - 0) = b + 35 + q by omega]; exact (a5 q hq).2
  · rw [k11 2 (by omega), k10 2 (by omega), k9 2 (by omega), k8 2 (by omega), f15]; exact a3
end PST
