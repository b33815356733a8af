/-! text, both sides -/
section TEXT
variable {m : ax_M} {ν : Nv} {H : Nat → Nv} {c : Nat} {b : Bool} {I : Nv} {T : Nat → Int} {D : Nv}
theorem wp_cp0 {α : Type} {Q : α → ax_M → Prop} {μ : ax_M} {a n0 b n1 : Nat} {nn : Int32} {f : ax_M → Option (α × ax_M)} (n : Nat) (hn : nn.toInt = (n : Nat)) (h1 : n ≤ n0) (h2 : n ≤ n1) (hf : ∀ m : ax_M, (∀ i, i ≠ b → m.1 i = μ.1 i) → (∀ k, k < n → m.1 b k = μ.1 a k) → Wp (f m) Q) : Wp (Option.bind (ax_cp μ a n0 0 b n1 0 nn) f) Q := by
  refine wp_cp 0 0 n rfl rfl hn (by omega) (by omega) (fun m k1 k2 _ => hf m k1 (fun k hk => ?_))
  rw [k2 k, if_pos (by omega)]
  show μ.1 a (0 + (k - 0)) = μ.1 a k
  rw [Nat.zero_add, Nat.sub_zero]
theorem c_takeAll (hd : CD m D) (hv : Vd D) : Wp (fX1_takeAllOf m) (fun _ m2 => CN m2 D) := by
  have hc := vd_cast hv
  have k0 := hv.1
  unfold fX1_takeAllOf
  refine wp_cp0 4 rfl (by omega) (by omega) (fun m1 k1 c1 => wp_cp0 4 rfl (by omega) (by omega) (fun m2 k2 c2 => wp_cp0 4 rfl (by omega) (by omega) (fun m3 k3 c3 => wp_cp0 10 rfl (by omega) (by omega) (fun m4 k4 c4 => wp_cp0 10 rfl (by omega) (by omega) (fun m5 k5 c5 => wp_cp0 10 rfl (by omega) (by omega) (fun m6 k6 c6 => wp_cp0 10 rfl (by omega) (by omega) (fun m7 k7 c7 => wp_cp0 10 rfl (by omega) (by omega) (fun m8 k8 c8 => wp_cp0 24 rfl (by omega) (by omega) (fun m9 k9 c9 => wp_cp0 24 rfl (by omega) (by omega) (fun m10 k10 c10 => wp_cp0 24 rfl (by omega) (by omega) (fun m11 k11 c11 => wp_cp0 24 rfl (by omega) (by omega) (fun m12 k12 c12 => wp_let (wp_let (wp_let (wp_let (wp_let (wp_let (wp_let (wp_ret ?_)))))))))))))))))))
  have e16 : m12.1 16 = m.1 16 := by rw [k12 16 (by decide), k11 16 (by decide), k10 16 (by decide), k9 16 (by decide), k8 16 (by decide), k7 16 (by decide), k6 16 (by decide), k5 16 (by decide), k4 16 (by decide), k3 16 (by decide), k2 16 (by decide), k1 16 (by decide)]
  obtain ⟨⟨a1, a2, a3, a4, a5, a6⟩, d1, d2, d3, d4, _⟩ := hd
  refine ⟨⟨?_, ?_, ?_, ?_, ?_, ?_⟩, fun i hi => ⟨?_, ?_, ?_⟩, fun i hi => ⟨?_, ?_, ?_, ?_, ?_⟩, fun i hi => ⟨?_, ?_, ?_, ?_⟩, ?_⟩
  · rw [wi_other (by decide), wi_other (by decide), wi_other (by decide), wi_other (by decide), wi_other (by decide), wi_other (by decide), wi_self, e16]; exact a1
  · rw [wi_other (by decide), wi_other (by decide), wi_other (by decide), wi_other (by decide), wi_other (by decide), wi_self, wi_ne (by decide), e16]; exact a2
  · rw [wi_other (by decide), wi_other (by decide), wi_other (by decide), wi_other (by decide), wi_self, wi_ne (by decide), wi_ne (by decide), e16]; exact a3
  · rw [wi_other (by decide), wi_other (by decide), wi_self, wi_ne (by decide), wi_ne (by decide), wi_ne (by decide), wi_ne (by decide), e16]; exact a4
  · rw [wi_other (by decide), wi_self, wi_ne (by decide), wi_ne (by decide), wi_ne (by decide), wi_ne (by decide), wi_ne (by decide), e16]; exact a5
  · rw [wi_self, wi_ne (by decide), wi_ne (by decide), wi_ne (by decide), wi_ne (by decide), wi_ne (by decide), wi_ne (by decide), e16]; exact a6
  · rw [wi_ne (by decide), wi_ne (by decide), wi_ne (by decide), wi_ne (by decide), wi_ne (by decide), wi_ne (by decide), wi_ne (by decide), k12 3 (by decide), k11 3 (by decide), k10 3 (by decide), k9 3 (by decide), k8 3 (by decide), k7 3 (by decide), k6 3 (by decide), k5 3 (by decide), k4 3 (by decide), k3 3 (by decide), k2 3 (by decide), c1 i (by omega)]; exact (d1 i hi).1
  · rw [wi_ne (by decide), wi_ne (by decide), wi_ne (by decide), wi_ne (by decide), wi_ne (by decide), wi_ne (by decide), wi_ne (by decide), k12 4 (by decide), k11 4 (by decide), k10 4 (by decide), k9 4 (by decide), k8 4 (by decide), k7 4 (by decide), k6 4 (by decide), k5 4 (by decide), k4 4 (by decide), k3 4 (by decide), c2 i (by omega), k1 18 (by decide)]; exact (d1 i hi).2.1
  · rw [wi_ne (by decide), wi_ne (by decide), wi_ne (by decide), wi_ne (by decide), wi_ne (by decide), wi_ne (by decide), wi_ne (by decide), k12 5 (by decide), k11 5 (by decide), k10 5 (by decide), k9 5 (by decide), k8 5 (by decide), k7 5 (by decide), k6 5 (by decide), k5 5 (by decide), k4 5 (by decide), c3 i (by omega), k2 19 (by decide), k1 19 (by decide)]; exact (d1 i hi).2.2
  · rw [wi_ne (by decide), wi_ne (by decide), wi_ne (by decide), wi_ne (by decide), wi_ne (by decide), wi_ne (by decide), wi_ne (by decide), k12 6 (by decide), k11 6 (by decide), k10 6 (by decide), k9 6 (by decide), k8 6 (by decide), k7 6 (by decide), k6 6 (by decide), k5 6 (by decide), c4 i (by omega), k3 20 (by decide), k2 20 (by decide), k1 20 (by decide)]; exact (d2 i hi).1
  · rw [wi_ne (by decide), wi_ne (by decide), wi_ne (by decide), wi_ne (by decide), wi_ne (by decide), wi_ne (by decide), wi_ne (by decide), k12 7 (by decide), k11 7 (by decide), k10 7 (by decide), k9 7 (by decide), k8 7 (by decide), k7 7 (by decide), k6 7 (by decide), c5 i (by omega), k4 21 (by decide), k3 21 (by decide), k2 21 (by decide), k1 21 (by decide)]; exact (d2 i hi).2.1
  · rw [wi_ne (by decide), wi_ne (by decide), wi_ne (by decide), wi_ne (by decide), wi_ne (by decide), wi_ne (by decide), wi_ne (by decide), k12 8 (by decide), k11 8 (by decide), k10 8 (by decide), k9 8 (by decide), k8 8 (by decide), k7 8 (by decide), c6 i (by omega), k5 22 (by decide), k4 22 (by decide), k3 22 (by decide), k2 22 (by decide), k1 22 (by decide)]; exact (d2 i hi).2.2.1
  · rw [wi_ne (by decide), wi_ne (by decide), wi_ne (by decide), wi_ne (by decide), wi_ne (by decide), wi_ne (by decide), wi_ne (by decide), k12 9 (by decide), k11 9 (by decide), k10 9 (by decide), k9 9 (by decide), k8 9 (by decide), c7 i (by omega), k6 23 (by decide), k5 23 (by decide), k4 23 (by decide), k3 23 (by decide), k2 23 (by decide), k1 23 (by decide)]; exact (d2 i hi).2.2.2.1
  · rw [wi_ne (by decide), wi_ne (by decide), wi_ne (by decide), wi_ne (by decide), wi_ne (by decide), wi_ne (by decide), wi_ne (by decide), k12 10 (by decide), k11 10 (by decide), k10 10 (by decide), k9 10 (by decide), c8 i (by omega), k7 24 (by decide), k6 24 (by decide), k5 24 (by decide), k4 24 (by decide), k3 24 (by decide), k2 24 (by decide), k1 24 (by decide)]; exact (d2 i hi).2.2.2.2
  · rw [wi_ne (by decide), wi_ne (by decide), wi_ne (by decide), wi_ne (by decide), wi_ne (by decide), wi_ne (by decide), wi_ne (by decide), k12 11 (by decide), k11 11 (by decide), k10 11 (by decide), c9 i (by omega), k8 25 (by decide), k7 25 (by decide), k6 25 (by decide), k5 25 (by decide), k4 25 (by decide), k3 25 (by decide), k2 25 (by decide), k1 25 (by decide)]; exact (d3 i hi).1
  · rw [wi_ne (by decide), wi_ne (by decide), wi_ne (by decide), wi_ne (by decide), wi_ne (by decide), wi_ne (by decide), wi_ne (by decide), k12 12 (by decide), k11 12 (by decide), c10 i (by omega), k9 26 (by decide), k8 26 (by decide), k7 26 (by decide), k6 26 (by decide), k5 26 (by decide), k4 26 (by decide), k3 26 (by decide), k2 26 (by decide), k1 26 (by decide)]; exact (d3 i hi).2.1
  · rw [wi_ne (by decide), wi_ne (by decide), wi_ne (by decide), wi_ne (by decide), wi_ne (by decide), wi_ne (by decide), wi_ne (by decide), k12 13 (by decide), c11 i (by omega), k10 27 (by decide), k9 27 (by decide), k8 27 (by decide), k7 27 (by decide), k6 27 (by decide), k5 27 (by decide), k4 27 (by decide), k3 27 (by decide), k2 27 (by decide), k1 27 (by decide)]; exact (d3 i hi).2.2.1
  · rw [wi_ne (by decide), wi_ne (by decide), wi_ne (by decide), wi_ne (by decide), wi_ne (by decide), wi_ne (by decide), wi_ne (by decide), c12 i (by omega), k11 28 (by decide), k10 28 (by decide), k9 28 (by decide), k8 28 (by decide), k7 28 (by decide), k6 28 (by decide), k5 28 (by decide), k4 28 (by decide), k3 28 (by decide), k2 28 (by decide), k1 28 (by decide)]; exact (d3 i hi).2.2.2
  · rw [wi_other (by decide), wi_other (by decide), wi_other (by decide), wi_self, wi_ne (by decide), wi_ne (by decide), wi_ne (by decide), e16]; exact d4
theorem CS_keep {m2 : ax_M} (h : CS m ν H c b I) (h1 : ∀ a, 2 ≤ a → a < 15 → m2.1 a = m.1 a) (h2 : ∀ a, 29 ≤ a → a ≤ 45 → m2.1 a = m.1 a ∧ m2.2 a = m.2 a) : CS m2 ν H c b I :=
  ⟨CN_keep h.1 (fun a x y => h1 a y x), TIn_keep h.2.1 (h2 32 (by omega) (by omega)).1 (h2 33 (by omega) (by omega)).1 (h2 35 (by omega) (by omega)).1 (h2 36 (by omega) (by omega)).1, LIn_keep h.2.2.1 (h2 41 (by omega) (by omega)).1 (h2 45 (by omega) (by omega)).1 (h2 41 (by omega) (by omega)).2, CPI_keep h.2.2.2 (h2 29 (by omega) (by omega)).1 (h2 30 (by omega) (by omega)).1 (h2 31 (by omega) (by omega)).1⟩
/-- a text read -/
def TxA (m2 : ax_M) (S : ax_M → Nv → Nat → Bool → Prop) (ν : Nv) (c : Nat) (b : Bool) (f p : Nat × Nat) (r : Int) : Except (Int × Int) (Nv × Nat) → Prop
  | .ok x => r = (x.2 : Int) ∧ S m2 x.1 0 false ∧ (m2.1 f.1 f.2).toInt = 0 ∧ (m2.1 p.1 p.2).toInt = -1
  | .error e => r = -1 ∧ S m2 ν c b ∧ (m2.1 f.1 f.2).toInt = e.1 ∧ (m2.1 p.1 p.2).toInt = e.2
theorem c_text (hs : CS m ν H c b I) (hT : Tp T) (h1 : ∀ i, i < 700 → (m.1 1 i).toInt = T i) (N : Nat) (hN : (m.1 0 1).toInt = (N : Int)) (hN7 : N ≤ 700) (p : Int32) : Wp (fX8_text p m) (fun r m2 => (¬ (0 ≤ p.toInt ∧ p.toInt ≤ (N : Int)) → r.toInt = -2 ∧ m2 = m) ∧ ∀ n : Nat, p.toInt = (n : Int) → n ≤ N → (m2.1 0 1).toInt = 0 ∧ TxA m2 (fun μ x y z => CS μ x H y z I) ν c b (15, 2) (15, 3) r.toInt (tx T n (n + 1) D0 0 0)) := by
  unfold fX8_text fX8_text_K12
  refine wp_if (fun c1 => wp_ret ⟨fun _ => ⟨rfl, rfl⟩, fun n hn _ => ?_⟩) (fun c1 => wp_if (fun c2 => ?_) (fun c2 => wp_ret ⟨fun _ => ⟨rfl, rfl⟩, fun n hn hn2 => ?_⟩))
  · have c1 : p.toInt < 0 := t_lt.mp c1
    omega
  · have c1 : ¬ p.toInt < 0 := fun g => c1 (t_lt.mpr g)
    have c2 : p.toInt ≤ (m.1 0 1).toInt := t_le.mp c2
    obtain ⟨n, hn⟩ : ∃ n : Nat, p.toInt = (n : Int) := ⟨p.toInt.toNat, by omega⟩
    refine wp_let (wp_bd (wp_mono (wp_keep (c_read (T := T) (n := n) hT (fun i hi => by rw [wi_ne (by decide)]; exact h1 i hi) hn (by omega)) (kf_X3_read _ _)) ?_))
    rintro v m3 ⟨w1, w2⟩
    have ke : ∀ a, a < 15 ∨ 28 < a → m3.1 a = (ax_wi m 0 1 0).1 a ∧ m3.2 a = m.2 a := fun a ha => w2 a (by simp; omega)
    have kc : ∀ a, a < 15 ∨ 28 < a → a ≠ 0 → m3.1 a = m.1 a := fun a ha h0 => by rw [(ke a ha).1, wi_ne h0]
    have k01 : (m3.1 0 1).toInt = 0 := by rw [(ke 0 (by omega)).1, wi_self]; rfl
    have un : ∀ n2 : Nat, p.toInt = (n2 : Int) → n2 = n := fun n2 h2 => by omega
    cases htx : tx T n (n + 1) D0 0 0 with
    | error e =>
      rw [htx] at w1
      obtain ⟨v0, e2, e3⟩ : v.toInt = 0 ∧ (m3.1 15 2).toInt = e.1 ∧ (m3.1 15 3).toInt = e.2 := w1
      rw [if_pos (q0.mpr v0)]
      refine wp_ret ⟨fun g => absurd ⟨by omega, by omega⟩ g, fun n2 h2 _ => ?_⟩
      rw [un n2 h2, htx]
      exact ⟨k01, rfl, CS_keep hs (fun a x y => kc a (by omega) (by omega)) (fun a x y => ⟨kc a (by omega) (by omega), (ke a (by omega)).2⟩), e2, e3⟩
    | ok x =>
      rw [htx] at w1
      obtain ⟨v1, e2, e3, e1, ed⟩ : v.toInt = 1 ∧ (m3.1 15 2).toInt = 0 ∧ (m3.1 15 3).toInt = -1 ∧ (m3.1 15 1).toInt = (x.2 : Int) ∧ CD m3 x.1 := w1
      rw [if_neg (fun g => by have := q0.mp g; omega)]
      refine wp_bd (wp_mono (wp_keep (c_takeAll ed (vd_tx (D2 := x.1) (l2 := x.2) vd_D0 htx)) (kf_X1_takeAllOf _)) ?_)
      rintro _ m5 ⟨w5, w6⟩
      have k5 : ∀ a, a < 2 ∨ 14 < a → m5.1 a = m3.1 a := fun a ha => (w6 a (by simp; omega)).1
      unfold fX2_forgetAll
      refine wp_bd (wp_let (wp_ret (wp_let (wp_bd (wp_mono (sX8_forgetAnswers (μ := ax_wi (ax_wi m5 29 3 0) 29 4 0)) ?_)))))
      rintro _ m10 ⟨g1, g2, g3⟩
      have ka : ∀ a, a ≠ 29 → a ≠ 32 → a ≠ 41 → m10.1 a = m5.1 a := fun a h1 h2 h3 => by rw [g3 a h2 h3, wi_ne h1, wi_ne h1]
      have k15 : ∀ j, m10.1 15 j = m3.1 15 j := fun j => by rw [ka 15 (by decide) (by decide) (by decide), k5 15 (by omega)]
      refine wp_ret ⟨fun g => absurd ⟨by omega, by omega⟩ g, fun n2 h2 _ => ?_⟩
      rw [un n2 h2, htx]
      refine ⟨?_, ?_, ?_, ?_, ?_⟩
      · rw [ka 0 (by decide) (by decide) (by decide), k5 0 (by omega)]; exact k01
      · rw [k15]; exact e1
      · refine cs_new (CN_keep w5 (fun a x y => ka a (by omega) (by omega) (by omega))) ?_ g1 g2
        obtain ⟨nxt, y1, y2, y3, y4, y5⟩ := hs.2.2.2
        refine ⟨nxt, y1, ?_, ?_, ?_, fun j hj => by omega, fun hb => by cases hb⟩
        · rw [g3 29 (by decide) (by decide), wi_other (by decide), wi_other (by decide), k5 29 (by omega), kc 29 (by omega) (by decide)]; exact y2
        · rw [g3 29 (by decide) (by decide), wi_other (by decide), wi_self]; rfl
        · rw [g3 29 (by decide) (by decide), wi_self]; rfl
      · rw [k15]; exact e2
      · rw [k15]; exact e3
  · have c2 : ¬ p.toInt ≤ (m.1 0 1).toInt := fun g => c2 (t_le.mpr g)
    omega
theorem RN_Ln {m2 : ax_M} (h : RN m ν) (hv : Vd ν) (hk : Ln m2 m) : RN m2 ν := by
  have hc := vd_cast hv
  have k0 := hv.1
  obtain ⟨⟨c1, c2, c3, c4, c5, c6⟩, d1, d2, d3⟩ := h
  refine ⟨⟨?_, ?_, ?_, ?_, ?_, ?_⟩, fun i hi => ?_, fun i hi => ?_, fun i hi => ?_⟩
  · rw [hk 59 1 (by unfold Uh; omega) (by decide)]; exact c1
  · rw [hk 59 2 (by unfold Uh; omega) (by decide)]; exact c2
  · rw [hk 59 3 (by unfold Uh; omega) (by decide)]; exact c3
  · rw [hk 74 0 (by unfold Uh; omega) (by decide)]; exact c4
  · rw [hk 74 67 (by unfold Uh; omega) (by decide)]; exact c5
  · rw [hk 59 4 (by unfold Uh; omega) (by decide)]; exact c6
  · rw [hk 61 i (by unfold Uh; omega) (by decide), hk 74 (1 + i) (by unfold Uh; omega) (by decide), hk 74 (5 + i) (by unfold Uh; omega) (by decide)]
    exact d1 i hi
  · rw [hk 64 i (by unfold Uh; omega) (by decide), hk 65 i (by unfold Uh; omega) (by decide), hk 66 i (by unfold Uh; omega) (by decide), hk 67 i (by unfold Uh; omega) (by decide), hk 68 i (by unfold Uh; omega) (by decide), hk 74 (9 + i) (by unfold Uh; omega) (by decide)]
    exact d2 i hi
  · rw [hk 70 i (by unfold Uh; omega) (by decide), hk 71 i (by unfold Uh; omega) (by decide), hk 74 (19 + i) (by unfold Uh; omega) (by decide), hk 74 (43 + i) (by unfold Uh; omega) (by decide)]
    exact d3 i hi
theorem r_readText (hT : Tp T) (h1 : ∀ i, i < 700 → (m.1 58 i).toInt = T i) (n : Nat) (hn : n ≤ 700) {p : Int32} (hp : p.toInt = (n : Int)) : Wp (fX9_readText p m) (fun _ m2 => RR m2 (tx T n (n + 1) D0 0 0) ∧ Ln m2 m) := by
  unfold fX9_readText
  refine wp_let (wp_let (wp_let (wp_let (wp_bd (wp_mono r_fresh ?_)))))
  rintro _ m6 ⟨f1, f2, f3⟩
  have k57 : ∀ j, m6.1 57 j = (ax_wi (ax_wi (ax_wi (ax_wi m 57 19 p) 57 20 0) 57 24 0) 57 18 0).1 57 j := fun j => by rw [f1 57 (by decide) (by decide)]
  have hR : RT m6 T n := by
    refine ⟨fun i hi => ?_, ?_, hn⟩
    · rw [f1 58 (by decide) (by decide), wi_ne (by decide), wi_ne (by decide), wi_ne (by decide), wi_ne (by decide)]; exact h1 i hi
    · rw [k57, wi_other (by decide), wi_other (by decide), wi_other (by decide), wi_self]; exact hp
  refine wp_bd (wp_mono (wp_keq (wp_FR (sX9_token hR hT 0 (by rw [k57, wi_other (by decide), wi_other (by decide), wi_self]; rfl) (by omega)) (kf_X9_token _) (kw_X9_token _) (by decide)) (kw_X9_token _)) ?_)
  rintro _ m8 ⟨⟨w1, w2⟩, w3⟩
  refine wp_mono (r_loop (m := m8) ⟨RT_FR hR w2, ?_, w1⟩ hT hn (RD_keep f3 (DK_FR w2)) vd_D0 ?_) ?_
  · rw [w3 57 24 (by decide) (by decide), k57, wi_other (by decide), wi_self]; rfl
  · rw [w2.2 18 (by omega), k57, wi_self]; rfl
  rintro _ m9 ⟨y1, y2⟩
  refine ⟨y1, fun x j hn h57 => ?_⟩
  rw [y2 x j hn h57, w2.1 x h57]
  by_cases e9 : x = 59
  · rw [e9, f2 j (by unfold Uh at hn; omega), wi_ne (by decide), wi_ne (by decide), wi_ne (by decide), wi_ne (by decide)]
  · rw [f1 x e9 (by unfold Uh at hn; omega), wi_ne h57, wi_ne h57, wi_ne h57, wi_ne h57]
theorem r_text (hs : RS m ν H c b I) (hv : Vd ν) (hT : Tp T) (h1 : ∀ i, i < 700 → (m.1 58 i).toInt = T i) (N : Nat) (hN : (m.1 57 2).toInt = (N : Int)) (hN7 : N ≤ 700) (p : Int32) : Wp (fX9_text p m) (fun r m2 => (¬ (0 ≤ p.toInt ∧ p.toInt ≤ (N : Int)) → r.toInt = -2 ∧ m2 = ax_wi m 57 0 0) ∧ ∀ n : Nat, p.toInt = (n : Int) → n ≤ N → (m2.1 57 2).toInt = 0 ∧ TxA m2 (fun μ x y z => RS μ x H y z I) ν c b (57, 26) (57, 27) r.toInt (tx T n (n + 1) D0 0 0)) := by
  have hs1 := RS_z hs
  unfold fX9_text fX9_text_K17
  refine wp_let (wp_if (fun c1 => wp_ret ⟨fun _ => ⟨rfl, rfl⟩, fun n hn _ => ?_⟩) (fun c1 => wp_if (fun c2 => ?_) (fun c2 => wp_ret ⟨fun _ => ⟨rfl, rfl⟩, fun n hn hn2 => ?_⟩)))
  · have c1 : p.toInt < 0 := t_lt.mp c1
    omega
  · have c1 : ¬ p.toInt < 0 := fun g => c1 (t_lt.mpr g)
    have c2 : p.toInt ≤ ((ax_wi m 57 0 0).1 57 2).toInt := t_le.mp c2
    rw [wi_other (by decide), hN] at c2
    obtain ⟨n, hn⟩ : ∃ n : Nat, p.toInt = (n : Int) := ⟨p.toInt.toNat, by omega⟩
    generalize hm1 : ax_wi m 57 0 0 = m1 at hs1
    refine wp_bd (wp_mono (wp_keq (wp_keep (r_readText (T := T) hT (fun i hi => by rw [← hm1, wi_ne (by decide)]; exact h1 i hi) n (by omega) hn) (kf_X9_readText _ _)) (kw_X9_readText _ _)) ?_)
    rintro _ m3 ⟨⟨⟨w1, w2⟩, w3⟩, w4⟩
    have hRN : RN m3 ν := RN_Ln hs1.1 hv w2
    have hRP : RPI m3 H c b I := RPI_keep hs1.2 (w4 57 30 (by decide) (by decide)) (w4 57 31 (by decide) (by decide)) (w3 75 (by decide)).1
    have un : ∀ n2 : Nat, p.toInt = (n2 : Int) → n2 = n := fun n2 h2 => by omega
    refine wp_let (wp_let ?_)
    have q24 : (ax_wi (ax_wi m3 57 2 0) 57 26 ((ax_wi m3 57 2 0).1 57 24)).1 57 24 = m3.1 57 24 := by rw [wi_other (by decide), wi_other (by decide)]
    have q25 : (ax_wi (ax_wi m3 57 2 0) 57 26 ((ax_wi m3 57 2 0).1 57 24)).1 57 25 = m3.1 57 25 := by rw [wi_other (by decide), wi_other (by decide)]
    cases htx : tx T n (n + 1) D0 0 0 with
    | error e =>
      rw [htx] at w1
      obtain ⟨e1, e2, e3⟩ : (m3.1 57 24).toInt = e.1 ∧ e.1 ≠ 0 ∧ (m3.1 57 25).toInt = e.2 := w1
      have hne : ¬ m3.1 57 24 = 0 := fun g => by have := q0.mp g; omega
      rw [q24, q25, if_neg hne]
      unfold fX9_text_K54
      refine wp_let ?_
      rw [wi_other (by decide), q24, if_neg hne]
      refine wp_ret ⟨fun g => absurd ⟨by omega, by omega⟩ g, fun n2 h2 _ => ?_⟩
      rw [un n2 h2, htx]
      refine ⟨?_, rfl, ⟨RN_wi57 (RN_wi57 (RN_wi57 hRN)), RPI_keep hRP ?_ ?_ ?_⟩, ?_, ?_⟩
      · rw [wi_other (by decide), wi_other (by decide), wi_self]; rfl
      · rw [wi_other (by decide), wi_other (by decide), wi_other (by decide)]
      · rw [wi_other (by decide), wi_other (by decide), wi_other (by decide)]
      · rw [wi_ne (by decide), wi_ne (by decide), wi_ne (by decide)]
      · show ((ax_wi _ 57 27 _).1 57 26).toInt = _
        rw [wi_other (by decide), wi_self, wi_other (by decide)]; exact e1
      · show ((ax_wi _ 57 27 _).1 57 27).toInt = _
        rw [wi_self]; exact e3
    | ok x =>
      rw [htx] at w1
      obtain ⟨e1, e2, e3⟩ : (m3.1 57 24).toInt = 0 ∧ (m3.1 57 18).toInt = (x.2 : Int) ∧ RD m3 x.1 := w1
      have hz : m3.1 57 24 = 0 := q0.mpr e1
      have hvx := vd_tx (D2 := x.1) (l2 := x.2) vd_D0 htx
      rw [q24, if_pos hz]
      unfold fX9_text_K54
      refine wp_let ?_
      rw [wi_other (by decide), q24, if_pos hz]
      refine wp_bd (wp_mono (wp_keep r_take (kf_X9_takeText _)) ?_)
      rintro _ m8 ⟨y1, y2⟩
      refine wp_bd (wp_mono (wp_keep (r_begins (RD_keep e3 ?_) hvx y1) (kf_X9_begins _)) ?_)
      · intro a j ha
        rw [wi_ne (by unfold Dr at ha; omega), wi_ne (by unfold Dr at ha; omega), wi_ne (by unfold Dr at ha; omega)]
      rintro _ m10 ⟨y3, y4⟩
      have k57 : ∀ j, m10.1 57 j = (ax_wi (ax_wi (ax_wi m3 57 2 0) 57 26 ((ax_wi m3 57 2 0).1 57 24)) 57 27 (-1)).1 57 j := fun j => by rw [(y4 57 (by decide)).1, (y2 57 (by decide)).1]
      refine wp_let (wp_let (wp_ret ⟨fun g => absurd ⟨by omega, by omega⟩ g, fun n2 h2 _ => ?_⟩))
      rw [un n2 h2, htx]
      refine ⟨?_, ?_, ⟨RN_wi57 (RN_wi57 y3), ?_, ?_, fun j hj => by omega, fun hb => by cases hb⟩, ?_, ?_⟩
      · rw [wi_other (by decide), wi_other (by decide), k57, wi_other (by decide), wi_other (by decide), wi_self]; rfl
      · rw [wi_other (by decide), wi_other (by decide), k57, wi_other (by decide), wi_other (by decide), wi_other (by decide)]; exact e2
      · rw [wi_other (by decide), wi_self]; rfl
      · rw [wi_self]; rfl
      · show ((ax_wi _ 57 31 _).1 57 26).toInt = _
        rw [wi_other (by decide), wi_other (by decide), k57, wi_other (by decide), wi_self, wi_other (by decide)]; exact e1
      · show ((ax_wi _ 57 31 _).1 57 27).toInt = _
        rw [wi_other (by decide), wi_other (by decide), k57, wi_self]; rfl
  · have c2 : ¬ p.toInt ≤ ((ax_wi m 57 0 0).1 57 2).toInt := fun g => c2 (t_le.mpr g)
    rw [wi_other (by decide), hN] at c2
    omega
end TEXT
