/-! the words of the language -/
def wcl : List Nat := [112, 101, 114, 105, 111, 100, 32, 112, 104, 97, 115, 101, 32, 108, 97, 116, 99, 104, 32, 102, 108, 111, 112, 32, 112, 97, 116, 104, 32, 115, 107, 101, 119, 32, 115, 101, 101, 100, 32]
def wc (k : Nat) : Nat := wcl.getD k 0
def wst (w : Nat) : Nat := [0, 7, 13, 19, 24, 29, 34, 39].getD w 39
def wln (w : Nat) : Nat := [6, 5, 5, 4, 4, 4, 4].getD w 0
def WV (w : Nat) : Int := [542713316, 545311904, 404360448, 214417408, 538583040, 649255936, 642945024].getD w 0
def cAv (i : Int32) : Option Int32 := if i < 0 then none else if i < 39 then Option.bind (ax_bt i) (fun v => some (vp_nar .char (vp_nar .char ((v &&& 255).toUInt32 % 65536).toInt32))) else none
theorem cA_eq (i : Int32) (μ : ax_M) : fJ0_cA i μ = Option.bind (cAv i) (fun v => some (v, μ)) := by
  unfold fJ0_cA fJ0_il fJ1_ca fJ0_ci fJ3_ci cAv
  by_cases h1 : i < 0
  · simp only [if_pos h1]; rfl
  · by_cases h2 : i < 39
    · simp only [if_neg h1, if_pos h2]
      cases ax_bt i <;> rfl
    · simp only [if_neg h1, if_neg h2]; rfl
theorem cA_tab : ∀ k, k < 39 → cAv (Int32.ofNat k) = some (Int32.ofNat (wc k)) := by decide +kernel
theorem cA_ok {μ : ax_M} {i : Int32} {k : Nat} (hi : i.toInt = (k : Int)) (hk : k < 39) : fJ0_cA i μ = some (Int32.ofNat (wc k), μ) := by
  rw [cA_eq, i_nat hi, cA_tab k hk]
  rfl
theorem len_ok (μ : ax_M) : fJ0_len μ = some (39, μ) := by
  unfold fJ0_len fJ0_cd
  show some ((39 : Int32) >>> (vp_nar .byte 0 &&& 31), μ) = _
  rw [show ((39 : Int32) >>> (vp_nar .byte 0 &&& 31)) = 39 by decide +kernel]
theorem wc_lt : ∀ k, k < 39 → wc k < 128 := by decide +kernel
theorem w_facts : ∀ w, w < 7 → wst w + wln w < 39 ∧ wc (wst w + wln w) = 32 ∧ wst (w + 1) = wst w + wln w + 1 ∧ wln w ≤ 6 ∧ 1 ≤ wln w := by decide +kernel
theorem w_sp : ∀ w, w < 7 → ∀ i, i < 6 → i < wln w → wc (wst w + i) ≠ 32 := by decide +kernel
def mtc (T : Nat → Int) (pl e : Nat) (w : Nat) : Prop := e - pl = wln w ∧ ∀ i, i < wln w → T (pl + i) = (wc (wst w + i) : Nat)
/-- what is like a word has its number -/
theorem wv_iff {T : Nat → Int} {pl e : Nat} (hl : ∀ i, pl ≤ i → i < e → Ltr (T i)) (he : pl < e) (w : Nat) (hw : w < 7) : mtc T pl e w ↔ (e - pl ≤ 6 ∧ pk6 T pl (e - pl) = WV w) := by
  have hl2 : ∀ k, pl ≤ k → k < pl + (e - pl) → Ltr (T k) := fun k h1 h2 => hl k h1 (by omega)
  have b0 := gl_bd hl2 0
  have b1 := gl_bd hl2 1
  have b2 := gl_bd hl2 2
  have b3 := gl_bd hl2 3
  have b4 := gl_bd hl2 4
  have b5 := gl_bd hl2 5
  have gp : ∀ j, j < e - pl → gl T pl (e - pl) j = T (pl + j) - 96 ∧ 1 ≤ gl T pl (e - pl) j := fun j hj => by
    have := hl2 (pl + j) (by omega) (by omega)
    unfold Ltr at this
    unfold gl
    rw [if_pos hj]
    omega
  have gz : ∀ j, ¬ j < e - pl → gl T pl (e - pl) j = 0 := fun j hj => by unfold gl; rw [if_neg hj]
  -- a word's digits
  have key : ∀ (d0 d1 d2 d3 d4 d5 : Int) (L : Nat), 0 ≤ d0 → d0 ≤ 31 → 0 ≤ d1 → d1 ≤ 31 → 0 ≤ d2 → d2 ≤ 31 → 0 ≤ d3 → d3 ≤ 31 → 0 ≤ d4 → d4 ≤ 31 → 0 ≤ d5 → d5 ≤ 31 → (pk6 T pl (e - pl) = d0 * 33554432 + d1 * 1048576 + d2 * 32768 + d3 * 1024 + d4 * 32 + d5 ↔ gl T pl (e - pl) 0 = d0 ∧ gl T pl (e - pl) 1 = d1 ∧ gl T pl (e - pl) 2 = d2 ∧ gl T pl (e - pl) 3 = d3 ∧ gl T pl (e - pl) 4 = d4 ∧ gl T pl (e - pl) 5 = d5) := by
    intro d0 d1 d2 d3 d4 d5 L a0 c0 a1 c1 a2 c2 a3 c3 a4 c4 a5 c5
    unfold pk6
    omega
  have g0 := gp 0
  have g1 := gp 1
  have g2 := gp 2
  have g3 := gp 3
  have g4 := gp 4
  have g5 := gp 5
  have z0 := gz 0
  have z1 := gz 1
  have z2 := gz 2
  have z3 := gz 3
  have z4 := gz 4
  have z5 := gz 5
  have hw' : w = 0 ∨ w = 1 ∨ w = 2 ∨ w = 3 ∨ w = 4 ∨ w = 5 ∨ w = 6 := by omega
  unfold mtc
  rcases hw' with rfl | rfl | rfl | rfl | rfl | rfl | rfl
  · rw [show WV 0 = 16 * 33554432 + 5 * 1048576 + 18 * 32768 + 9 * 1024 + 15 * 32 + 4 from rfl, key 16 5 18 9 15 4 6 (by omega) (by omega) (by omega) (by omega) (by omega) (by omega) (by omega) (by omega) (by omega) (by omega) (by omega) (by omega)]
    constructor
    · rintro ⟨h1, h2⟩
      have h1 : e - pl = 6 := h1
      have t0 : T (pl + 0) = 112 := h2 0 (by decide)
      have t1 : T (pl + 1) = 101 := h2 1 (by decide)
      have t2 : T (pl + 2) = 114 := h2 2 (by decide)
      have t3 : T (pl + 3) = 105 := h2 3 (by decide)
      have t4 : T (pl + 4) = 111 := h2 4 (by decide)
      have t5 : T (pl + 5) = 100 := h2 5 (by decide)
      omega
    · rintro ⟨h1, h2⟩
      have hL : e - pl = 6 := by omega
      refine ⟨hL, fun i hi => ?_⟩
      have hi : i < 6 := hi
      have hi' : i = 0 ∨ i = 1 ∨ i = 2 ∨ i = 3 ∨ i = 4 ∨ i = 5 := by omega
      rcases hi' with rfl | rfl | rfl | rfl | rfl | rfl
      · show T (pl + 0) = 112; omega
      · show T (pl + 1) = 101; omega
      · show T (pl + 2) = 114; omega
      · show T (pl + 3) = 105; omega
      · show T (pl + 4) = 111; omega
      · show T (pl + 5) = 100; omega
  · rw [show WV 1 = 16 * 33554432 + 8 * 1048576 + 1 * 32768 + 19 * 1024 + 5 * 32 + 0 from rfl, key 16 8 1 19 5 0 5 (by omega) (by omega) (by omega) (by omega) (by omega) (by omega) (by omega) (by omega) (by omega) (by omega) (by omega) (by omega)]
    constructor
    · rintro ⟨h1, h2⟩
      have h1 : e - pl = 5 := h1
      have t0 : T (pl + 0) = 112 := h2 0 (by decide)
      have t1 : T (pl + 1) = 104 := h2 1 (by decide)
      have t2 : T (pl + 2) = 97 := h2 2 (by decide)
      have t3 : T (pl + 3) = 115 := h2 3 (by decide)
      have t4 : T (pl + 4) = 101 := h2 4 (by decide)
      omega
    · rintro ⟨h1, h2⟩
      have hL : e - pl = 5 := by omega
      refine ⟨hL, fun i hi => ?_⟩
      have hi : i < 5 := hi
      have hi' : i = 0 ∨ i = 1 ∨ i = 2 ∨ i = 3 ∨ i = 4 := by omega
      rcases hi' with rfl | rfl | rfl | rfl | rfl
      · show T (pl + 0) = 112; omega
      · show T (pl + 1) = 104; omega
      · show T (pl + 2) = 97; omega
      · show T (pl + 3) = 115; omega
      · show T (pl + 4) = 101; omega
  · rw [show WV 2 = 12 * 33554432 + 1 * 1048576 + 20 * 32768 + 3 * 1024 + 8 * 32 + 0 from rfl, key 12 1 20 3 8 0 5 (by omega) (by omega) (by omega) (by omega) (by omega) (by omega) (by omega) (by omega) (by omega) (by omega) (by omega) (by omega)]
    constructor
    · rintro ⟨h1, h2⟩
      have h1 : e - pl = 5 := h1
      have t0 : T (pl + 0) = 108 := h2 0 (by decide)
      have t1 : T (pl + 1) = 97 := h2 1 (by decide)
      have t2 : T (pl + 2) = 116 := h2 2 (by decide)
      have t3 : T (pl + 3) = 99 := h2 3 (by decide)
      have t4 : T (pl + 4) = 104 := h2 4 (by decide)
      omega
    · rintro ⟨h1, h2⟩
      have hL : e - pl = 5 := by omega
      refine ⟨hL, fun i hi => ?_⟩
      have hi : i < 5 := hi
      have hi' : i = 0 ∨ i = 1 ∨ i = 2 ∨ i = 3 ∨ i = 4 := by omega
      rcases hi' with rfl | rfl | rfl | rfl | rfl
      · show T (pl + 0) = 108; omega
      · show T (pl + 1) = 97; omega
      · show T (pl + 2) = 116; omega
      · show T (pl + 3) = 99; omega
      · show T (pl + 4) = 104; omega
  · rw [show WV 3 = 6 * 33554432 + 12 * 1048576 + 15 * 32768 + 16 * 1024 + 0 * 32 + 0 from rfl, key 6 12 15 16 0 0 4 (by omega) (by omega) (by omega) (by omega) (by omega) (by omega) (by omega) (by omega) (by omega) (by omega) (by omega) (by omega)]
    constructor
    · rintro ⟨h1, h2⟩
      have h1 : e - pl = 4 := h1
      have t0 : T (pl + 0) = 102 := h2 0 (by decide)
      have t1 : T (pl + 1) = 108 := h2 1 (by decide)
      have t2 : T (pl + 2) = 111 := h2 2 (by decide)
      have t3 : T (pl + 3) = 112 := h2 3 (by decide)
      omega
    · rintro ⟨h1, h2⟩
      have hL : e - pl = 4 := by omega
      refine ⟨hL, fun i hi => ?_⟩
      have hi : i < 4 := hi
      have hi' : i = 0 ∨ i = 1 ∨ i = 2 ∨ i = 3 := by omega
      rcases hi' with rfl | rfl | rfl | rfl
      · show T (pl + 0) = 102; omega
      · show T (pl + 1) = 108; omega
      · show T (pl + 2) = 111; omega
      · show T (pl + 3) = 112; omega
  · rw [show WV 4 = 16 * 33554432 + 1 * 1048576 + 20 * 32768 + 8 * 1024 + 0 * 32 + 0 from rfl, key 16 1 20 8 0 0 4 (by omega) (by omega) (by omega) (by omega) (by omega) (by omega) (by omega) (by omega) (by omega) (by omega) (by omega) (by omega)]
    constructor
    · rintro ⟨h1, h2⟩
      have h1 : e - pl = 4 := h1
      have t0 : T (pl + 0) = 112 := h2 0 (by decide)
      have t1 : T (pl + 1) = 97 := h2 1 (by decide)
      have t2 : T (pl + 2) = 116 := h2 2 (by decide)
      have t3 : T (pl + 3) = 104 := h2 3 (by decide)
      omega
    · rintro ⟨h1, h2⟩
      have hL : e - pl = 4 := by omega
      refine ⟨hL, fun i hi => ?_⟩
      have hi : i < 4 := hi
      have hi' : i = 0 ∨ i = 1 ∨ i = 2 ∨ i = 3 := by omega
      rcases hi' with rfl | rfl | rfl | rfl
      · show T (pl + 0) = 112; omega
      · show T (pl + 1) = 97; omega
      · show T (pl + 2) = 116; omega
      · show T (pl + 3) = 104; omega
  · rw [show WV 5 = 19 * 33554432 + 11 * 1048576 + 5 * 32768 + 23 * 1024 + 0 * 32 + 0 from rfl, key 19 11 5 23 0 0 4 (by omega) (by omega) (by omega) (by omega) (by omega) (by omega) (by omega) (by omega) (by omega) (by omega) (by omega) (by omega)]
    constructor
    · rintro ⟨h1, h2⟩
      have h1 : e - pl = 4 := h1
      have t0 : T (pl + 0) = 115 := h2 0 (by decide)
      have t1 : T (pl + 1) = 107 := h2 1 (by decide)
      have t2 : T (pl + 2) = 101 := h2 2 (by decide)
      have t3 : T (pl + 3) = 119 := h2 3 (by decide)
      omega
    · rintro ⟨h1, h2⟩
      have hL : e - pl = 4 := by omega
      refine ⟨hL, fun i hi => ?_⟩
      have hi : i < 4 := hi
      have hi' : i = 0 ∨ i = 1 ∨ i = 2 ∨ i = 3 := by omega
      rcases hi' with rfl | rfl | rfl | rfl
      · show T (pl + 0) = 115; omega
      · show T (pl + 1) = 107; omega
      · show T (pl + 2) = 101; omega
      · show T (pl + 3) = 119; omega
  · rw [show WV 6 = 19 * 33554432 + 5 * 1048576 + 5 * 32768 + 4 * 1024 + 0 * 32 + 0 from rfl, key 19 5 5 4 0 0 4 (by omega) (by omega) (by omega) (by omega) (by omega) (by omega) (by omega) (by omega) (by omega) (by omega) (by omega) (by omega)]
    constructor
    · rintro ⟨h1, h2⟩
      have h1 : e - pl = 4 := h1
      have t0 : T (pl + 0) = 115 := h2 0 (by decide)
      have t1 : T (pl + 1) = 101 := h2 1 (by decide)
      have t2 : T (pl + 2) = 101 := h2 2 (by decide)
      have t3 : T (pl + 3) = 100 := h2 3 (by decide)
      omega
    · rintro ⟨h1, h2⟩
      have hL : e - pl = 4 := by omega
      refine ⟨hL, fun i hi => ?_⟩
      have hi : i < 4 := hi
      have hi' : i = 0 ∨ i = 1 ∨ i = 2 ∨ i = 3 := by omega
      rcases hi' with rfl | rfl | rfl | rfl
      · show T (pl + 0) = 115; omega
      · show T (pl + 1) = 101; omega
      · show T (pl + 2) = 101; omega
      · show T (pl + 3) = 100; omega
def RT (m : ax_M) (T : Nat → Int) (n : Nat) : Prop := (∀ i, i < 700 → (m.1 58 i).toInt = T i) ∧ (m.1 57 19).toInt = (n : Int) ∧ n ≤ 700
section WRD
variable {μ : ax_M} {T : Nat → Int} {n : Nat}
theorem sX9_wordHere (h : RT μ T n) (pl e : Nat) (h21 : (μ.1 57 21).toInt = (pl : Int)) (h20 : (μ.1 57 20).toInt = (e : Int)) (hpe : pl ≤ e) (hen : e ≤ n) : Wp (fX9_wordHere μ) (fun r m => m = μ ∧ ((r.toInt = -1 ∧ ∀ w, w < 7 → ¬ mtc T pl e w) ∨ ∃ w : Nat, w < 7 ∧ r.toInt = (w : Int) ∧ mtc T pl e w)) := by
  have hn := h.2.2
  unfold fX9_wordHere
  refine wp_lp2 (fun k (l1 l2 : Int32) m => m = μ ∧ ∃ w : Nat, w ≤ 7 ∧ k = 7 - w ∧ l1.toInt = (w : Int) ∧ l2.toInt = (wst w : Int) ∧ ∀ x, x < w → ¬ mtc T pl e x) ax_FU ?_ 7 (by decide) ⟨rfl, 0, by omega, rfl, rfl, rfl, fun x hx => by omega⟩
  rintro k rc hrc l1 l2 m ⟨rfl, w, hw, hk, hl1, hl2, hno⟩
  unfold fX9_wordHere_B4
  rw [len_ok]
  refine wp_bd (wp_ret (wp_if (fun c => wp_ret ⟨rfl, Or.inl ⟨rfl, ?_⟩⟩) (fun c => ?_)))
  · rw [t_le, hl2, show Int32.toInt 39 = 39 from rfl] at c
    by_cases e7 : w = 7
    · rw [e7] at hno; exact hno
    · have := (w_facts w (by omega)).1
      omega
  · rw [t_le, hl2, show Int32.toInt 39 = 39 from rfl] at c
    have hw7 : w < 7 := by
      by_cases e7 : w = 7
      · rw [e7] at c; exact absurd (by decide) c
      · omega
    obtain ⟨f1, f2, f3, f4, f5⟩ := w_facts w hw7
    -- to the next word
    have skip : ¬ mtc T pl e w → Wp (ax_lp1 (fX9_wordHere_B97 l1 rc) ax_FU l2 m) (fun r m_1 => m_1 = m ∧ ((r.toInt = -1 ∧ ∀ w, w < 7 → ¬ mtc T pl e w) ∨ ∃ w : Nat, w < 7 ∧ r.toInt = (w : Int) ∧ mtc T pl e w)) := by
      intro hnm
      refine wp_lp1 (fun j (l : Int32) m2 => m2 = m ∧ ∃ i : Nat, i ≤ wln w ∧ j = wln w - i ∧ l.toInt = ((wst w + i : Nat) : Int)) ax_FU ?_ (wln w) (by unfold ax_FU; omega) ⟨rfl, 0, by omega, rfl, hl2⟩
      rintro j rc2 hrc2 l m2 ⟨rfl, i, hi, hj, hl⟩
      unfold fX9_wordHere_B97
      rw [cA_ok hl (by omega)]
      have hb := wc_lt (wst w + i) (by omega)
      refine wp_bd (wp_ret (wp_if (fun c2 => ?_) (fun c2 => ?_)))
      · rw [t_eq, nat_toInt (by omega), show Int32.toInt 32 = 32 from rfl] at c2
        have hiw : i = wln w := by
          by_cases e2 : i = wln w
          · exact e2
          · exact absurd (by omega) (w_sp w hw7 i (by omega) (by omega))
        refine hrc (7 - (w + 1)) _ _ _ (by omega) ⟨rfl, w + 1, by omega, rfl, inc hl1 (by omega), ?_, fun x hx => ?_⟩
        · rw [inc (i := wst w + i) hl (by omega), f3, hiw]
        · by_cases ex : x = w
          · rw [ex]; exact hnm
          · exact hno x (by omega)
      · rw [t_eq, nat_toInt (by omega), show Int32.toInt 32 = 32 from rfl] at c2
        have hiw : i ≠ wln w := fun e2 => c2 (by rw [e2, f2]; rfl)
        exact hrc2 (wln w - (i + 1)) _ _ (by omega) ⟨rfl, i + 1, by omega, rfl, inc (i := wst w + i) hl (by omega)⟩
    refine wp_lp1 (fun j (l3 : Int32) m2 => m2 = m ∧ ∃ i : Nat, i ≤ wln w ∧ j = wln w - i ∧ l3.toInt = (i : Int) ∧ pl + i ≤ e ∧ ∀ x, x < i → T (pl + x) = (wc (wst w + x) : Nat)) ax_FU ?_ (wln w) (by unfold ax_FU; omega) ⟨rfl, 0, by omega, rfl, rfl, by omega, fun x hx => by omega⟩
    rintro j rc2 hrc2 l3 m2 ⟨rfl, i, hi, hj, hl3, hie, hmt⟩
    have hix : (l2 + l3).toInt = ((wst w + i : Nat) : Int) := by rw [t_add, hl2, hl3]; omega
    have hpi : (m2.1 57 21 + l3).toInt = ((pl + i : Nat) : Int) := by rw [t_add, h21, hl3]; omega
    have hb := wc_lt (wst w + i) (by omega)
    -- the end of the comparing
    have fin : (i < wln w → pl + i < e → T (pl + i) ≠ (wc (wst w + i) : Nat)) → Wp (fX9_wordHere_K69 l1 l2 l3 rc m2) (fun r m_1 => m_1 = m2 ∧ ((r.toInt = -1 ∧ ∀ w, w < 7 → ¬ mtc T pl e w) ∨ ∃ w : Nat, w < 7 ∧ r.toInt = (w : Int) ∧ mtc T pl e w)) := by
      intro hst
      unfold fX9_wordHere_K69
      rw [cA_ok hix (by omega)]
      refine wp_bd (wp_ret (wp_if (fun c2 => wp_if (fun c3 => wp_ret ⟨rfl, Or.inr ⟨w, hw7, hl1, ?_⟩⟩) (fun c3 => skip ?_)) (fun c2 => skip ?_)))
      · rw [t_eq, nat_toInt (by omega), show Int32.toInt 32 = 32 from rfl] at c2
        rw [t_eq, hpi, h20] at c3
        have hiw : i = wln w := by
          by_cases e2 : i = wln w
          · exact e2
          · exact absurd (by omega) (w_sp w hw7 i (by omega) (by omega))
        exact ⟨by omega, fun x hx => hmt x (by omega)⟩
      · rw [t_eq, nat_toInt (by omega), show Int32.toInt 32 = 32 from rfl] at c2
        rw [t_eq, hpi, h20] at c3
        have hiw : i = wln w := by
          by_cases e2 : i = wln w
          · exact e2
          · exact absurd (by omega) (w_sp w hw7 i (by omega) (by omega))
        exact fun g => by have := g.1; omega
      · rw [t_eq, nat_toInt (by omega), show Int32.toInt 32 = 32 from rfl] at c2
        have hiw : i ≠ wln w := fun e2 => c2 (by rw [e2, f2]; rfl)
        intro g
        have g1 := g.1
        exact hst (by omega) (by omega) (g.2 i (by omega))
    unfold fX9_wordHere_B15
    rw [cA_ok hix (by omega)]
    refine wp_bd (wp_ret (wp_if (fun c2 => fin (fun g1 _ => ?_)) (fun c2 => wp_if (fun c3 => fin (fun _ g2 => ?_)) (fun c3 => ?_))))
    · rw [t_eq, nat_toInt (by omega), show Int32.toInt 32 = 32 from rfl] at c2
      exact absurd (by omega) (w_sp w hw7 i (by omega) g1)
    · rw [t_le, h20, hpi] at c3; omega
    · rw [t_eq, nat_toInt (by omega), show Int32.toInt 32 = 32 from rfl] at c2
      rw [t_le, h20, hpi] at c3
      have hiw : i ≠ wln w := fun e2 => c2 (by rw [e2, f2]; rfl)
      refine wp_rd (pl + i) hpi (by omega) ?_
      rw [cA_ok hix (by omega)]
      refine wp_bd (wp_ret (wp_if (fun c4 => ?_) (fun c4 => fin (fun _ _ g => c4 ?_))))
      · rw [t_eq, h.1 _ (by omega), nat_toInt (by omega)] at c4
        refine hrc2 (wln w - (i + 1)) _ _ (by omega) ⟨rfl, i + 1, by omega, rfl, inc hl3 (by omega), by omega, fun x hx => ?_⟩
        by_cases ex : x = i
        · rw [ex]; exact c4
        · exact hmt x (by omega)
      · rw [t_eq, h.1 _ (by omega), nat_toInt (by omega)]; exact g
end WRD
