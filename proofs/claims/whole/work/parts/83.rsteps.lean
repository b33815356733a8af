/-! the reference's steps -/
def RE (m : ax_M) (T : Nat → Int) (n : Nat) (e : Int × Int) : Prop := RT m T n ∧ (m.1 57 24).toInt = e.1 ∧ e.1 ≠ 0 ∧ (m.1 57 25).toInt = e.2
def RO (m : ax_M) (T : Nat → Int) (n : Nat) : Rs → Prop
  | .ok a => RT m T n ∧ (m.1 57 24).toInt = 0 ∧ (m.1 57 20).toInt = (a : Int) ∧ a ≤ n
  | .error e => RE m T n e
def RLd (m : ax_M) (T : Nat → Int) (n : Nat) : Rs → Prop
  | .ok a => RT m T n ∧ (m.1 57 24).toInt = 0 ∧ RK m T n a
  | .error e => RE m T n e
def FR (m2 m : ax_M) : Prop := (∀ a, a ≠ 57 → m2.1 a = m.1 a) ∧ ∀ j, j < 20 ∨ 25 < j → m2.1 57 j = m.1 57 j
theorem FR_tr {a b c : ax_M} (h : FR c b) (h2 : FR b a) : FR c a := ⟨fun x hx => (h.1 x hx).trans (h2.1 x hx), fun j hj => (h.2 j hj).trans (h2.2 j hj)⟩
theorem FR_rf (a : ax_M) : FR a a := ⟨fun _ _ => rfl, fun _ _ => rfl⟩
theorem wp_FR {α : Type} {Q : α → ax_M → Prop} {t : Option (α × ax_M)} {μ : ax_M} {S : List Nat} (h : Wp t Q) (hk : Kp [57] t μ) (hq : Kq S t μ) (hS : ∀ x, x ∈ S → 5720 ≤ x ∧ x ≤ 5725) : Wp t (fun r m => Q r m ∧ FR m μ) := by
  refine wp_mono (wp_keq (wp_keep h hk) hq) ?_
  rintro r m ⟨⟨g1, g2⟩, g3⟩
  exact ⟨g1, fun a ha => (g2 a (by simpa using ha)).1, fun j hj => g3 57 j (by decide) (fun g => by have := hS _ g; omega)⟩
section RST
variable {m : ax_M} {T : Nat → Int} {n : Nat} {r : Rs}
theorem RT_FR {m2 : ax_M} (h : RT m T n) (hf : FR m2 m) : RT m2 T n := by
  refine ⟨fun i hi => ?_, ?_, h.2.2⟩
  · rw [hf.1 58 (by decide)]; exact h.1 i hi
  · rw [hf.2 19 (by omega)]; exact h.2.1
theorem RK_tk {a : Nat} (h : RK m T n a) : (m.1 57 20).toInt = (tka T n a : Int) ∧ tka T n a ≤ n ∧ (m.1 57 21).toInt = (tkp T n a : Int) ∧ RTk (tkk T n a) (tkv T n a) (m.1 57 22).toInt (m.1 57 23).toInt := by
  obtain ⟨k, pl, v, a2, h1, h2, h3, h4, h5⟩ := h
  obtain ⟨e1, e2, e3, e4⟩ := tk_eq h1
  refine ⟨by rw [e3]; exact h2, by rw [e3]; exact h3, by rw [e2]; exact h4, ?_⟩
  rw [e1]
  by_cases g : k = 1 ∨ k = 2
  · rw [e4 g]; exact h5
  · unfold RTk at *
    rcases h5 with h5 | h5 | h5 | h5 | h5 | h5
    · exact Or.inl h5
    · exact absurd (Or.inl h5.1) g
    · exact absurd (Or.inl h5.1) g
    · exact absurd (Or.inr h5.1) g
    · exact Or.inr (Or.inr (Or.inr (Or.inr (Or.inl h5))))
    · exact Or.inr (Or.inr (Or.inr (Or.inr (Or.inr h5))))
/-- what the sort tells -/
theorem RTk_num {k : Nat} {v s w : Int} (h : RTk k v s w) : s = 2 ↔ k = 2 := by
  unfold RTk at h
  rcases h with ⟨h1, h2⟩ | ⟨h1, j, _, _, h2, _⟩ | ⟨h1, _, h2, _⟩ | ⟨h1, h2, _⟩ | ⟨h1, h2⟩ | ⟨h1, h2⟩ <;> omega
theorem RTk_stop {k : Nat} {v s w : Int} (h : RTk k v s w) : s = 3 ↔ k = 3 := by
  unfold RTk at h
  rcases h with ⟨h1, h2⟩ | ⟨h1, j, _, _, h2, _⟩ | ⟨h1, _, h2, _⟩ | ⟨h1, h2, _⟩ | ⟨h1, h2⟩ | ⟨h1, h2⟩ <;> omega
theorem RTk_end {k : Nat} {v s w : Int} (h : RTk k v s w) : s = 4 ↔ k = 0 := by
  unfold RTk at h
  rcases h with ⟨h1, h2⟩ | ⟨h1, j, _, _, h2, _⟩ | ⟨h1, _, h2, _⟩ | ⟨h1, h2, _⟩ | ⟨h1, h2⟩ | ⟨h1, h2⟩ <;> omega
theorem RTk_name {k : Nat} {v s w : Int} (h : RTk k v s w) : s = 1 ↔ (k = 1 ∧ ¬ kwd v) := by
  unfold RTk at h
  rcases h with ⟨h1, h2⟩ | ⟨h1, j, hj, hv, h2, _⟩ | ⟨h1, hn, h2, _⟩ | ⟨h1, h2, _⟩ | ⟨h1, h2⟩ | ⟨h1, h2⟩
  · exact ⟨fun g => by omega, fun g => by omega⟩
  · exact ⟨fun g => by omega, fun g => absurd ⟨j, hj, hv⟩ g.2⟩
  · exact ⟨fun _ => ⟨h1, fun ⟨j, hj, hv⟩ => hn j hj hv⟩, fun _ => h2⟩
  · exact ⟨fun g => by omega, fun g => by omega⟩
  · exact ⟨fun g => by omega, fun g => by omega⟩
  · exact ⟨fun g => by omega, fun g => by omega⟩
theorem RTk_nv {k : Nat} {v s w : Int} (h : RTk k v s w) (hs : s = 1) : w = v := by
  unfold RTk at h
  rcases h with ⟨h1, h2⟩ | ⟨h1, j, _, _, h2, _⟩ | ⟨h1, _, h2, h3⟩ | ⟨h1, h2, _⟩ | ⟨h1, h2⟩ | ⟨h1, h2⟩
  · omega
  · omega
  · exact h3
  · omega
  · omega
  · omega
theorem RTk_vv {k : Nat} {v s w : Int} (h : RTk k v s w) (hs : s = 2) : (v ≤ 99999 → w = v) ∧ (99999 < v → 99999 < w) := by
  unfold RTk at h
  rcases h with ⟨h1, h2⟩ | ⟨h1, j, _, _, h2, _⟩ | ⟨h1, _, h2, _⟩ | ⟨h1, h2, h3⟩ | ⟨h1, h2⟩ | ⟨h1, h2⟩
  · omega
  · omega
  · omega
  · exact h3
  · omega
  · omega
theorem RTk_word {k : Nat} {v s w : Int} (h : RTk k v s w) (hs : s = 0) : ∃ j : Nat, j < 7 ∧ v = WV j ∧ k = 1 ∧ w = (j : Int) := by
  unfold RTk at h
  rcases h with ⟨h1, h2⟩ | ⟨h1, j, hj, hv, h2, hw⟩ | ⟨h1, _, h2, _⟩ | ⟨h1, h2, h3⟩ | ⟨h1, h2⟩ | ⟨h1, h2⟩
  · omega
  · exact ⟨j, hj, hv, h1, hw⟩
  · omega
  · omega
  · omega
  · omega
theorem RTk_nword {k : Nat} {v s w : Int} (h : RTk k v s w) (hs : s ≠ 0) : ¬ (k = 1 ∧ kwd v) := by
  unfold RTk at h
  rcases h with ⟨h1, h2⟩ | ⟨h1, j, hj, hv, h2, hw⟩ | ⟨h1, hn, h2, _⟩ | ⟨h1, h2, h3⟩ | ⟨h1, h2⟩ | ⟨h1, h2⟩
  · omega
  · omega
  · rintro ⟨_, j, hj, hv⟩
    exact hn j hj hv
  · omega
  · omega
  · omega
theorem r_goOn (h : RO m T n r) (hT : Tp T) : Wp (fX9_goOn m) (fun _ m2 => RLd m2 T n r ∧ FR m2 m) := by
  unfold fX9_goOn fX9_goOn_K11
  cases r with
  | ok a =>
    obtain ⟨h1, h2, h3, h4⟩ := h
    refine wp_if (fun c => wp_bd (wp_mono (wp_keq (wp_FR (sX9_token h1 hT a h3 h4) (kf_X9_token _) (kw_X9_token _) (by decide)) (kw_X9_token _)) ?_)) (fun c => ?_)
    · rintro _ m2 ⟨⟨w1, w2⟩, w3⟩
      exact wp_ret ⟨⟨RT_FR h1 w2, by rw [w3 57 24 (by decide) (by decide)]; exact h2, w1⟩, w2⟩
    · rw [t_eq, h2] at c
      exact absurd rfl c
  | error e =>
    refine wp_if (fun c => ?_) (fun c => wp_ret ⟨h, FR_rf m⟩)
    rw [t_eq, h.2.1] at c
    exact absurd c h.2.2.1
/-- a fault told, while none is -/
theorem r_wrong (h : RT m T n) (h0 : (m.1 57 24).toInt = 0) {c : Int32} {p : Int} (hp : (m.1 57 21).toInt = p) (hc : c.toInt ≠ 0) : Wp (fX9_wrong c m) (fun _ m2 => RE m2 T n (c.toInt, p) ∧ FR m2 m) := by
  refine wp_FR ?_ (kf_X9_wrong _ _) (kw_X9_wrong _ _) (by decide)
  unfold fX9_wrong
  refine wp_if (fun c0 => wp_let (wp_let (wp_ret ⟨RT_wi (RT_wi h (by omega)) (by omega), ?_, hc, ?_⟩))) (fun c0 => ?_)
  · rw [wi_other (by omega), wi_self]
  · rw [wi_self, wi_other (by omega)]; exact hp
  · rw [t_eq, h0] at c0
    exact absurd rfl c0
theorem r_wrongE {e : Int × Int} (h : RE m T n e) (c : Int32) : Wp (fX9_wrong c m) (fun _ m2 => m2 = m) := by
  unfold fX9_wrong
  refine wp_if (fun c0 => ?_) (fun c0 => wp_ret rfl)
  rw [t_eq, h.2.1] at c0
  exact absurd c0 h.2.2.1
theorem re_ne {e : Int × Int} (h : RE m T n e) : m.1 57 24 ≠ 0 := by
  intro g
  rw [t_eq, h.2.1] at g
  exact h.2.2.1 g
theorem ro_eq (h : (m.1 57 24).toInt = 0) : m.1 57 24 = 0 := t_eq.mpr h
theorem r_num (h : RLd m T n r) (hT : Tp T) (lo hi : Int32) (hhi : ∀ a, r = .ok a → hi.toInt ≤ 99999) : Wp (fX9_numeral lo hi m) (fun v m2 => (RLd m2 T n (sNum T n lo.toInt hi.toInt r) ∧ ∀ a, sNum T n lo.toInt hi.toInt r = .ok a → v.toInt = rv T n r) ∧ FR m2 m) := by
  refine wp_FR ?_ (kf_X9_numeral _ _ _) (kw_X9_numeral _ _ _) (by decide)
  unfold fX9_numeral fX9_numeral_K41
  cases r with
  | error e =>
    rw [if_neg (re_ne h)]
    exact wp_ret ⟨h, fun a e => by cases e⟩
  | ok a =>
    have hh := hhi a rfl
    obtain ⟨h1, h2, h3⟩ := h
    obtain ⟨k1, k2, k3, k4⟩ := RK_tk h3
    rw [if_pos (ro_eq h2)]
    have bad : ∀ c : Int32, c.toInt ≠ 0 → sNum T n lo.toInt hi.toInt (.ok a) = .error (c.toInt, (tkp T n a : Int)) → Wp (ax_bd (fX9_wrong c m) (fun _ m2 => fX9_numeral_K46 lo m2)) (fun v m2 => RLd m2 T n (sNum T n lo.toInt hi.toInt (.ok a)) ∧ ∀ b, sNum T n lo.toInt hi.toInt (.ok a) = .ok b → v.toInt = rv T n (.ok a)) := by
      intro c hc e
      rw [e]
      refine wp_bd (wp_mono (r_wrong h1 h2 k3 hc) ?_)
      rintro _ m2 ⟨w1, _⟩
      unfold fX9_numeral_K46 fX9_numeral_K61
      rw [if_neg (re_ne w1)]
      refine wp_bd (wp_mono (r_goOn (r := .error (c.toInt, (tkp T n a : Int))) w1 hT) ?_)
      rintro _ m3 ⟨w3, _⟩
      exact wp_ret ⟨w3, fun b e => by cases e⟩
    refine wp_if (fun c => ?_) (fun c => bad 1 (by decide) (sNum_n (fun g => c ?_)))
    · rw [t_eq, show Int32.toInt 2 = 2 from rfl] at c
      have hk := (RTk_num k4).1 c
      have hv := RTk_vv k4 c
      refine wp_if (fun d => bad 2 (by decide) (sNum_b hk ?_)) (fun d => wp_if (fun d2 => ?_) (fun d2 => bad 2 (by decide) (sNum_b hk ?_)))
      · rw [t_lt] at d
        intro g
        have := hv.1 (by omega)
        omega
      · rw [t_lt] at d
        rw [t_le] at d2
        have hle : tkv T n a ≤ 99999 := by
          by_cases g : tkv T n a ≤ 99999
          · exact g
          · have := hv.2 (by omega); omega
        have hw := hv.1 hle
        have e : sNum T n lo.toInt hi.toInt (.ok a) = .ok (tka T n a) := sNum_g hk (by omega)
        rw [e]
        unfold fX9_numeral_K46 fX9_numeral_K61
        rw [if_pos (ro_eq h2)]
        refine wp_bd (wp_mono (r_goOn (r := .ok (tka T n a)) ⟨h1, h2, k1, k2⟩ hT) ?_)
        rintro _ m3 ⟨w3, _⟩
        exact wp_ret ⟨w3, fun b _ => hw⟩
      · rw [t_le] at d2
        intro g
        have := hv.1 (by omega)
        omega
    · rw [t_eq]
      exact (RTk_num k4).2 g
end RST
