/-! reading as numbers: where a reading stands, and the class's steps -/
abbrev Rs : Type := Except (Int × Int) Nat
noncomputable def tk (T : Nat → Int) (n a : Nat) : Nat × Nat × Int × Nat := Classical.epsilon (fun x : Nat × Nat × Int × Nat => Tok T n a x.1 x.2.1 x.2.2.1 x.2.2.2)
noncomputable def tkk (T : Nat → Int) (n a : Nat) : Nat := (tk T n a).1
noncomputable def tkp (T : Nat → Int) (n a : Nat) : Nat := (tk T n a).2.1
noncomputable def tkv (T : Nat → Int) (n a : Nat) : Int := (tk T n a).2.2.1
noncomputable def tka (T : Nat → Int) (n a : Nat) : Nat := (tk T n a).2.2.2
theorem tk_eq {T : Nat → Int} {n a k pl a2 : Nat} {v : Int} (h : Tok T n a k pl v a2) : tkk T n a = k ∧ tkp T n a = pl ∧ tka T n a = a2 ∧ (k = 1 ∨ k = 2 → tkv T n a = v) := by
  have hs : Tok T n a (tk T n a).1 (tk T n a).2.1 (tk T n a).2.2.1 (tk T n a).2.2.2 := Classical.epsilon_spec (p := fun x : Nat × Nat × Int × Nat => Tok T n a x.1 x.2.1 x.2.2.1 x.2.2.2) ⟨(k, pl, v, a2), h⟩
  obtain ⟨e1, e2, e3, e4⟩ := tok_unique hs h
  refine ⟨e1, e2, e3, fun g => e4 ?_⟩
  rw [e1]; exact g
abbrev kwd (v : Int) : Prop := ∃ j, j < 7 ∧ v = WV j
noncomputable def sNum (T : Nat → Int) (n : Nat) (lo hi : Int) : Rs → Rs
  | .error e => .error e
  | .ok a => if tkk T n a = 2 then (if lo ≤ tkv T n a ∧ tkv T n a ≤ hi then .ok (tka T n a) else (.error (2, (tkp T n a)))) else (.error (1, (tkp T n a)))
noncomputable def sStop (T : Nat → Int) (n : Nat) : Rs → Rs
  | .error e => .error e
  | .ok a => if tkk T n a = 3 then .ok (tka T n a) else (.error (1, (tkp T n a)))
noncomputable def sName (T : Nat → Int) (n : Nat) : Rs → Rs
  | .error e => .error e
  | .ok a => if tkk T n a = 1 ∧ ¬ kwd (tkv T n a) then .ok (tka T n a) else (.error (1, (tkp T n a)))
def sIf (b : Prop) [Decidable b] (c p : Int) : Rs → Rs
  | .error e => .error e
  | .ok a => if b then (.error (c, p)) else .ok a
theorem sIf_t {b : Prop} [Decidable b] {c p : Int} {a : Nat} (h : b) : sIf b c p (.ok a) = .error (c, p) := if_pos h
theorem sIf_f {b : Prop} [Decidable b] {c p : Int} {a : Nat} (h : ¬ b) : sIf b c p (.ok a) = .ok a := if_neg h
theorem sNum_g {T : Nat → Int} {n a : Nat} {lo hi : Int} (h : tkk T n a = 2) (h2 : lo ≤ tkv T n a ∧ tkv T n a ≤ hi) : sNum T n lo hi (.ok a) = .ok (tka T n a) := (if_pos h).trans (if_pos h2)
theorem sNum_b {T : Nat → Int} {n a : Nat} {lo hi : Int} (h : tkk T n a = 2) (h2 : ¬ (lo ≤ tkv T n a ∧ tkv T n a ≤ hi)) : sNum T n lo hi (.ok a) = .error (2, (tkp T n a : Int)) := (if_pos h).trans (if_neg h2)
theorem sNum_n {T : Nat → Int} {n a : Nat} {lo hi : Int} (h : tkk T n a ≠ 2) : sNum T n lo hi (.ok a) = .error (1, (tkp T n a : Int)) := if_neg h
theorem sStop_t {T : Nat → Int} {n a : Nat} (h : tkk T n a = 3) : sStop T n (.ok a) = .ok (tka T n a) := if_pos h
theorem sStop_f {T : Nat → Int} {n a : Nat} (h : tkk T n a ≠ 3) : sStop T n (.ok a) = .error (1, (tkp T n a : Int)) := if_neg h
theorem sName_t {T : Nat → Int} {n a : Nat} (h : tkk T n a = 1 ∧ ¬ kwd (tkv T n a)) : sName T n (.ok a) = .ok (tka T n a) := if_pos h
theorem sName_f {T : Nat → Int} {n a : Nat} (h : ¬ (tkk T n a = 1 ∧ ¬ kwd (tkv T n a))) : sName T n (.ok a) = .error (1, (tkp T n a : Int)) := if_neg h
noncomputable def rv (T : Nat → Int) (n : Nat) : Rs → Int
  | .error _ => 0
  | .ok a => tkv T n a
noncomputable def rp (T : Nat → Int) (n : Nat) : Rs → Int
  | .error _ => 0
  | .ok a => tkp T n a
def CO (m : ax_M) (T : Nat → Int) (n : Nat) : Rs → Prop
  | .ok a => CT m T n ∧ (m.1 15 2).toInt = 0 ∧ (m.1 15 6).toInt = (a : Int) ∧ a ≤ n ∧ (m.1 15 3).toInt = -1
  | (.error (f, p)) => CT m T n ∧ (m.1 15 2).toInt = f ∧ f ≠ 0 ∧ (m.1 15 3).toInt = p ∧ ∃ a : Nat, (m.1 15 6).toInt = (a : Int) ∧ a ≤ n
def FX (m2 m : ax_M) : Prop := (∀ a, a ≠ 15 → m2.1 a = m.1 a) ∧ m2.1 15 1 = m.1 15 1 ∧ m2.1 15 10 = m.1 15 10 ∧ m2.1 15 11 = m.1 15 11 ∧ m2.1 15 12 = m.1 15 12
theorem FX_tr {a b c : ax_M} (h : FX c b) (h2 : FX b a) : FX c a := ⟨fun x hx => (h.1 x hx).trans (h2.1 x hx), h.2.1.trans h2.2.1, h.2.2.1.trans h2.2.2.1, h.2.2.2.1.trans h2.2.2.2.1, h.2.2.2.2.trans h2.2.2.2.2⟩
theorem FX_rf (a : ax_M) : FX a a := ⟨fun _ _ => rfl, rfl, rfl, rfl, rfl⟩
theorem wp_FX {α : Type} {Q : α → ax_M → Prop} {t : Option (α × ax_M)} {μ : ax_M} {S : List Nat} (h : Wp t Q) (hk : Kp [15] t μ) (hq : Kq S t μ) (hS : 1501 ∉ S ∧ 1510 ∉ S ∧ 1511 ∉ S ∧ 1512 ∉ S) : Wp t (fun r m => Q r m ∧ FX m μ) := by
  refine wp_mono (wp_keq (wp_keep h hk) hq) ?_
  rintro r m ⟨⟨g1, g2⟩, g3⟩
  exact ⟨g1, fun a ha => (g2 a (by simpa using ha)).1, g3 15 1 (by decide) hS.1, g3 15 10 (by decide) hS.2.1, g3 15 11 (by decide) hS.2.2.1, g3 15 12 (by decide) hS.2.2.2⟩
section CST
variable {m : ax_M} {T : Nat → Int} {n : Nat} {r : Rs}
theorem CO_CT (h : CO m T n r) : CT m T n := by
  cases r with
  | ok a => exact h.1
  | error e0 =>
    obtain ⟨f, p⟩ := e0
    exact h.1
theorem c_if (h : CO m T n r) {s1 c : Int32} {p : Int} (hc : c.toInt ≠ 0) (hp : ∀ a, r = .ok a → (m.1 15 8).toInt = p) : Wp (fX3_refuseIf s1 c m) (fun _ m2 => (CO m2 T n (sIf (s1 ≠ 0) c.toInt p r) ∧ m2.1 15 9 = m.1 15 9 ∧ m2.1 15 8 = m.1 15 8) ∧ FX m2 m) := by
  refine wp_FX ?_ (kf_X3_refuseIf _ _ _) (kw_X3_refuseIf _ _ _) (by decide)
  unfold fX3_refuseIf fX3_refuseIf_K9 fX3_refuse fX3_refuse_K20
  refine wp_if (fun c0 => wp_ret ⟨?_, rfl, rfl⟩) (fun c0 => wp_bd (wp_if (fun c1 => wp_let (wp_let (wp_ret (wp_ret ⟨?_, ?_, ?_⟩)))) (fun c1 => wp_ret (wp_ret ⟨?_, rfl, rfl⟩))))
  · cases r with
    | ok a =>
      rw [sIf_f (fun g => g c0)]; exact h
    | error e0 =>
      obtain ⟨f, q⟩ := e0
      exact h
  · cases r with
    | ok a =>
      rw [sIf_t c0]
      obtain ⟨h1, h2, h3, h4⟩ := h
      refine ⟨CT_wi (CT_wi h1 (by omega)) (by omega), ?_, hc, ?_, a, ?_, h4.1⟩
      · rw [wi_other (by omega), wi_self]
      · rw [wi_self, wi_other (by omega)]; exact hp a rfl
      · rw [wi_other (by omega), wi_other (by omega)]; exact h3
    | error e0 =>
      obtain ⟨f, q⟩ := e0
      rw [t_eq, h.2.1] at c1
      exact absurd c1 h.2.2.1
  · rw [wi_other (by omega), wi_other (by omega)]
  · rw [wi_other (by omega), wi_other (by omega)]
  · cases r with
    | ok a =>
      rw [t_eq, h.2.1] at c1
      exact absurd rfl c1
    | error e0 =>
      obtain ⟨f, q⟩ := e0
      exact h
/-- a token read, while no fault is set -/
def TkO (m2 : ax_M) (T : Nat → Int) (n a : Nat) : Prop := CO m2 T n (.ok (tka T n a)) ∧ (m2.1 15 7).toInt = (tkk T n a : Int) ∧ (m2.1 15 8).toInt = (tkp T n a : Int) ∧ (tkk T n a = 1 → (m2.1 15 9).toInt = tkv T n a) ∧ (tkk T n a = 2 → (m2.1 15 9).toInt = if tkv T n a < 100000 then tkv T n a else 100000)
theorem c_tok {a : Nat} (h : CO m T n (.ok a)) (hT : Tp T) : Wp (fX3_readToken m) (fun _ m2 => TkO m2 T n a ∧ FX m2 m) := by
  refine wp_mono (wp_keq (wp_FX (sX3_readToken h.1 hT a h.2.2.1 h.2.2.2.1) (kf_X3_readToken _) (kw_X3_readToken _) (by decide)) (kw_X3_readToken _)) ?_
  rintro _ m2 ⟨⟨⟨k, pl, v, a2, w1, w2, w3, w4, w5, w6, w7⟩, w8⟩, w9⟩
  obtain ⟨e1, e2, e3, e4⟩ := tk_eq w1
  refine ⟨⟨⟨⟨fun i hi => ?_, ?_, h.1.2.2⟩, ?_, ?_, ?_, ?_⟩, ?_, ?_, fun g => ?_, fun g => ?_⟩, w8⟩
  · rw [w8.1 1 (by decide)]; exact h.1.1 i hi
  · rw [w9 15 5 (by decide) (by decide)]; exact h.1.2.1
  · rw [w9 15 2 (by decide) (by decide)]; exact h.2.1
  · rw [e3]; exact w2
  · rw [e3]; exact w3
  · rw [w9 15 3 (by decide) (by decide)]; exact h.2.2.2.2
  · rw [e1]; exact w4
  · rw [e2]; exact w5
  · rw [e1] at g
    rw [e4 (Or.inl g)]; exact w6 g
  · rw [e1] at g
    rw [e4 (Or.inr g)]; exact w7 g
theorem c_tokE {f p : Int} (h : CO m T n ((.error (f, p)))) (hT : Tp T) : Wp (fX3_readToken m) (fun _ m2 => CO m2 T n ((.error (f, p))) ∧ FX m2 m) := by
  obtain ⟨h1, h2, h3, h4, a, h5, h6⟩ := h
  refine wp_mono (wp_keq (wp_FX (sX3_readToken h1 hT a h5 h6) (kf_X3_readToken _) (kw_X3_readToken _) (by decide)) (kw_X3_readToken _)) ?_
  rintro _ m2 ⟨⟨⟨k, pl, v, a2, w1, w2, w3, w4, w5, w6, w7⟩, w8⟩, w9⟩
  refine ⟨⟨⟨fun i hi => ?_, ?_, h1.2.2⟩, ?_, h3, ?_, a2, w2, w3⟩, w8⟩
  · rw [w8.1 1 (by decide)]; exact h1.1 i hi
  · rw [w9 15 5 (by decide) (by decide)]; exact h1.2.1
  · rw [w9 15 2 (by decide) (by decide)]; exact h2
  · rw [w9 15 3 (by decide) (by decide)]; exact h4
theorem c_numE {f p : Int} (h : CO m T n ((.error (f, p)))) (lo hi s1 : Int32) : Wp (fX3_readNumber_K18 lo hi s1 m) (fun _ m2 => CO m2 T n ((.error (f, p)))) := by
  unfold fX3_readNumber_K18 fX3_readNumber_K39 fX3_readNumber_K44
  refine wp_bd (wp_mono (c_if (p := 0) h (by decide) (fun a e => by cases e)) ?_)
  rintro _ m4 ⟨⟨h4, _⟩, _⟩
  have F : ∀ s1 : Int32, Wp (ax_bd (fX3_refuseIf s1 2 m4) fun _ m6 => some (m6.1 15 9, m6)) (fun _ m2 => CO m2 T n ((.error (f, p)))) := by
    intro s1
    refine wp_bd (wp_mono (c_if (p := 0) h4 (by decide) (fun a e => by cases e)) ?_)
    rintro _ m6 ⟨⟨h6, _⟩, _⟩
    exact wp_ret h6
  exact wp_if (fun _ => F 1) (fun _ => wp_if (fun _ => F 0) (fun _ => F 1))
theorem c_num (h : CO m T n r) (hT : Tp T) (lo hi : Int32) (hhi : ∀ a, r = .ok a → hi.toInt ≤ 99999) : Wp (fX3_readNumber lo hi m) (fun v m2 => (CO m2 T n (sNum T n lo.toInt hi.toInt r) ∧ ∀ a, sNum T n lo.toInt hi.toInt r = .ok a → v.toInt = rv T n r) ∧ FX m2 m) := by
  refine wp_FX ?_ (kf_X3_readNumber _ _ _) (kw_X3_readNumber _ _ _) (by decide)
  unfold fX3_readNumber
  cases r with
  | error e0 =>
    obtain ⟨f, p⟩ := e0
    refine wp_bd (wp_mono (c_tokE h hT) ?_)
    rintro _ m2 ⟨h2, _⟩
    have E : ∀ s1 : Int32, Wp (fX3_readNumber_K18 lo hi s1 m2) (fun v m2 => CO m2 T n (sNum T n lo.toInt hi.toInt ((.error (f, p)))) ∧ ∀ a, sNum T n lo.toInt hi.toInt ((.error (f, p))) = .ok a → v.toInt = rv T n ((.error (f, p)))) := by
      intro s1
      refine wp_mono (c_numE h2 lo hi s1) ?_
      intro v m3 h3
      exact ⟨h3, fun a e => by cases e⟩
    exact wp_if (fun _ => E 0) (fun _ => E 1)
  | ok a =>
    have hh := hhi a rfl
    refine wp_bd (wp_mono (c_tok h hT) ?_)
    rintro _ m2 ⟨⟨h2, g7, g8, _, g9⟩, _⟩
    refine wp_if (fun c => ?_) (fun c => ?_)
    · rw [t_eq, g7, show Int32.toInt 2 = 2 from rfl] at c
      have c2 : tkk T n a = 2 := by omega
      have g9 := g9 c2
      unfold fX3_readNumber_K18 fX3_readNumber_K39 fX3_readNumber_K44
      refine wp_bd (wp_mono (c_if (p := (tkp T n a : Int)) h2 (by decide) (fun _ _ => g8)) ?_)
      rintro _ m4 ⟨⟨h4, f9, f8⟩, _⟩
      have h4 : CO m4 T n (.ok (tka T n a)) := by
        rw [sIf_f (fun g => g rfl)] at h4
        exact h4
      rw [← f9] at g9
      rw [← f8] at g8
      have F : ∀ s1 : Int32, Wp (ax_bd (fX3_refuseIf s1 2 m4) fun _ m6 => some (m6.1 15 9, m6)) (fun v m2 => CO m2 T n (sIf (s1 ≠ 0) 2 (tkp T n a) (.ok (tka T n a))) ∧ v = m4.1 15 9) := by
        intro s1
        refine wp_bd (wp_mono (c_if (p := (tkp T n a : Int)) h4 (by decide) (fun _ _ => g8)) ?_)
        rintro _ m6 ⟨⟨h6, e9, _⟩, _⟩
        exact wp_ret ⟨h6, e9⟩
      have bad : ¬ (lo.toInt ≤ tkv T n a ∧ tkv T n a ≤ hi.toInt) → Wp (ax_bd (fX3_refuseIf 1 2 m4) fun _ m6 => some (m6.1 15 9, m6)) (fun v m2 => CO m2 T n (sNum T n lo.toInt hi.toInt (.ok a)) ∧ ∀ b, sNum T n lo.toInt hi.toInt (.ok a) = .ok b → v.toInt = rv T n (.ok a)) := by
        intro hb
        refine wp_mono (F 1) ?_
        rintro v m6 ⟨k1, k2⟩
        have e : sNum T n lo.toInt hi.toInt (.ok a) = (.error (2, (tkp T n a))) := sNum_b c2 hb
        rw [e]
        rw [sIf_t (by decide)] at k1
        exact ⟨k1, fun b e => by cases e⟩
      refine wp_if (fun d => bad ?_) (fun d => wp_if (fun d2 => ?_) (fun d2 => bad ?_))
      · rw [t_lt, g9] at d
        intro g
        split at d <;> omega
      · rw [t_lt, g9] at d
        rw [t_le, g9] at d2
        have hlt : tkv T n a < 100000 := by
          split at d2 <;> omega
        rw [if_pos hlt] at d d2 g9
        refine wp_mono (F 0) ?_
        rintro v m6 ⟨k1, k2⟩
        have e : sNum T n lo.toInt hi.toInt (.ok a) = .ok (tka T n a) := sNum_g c2 (by omega)
        rw [e]
        rw [sIf_f (fun g => g rfl)] at k1
        exact ⟨k1, fun b _ => by rw [k2, g9]; rfl⟩
      · rw [t_le, g9] at d2
        intro g
        split at d2 <;> omega
    · rw [t_eq, g7, show Int32.toInt 2 = 2 from rfl] at c
      have e : sNum T n lo.toInt hi.toInt (.ok a) = (.error (1, (tkp T n a))) := sNum_n (by omega)
      rw [e]
      unfold fX3_readNumber_K18 fX3_readNumber_K39 fX3_readNumber_K44
      refine wp_bd (wp_mono (c_if (p := (tkp T n a : Int)) h2 (by decide) (fun _ _ => g8)) ?_)
      rintro _ m4 ⟨⟨h4, f9, f8⟩, _⟩
      have h4 : CO m4 T n ((.error (1, (tkp T n a)))) := by
        rw [sIf_t (by decide)] at h4
        exact h4
      have F : ∀ s1 : Int32, Wp (ax_bd (fX3_refuseIf s1 2 m4) fun _ m6 => some (m6.1 15 9, m6)) (fun v m2 => CO m2 T n ((.error (1, (tkp T n a)))) ∧ ∀ b, (Except.error (1, (tkp T n a)) : Rs) = .ok b → v.toInt = rv T n (.ok a)) := by
        intro s1
        refine wp_bd (wp_mono (c_if (p := 0) h4 (by decide) (fun a e => by cases e)) ?_)
        rintro _ m6 ⟨⟨h6, _⟩, _⟩
        exact wp_ret ⟨h6, fun b e => by cases e⟩
      exact wp_if (fun _ => F 1) (fun _ => wp_if (fun _ => F 0) (fun _ => F 1))
theorem c_stop (h : CO m T n r) (hT : Tp T) : Wp (fX3_readStop m) (fun _ m2 => CO m2 T n (sStop T n r) ∧ FX m2 m) := by
  refine wp_FX ?_ (kf_X3_readStop _) (kw_X3_readStop _) (by decide)
  unfold fX3_readStop fX3_readStop_K18
  cases r with
  | error e0 =>
    obtain ⟨f, p⟩ := e0
    refine wp_bd (wp_mono (c_tokE h hT) ?_)
    rintro _ m2 ⟨h2, _⟩
    have E : ∀ s1 : Int32, Wp (ax_bd (fX3_refuseIf s1 1 m2) fun _ m4 => some ((), m4)) (fun _ m2 => CO m2 T n (sStop T n ((.error (f, p))))) := by
      intro s1
      refine wp_bd (wp_mono (c_if (p := 0) h2 (by decide) (fun a e => by cases e)) ?_)
      rintro _ m6 ⟨⟨h6, _⟩, _⟩
      exact wp_ret h6
    exact wp_if (fun _ => E 0) (fun _ => E 1)
  | ok a =>
    refine wp_bd (wp_mono (c_tok h hT) ?_)
    rintro _ m2 ⟨⟨h2, g7, g8, _, _⟩, _⟩
    refine wp_if (fun c => ?_) (fun c => ?_)
    · rw [t_eq, g7, show Int32.toInt 3 = 3 from rfl] at c
      refine wp_bd (wp_mono (c_if (p := (tkp T n a : Int)) h2 (by decide) (fun _ _ => g8)) ?_)
      rintro _ m4 ⟨⟨h4, _⟩, _⟩
      rw [sIf_f (fun g => g rfl)] at h4
      rw [sStop_t (by omega)]
      exact wp_ret h4
    · rw [t_eq, g7, show Int32.toInt 3 = 3 from rfl] at c
      refine wp_bd (wp_mono (c_if (p := (tkp T n a : Int)) h2 (by decide) (fun _ _ => g8)) ?_)
      rintro _ m4 ⟨⟨h4, _⟩, _⟩
      rw [sIf_t (by decide)] at h4
      rw [sStop_f (by omega)]
      exact wp_ret h4
end CST
