/-! names: the class's steps; the reference's steps -/
def nf (f : Nat → Int) (N : Nat) (z : Int) : Bool := decide (∀ i, i < N → f i ≠ z)
theorem nf_neg {f : Nat → Int} {N : Nat} {z : Int} {v : Int} (h : FndA f N z v) : v = -1 ↔ nf f N z = true := by
  unfold nf
  rw [decide_eq_true_iff]
  rcases h with ⟨h1, h2⟩ | ⟨i, h1, h2, h3, h4⟩
  · exact ⟨fun _ => h2, fun _ => h1⟩
  · exact ⟨fun g => by omega, fun g => absurd h3 (g i h1)⟩
section CNM
variable {m : ax_M} {T : Nat → Int} {n : Nat} {r : Rs}
theorem sX3_isOfLanguage (x : Int32) : Rd (fX3_isOfLanguage x m) m (if kwd x.toInt then 1 else 0) := by
  unfold fX3_isOfLanguage fX3_isOfLanguage_K42 fX3_isOfLanguage_K47
  have yes : ∀ j, j < 7 → x.toInt = WV j → Wp (some (vp_nar .boolean 1, m)) (fun r m2 => r.toInt = (if kwd x.toInt then 1 else 0) ∧ m2 = m) := by
    intro j hj e
    refine wp_ret ⟨?_, rfl⟩
    rw [if_pos ⟨j, hj, e⟩]; rfl
  refine rd_wp (wp_if (fun c => yes 0 (by decide) (t_eq.mp c)) (fun c0 => wp_if (fun c => yes 1 (by decide) (t_eq.mp c)) (fun c1 => wp_if (fun c => yes 2 (by decide) (t_eq.mp c)) (fun c2 => wp_if (fun c => yes 3 (by decide) (t_eq.mp c)) (fun c3 => wp_if (fun c => yes 4 (by decide) (t_eq.mp c)) (fun c4 => wp_if (fun c => yes 5 (by decide) (t_eq.mp c)) (fun c5 => wp_if (fun c => yes 6 (by decide) (t_eq.mp c)) (fun c6 => wp_ret ⟨?_, rfl⟩))))))))
  rw [if_neg]
  · rfl
  · rintro ⟨j, hj, e⟩
    have hj' : j = 0 ∨ j = 1 ∨ j = 2 ∨ j = 3 ∨ j = 4 ∨ j = 5 ∨ j = 6 := by omega
    rcases hj' with rfl | rfl | rfl | rfl | rfl | rfl | rfl
    · exact c0 (t_eq.mpr e)
    · exact c1 (t_eq.mpr e)
    · exact c2 (t_eq.mpr e)
    · exact c3 (t_eq.mpr e)
    · exact c4 (t_eq.mpr e)
    · exact c5 (t_eq.mpr e)
    · exact c6 (t_eq.mpr e)
def NmO (m2 : ax_M) (T : Nat → Int) (n : Nat) (r : Rs) (f : Nat → Int) (N : Nat) (v : Int) : Prop := CO m2 T n (sName T n r) ∧ ∀ a, sName T n r = .ok a → FndA f N (rv T n r) v ∧ (m2.1 15 9).toInt = rv T n r ∧ (m2.1 15 8).toInt = rp T n r
theorem c_name (h : CO m T n r) (hT : Tp T) (cnt : Int32) (N : Nat) (f : Nat → Int) (hcnt : cnt.toInt = (N : Int)) (hN : N ≤ 10) (hf : ∀ i, i < N → (m.1 20 i).toInt = f i) : Wp (fX3_readName cnt m) (fun v m2 => NmO m2 T n r f N v.toInt ∧ FX m2 m) := by
  refine wp_FX ?_ (kf_X3_readName _ _) (kw_X3_readName _ _) (by decide)
  unfold fX3_readName fX3_readName_K23
  have tail : ∀ (m2 : ax_M) (r2 : Rs) (s1 : Int32) (p : Int), FX m2 m → CO m2 T n r2 → (∀ a, r2 = .ok a → (m2.1 15 8).toInt = p) → Wp (fX3_readName_K28 cnt s1 m2) (fun v m3 => CO m3 T n (sIf (s1 ≠ 0) 1 p r2) ∧ m3.1 15 9 = m2.1 15 9 ∧ m3.1 15 8 = m2.1 15 8 ∧ FndA f N (m2.1 15 9).toInt v.toInt) := by
    intro m2 r2 s1 p hx h2 hp
    unfold fX3_readName_K28
    refine wp_bd (wp_mono (c_if h2 (by decide) hp) ?_)
    rintro _ m4 ⟨⟨h4, f9, f8⟩, hx4⟩
    refine wp_bd (wp_mono (lookc_ok (a := 20) (n0 := 10) N f hcnt hN (by omega) (fun i hi => by rw [hx4.1 20 (by decide), hx.1 20 (by decide)]; exact hf i hi)) ?_)
    rintro v _ ⟨rfl, hv⟩
    refine wp_ret ⟨h4, f9, f8, ?_⟩
    rw [← f9]; exact hv
  cases r with
  | error e0 =>
    refine wp_bd (wp_mono (c_tokE (f := e0.1) (p := e0.2) h hT) ?_)
    rintro _ m2 ⟨h2, hx⟩
    have E : ∀ s1 : Int32, Wp (fX3_readName_K28 cnt s1 m2) (fun v m3 => NmO m3 T n (.error e0) f N v.toInt) := by
      intro s1
      refine wp_mono (tail m2 (.error e0) s1 0 hx h2 (fun a e => by cases e)) ?_
      rintro v m3 ⟨h3, _⟩
      exact ⟨h3, fun a e => by cases e⟩
    refine wp_if (fun c => wp_rdf (sX3_isOfLanguage _) (fun v e => wp_if (fun c2 => E 0) (fun c2 => E 1))) (fun c => E 1)
  | ok a =>
    refine wp_bd (wp_mono (c_tok h hT) ?_)
    rintro _ m2 ⟨⟨h2, g7, g8, g9, _⟩, hx⟩
    have bad : ¬ (tkk T n a = 1 ∧ ¬ kwd (tkv T n a)) → Wp (fX3_readName_K28 cnt 1 m2) (fun v m3 => NmO m3 T n (.ok a) f N v.toInt) := by
      intro hb
      refine wp_mono (tail m2 _ 1 (tkp T n a) hx h2 (fun _ _ => g8)) ?_
      rintro v m3 ⟨h3, _⟩
      rw [sIf_t (by decide)] at h3
      unfold NmO
      rw [sName_f hb]
      exact ⟨h3, fun a e => by cases e⟩
    refine wp_if (fun c => ?_) (fun c => bad (fun g => c ?_))
    · rw [t_eq, g7, show Int32.toInt 1 = 1 from rfl] at c
      have c2 : tkk T n a = 1 := by omega
      have g9 := g9 c2
      refine wp_rdf (sX3_isOfLanguage _) (fun v e => wp_if (fun c3 => ?_) (fun c3 => bad (fun g => g.2 ?_)))
      · have hk := not_of e c3
        rw [g9] at hk
        refine wp_mono (tail m2 _ 0 (tkp T n a) hx h2 (fun _ _ => g8)) ?_
        rintro v m3 ⟨h3, e9, e8, hv⟩
        rw [sIf_f (fun g => g rfl)] at h3
        unfold NmO
        rw [sName_t ⟨c2, hk⟩]
        refine ⟨h3, fun b _ => ⟨?_, ?_, ?_⟩⟩
        · rw [g9] at hv; exact hv
        · rw [e9]; exact g9
        · rw [e8]; exact g8
      · have hk := yes_of e c3
        rw [g9] at hk
        exact hk
    · rw [t_eq, g7, g.1]; rfl
theorem c_name1 (h : CO m T n r) (hT : Tp T) (cnt : Int32) (N : Nat) (f : Nat → Int) (hcnt : cnt.toInt = (N : Int)) (hN : N ≤ 4) (hf : ∀ i, i < N → (m.1 17 i).toInt = f i) : Wp (fX3_readName_1 cnt m) (fun v m2 => NmO m2 T n r f N v.toInt ∧ FX m2 m) := by
  refine wp_FX ?_ (kf_X3_readName_1 _ _) (kw_X3_readName_1 _ _) (by decide)
  unfold fX3_readName_1 fX3_readName_1_K23
  have tail : ∀ (m2 : ax_M) (r2 : Rs) (s1 : Int32) (p : Int), FX m2 m → CO m2 T n r2 → (∀ a, r2 = .ok a → (m2.1 15 8).toInt = p) → Wp (fX3_readName_1_K28 cnt s1 m2) (fun v m3 => CO m3 T n (sIf (s1 ≠ 0) 1 p r2) ∧ m3.1 15 9 = m2.1 15 9 ∧ m3.1 15 8 = m2.1 15 8 ∧ FndA f N (m2.1 15 9).toInt v.toInt) := by
    intro m2 r2 s1 p hx h2 hp
    unfold fX3_readName_1_K28
    refine wp_bd (wp_mono (c_if h2 (by decide) hp) ?_)
    rintro _ m4 ⟨⟨h4, f9, f8⟩, hx4⟩
    refine wp_bd (wp_mono (lookc_ok (a := 17) (n0 := 4) N f hcnt hN (by omega) (fun i hi => by rw [hx4.1 17 (by decide), hx.1 17 (by decide)]; exact hf i hi)) ?_)
    rintro v _ ⟨rfl, hv⟩
    refine wp_ret ⟨h4, f9, f8, ?_⟩
    rw [← f9]; exact hv
  cases r with
  | error e0 =>
    refine wp_bd (wp_mono (c_tokE (f := e0.1) (p := e0.2) h hT) ?_)
    rintro _ m2 ⟨h2, hx⟩
    have E : ∀ s1 : Int32, Wp (fX3_readName_1_K28 cnt s1 m2) (fun v m3 => NmO m3 T n (.error e0) f N v.toInt) := by
      intro s1
      refine wp_mono (tail m2 (.error e0) s1 0 hx h2 (fun a e => by cases e)) ?_
      rintro v m3 ⟨h3, _⟩
      exact ⟨h3, fun a e => by cases e⟩
    refine wp_if (fun c => wp_rdf (sX3_isOfLanguage _) (fun v e => wp_if (fun c2 => E 0) (fun c2 => E 1))) (fun c => E 1)
  | ok a =>
    refine wp_bd (wp_mono (c_tok h hT) ?_)
    rintro _ m2 ⟨⟨h2, g7, g8, g9, _⟩, hx⟩
    have bad : ¬ (tkk T n a = 1 ∧ ¬ kwd (tkv T n a)) → Wp (fX3_readName_1_K28 cnt 1 m2) (fun v m3 => NmO m3 T n (.ok a) f N v.toInt) := by
      intro hb
      refine wp_mono (tail m2 _ 1 (tkp T n a) hx h2 (fun _ _ => g8)) ?_
      rintro v m3 ⟨h3, _⟩
      rw [sIf_t (by decide)] at h3
      unfold NmO
      rw [sName_f hb]
      exact ⟨h3, fun a e => by cases e⟩
    refine wp_if (fun c => ?_) (fun c => bad (fun g => c ?_))
    · rw [t_eq, g7, show Int32.toInt 1 = 1 from rfl] at c
      have c2 : tkk T n a = 1 := by omega
      have g9 := g9 c2
      refine wp_rdf (sX3_isOfLanguage _) (fun v e => wp_if (fun c3 => ?_) (fun c3 => bad (fun g => g.2 ?_)))
      · have hk := not_of e c3
        rw [g9] at hk
        refine wp_mono (tail m2 _ 0 (tkp T n a) hx h2 (fun _ _ => g8)) ?_
        rintro v m3 ⟨h3, e9, e8, hv⟩
        rw [sIf_f (fun g => g rfl)] at h3
        unfold NmO
        rw [sName_t ⟨c2, hk⟩]
        refine ⟨h3, fun b _ => ⟨?_, ?_, ?_⟩⟩
        · rw [g9] at hv; exact hv
        · rw [e9]; exact g9
        · rw [e8]; exact g8
      · have hk := yes_of e c3
        rw [g9] at hk
        exact hk
    · rw [t_eq, g7, g.1]; rfl
end CNM
