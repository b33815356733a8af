/-! the invariant of the law's loop; each pair of calls keeps it and answers alike -/
def CZ (m : ax_M) (N : Nat) (T : Nat → Int) (f q : Int) : Prop := ((m.1 0 1).toInt = (N : Int) ∧ ∀ i, i < 700 → (m.1 1 i).toInt = T i) ∧ (m.1 15 2).toInt = f ∧ (m.1 15 3).toInt = q
def RZ (m : ax_M) (N : Nat) (T : Nat → Int) (f q : Int) : Prop := ((m.1 57 2).toInt = (N : Int) ∧ ∀ i, i < 700 → (m.1 58 i).toInt = T i) ∧ (m.1 57 26).toInt = f ∧ (m.1 57 27).toInt = q
def GI (ν : Nv) (H : Nat → Nv) (c : Nat) (b : Bool) (I : Nv) (N : Nat) (T : Nat → Int) : Prop := Vd ν ∧ HV ν H c b I ∧ Tp T ∧ N ≤ 700
def INV (m : ax_M) : Prop := ∃ (ν : Nv) (H : Nat → Nv) (c : Nat) (b : Bool) (I : Nv) (N : Nat) (T : Nat → Int) (f q : Int), GI ν H c b I N T ∧ (CS m ν H c b I ∧ CZ m N T f q) ∧ (RS m ν H c b I ∧ RZ m N T f q)
def Fhi (m2 m : ax_M) : Prop := ∀ a, 57 ≤ a → m2.1 a = m.1 a
def Flo (m2 m : ax_M) : Prop := ∀ a, a < 57 → m2.1 a = m.1 a ∧ m2.2 a = m.2 a
section PAIRS
variable {m m2 : ax_M} {ν : Nv} {H : Nat → Nv} {c : Nat} {b : Bool} {I : Nv} {N : Nat} {T : Nat → Int} {f q : Int} {α : Type} {S W : List Nat} {t : Option (α × ax_M)} {Q : α → ax_M → Prop}
theorem RS_hi (h : RS m ν H c b I) (hf : Fhi m2 m) : RS m2 ν H c b I := ⟨RN_keep h.1 (fun a h1 _ => hf a (by omega)), RPI_keep h.2 (by rw [hf 57 (by omega)]) (by rw [hf 57 (by omega)]) (hf 75 (by omega))⟩
theorem RZ_hi (h : RZ m N T f q) (hf : Fhi m2 m) : RZ m2 N T f q := by
  unfold RZ at *
  rw [hf 57 (by omega), hf 58 (by omega)]
  exact h
theorem CS_lo (h : CS m ν H c b I) (hf : Flo m2 m) : CS m2 ν H c b I := CS_keep h (fun a _ h2 => (hf a (by omega)).1) (fun a _ h2 => hf a (by omega))
theorem CZ_lo (h : CZ m N T f q) (hf : Flo m2 m) : CZ m2 N T f q := by
  unfold CZ at *
  rw [(hf 0 (by omega)).1, (hf 1 (by omega)).1, (hf 15 (by omega)).1]
  exact h
/-- the rest of the class's cells, by the frame -/
theorem cz_k (h : CZ m N T f q) (hw : Wp t Q) (hk : Kp S t m) (hS : S.all (fun a => decide (a ≠ 0 ∧ a ≠ 1 ∧ a ≠ 15 ∧ a < 57)) = true) : Wp t (fun r m2 => Q r m2 ∧ CZ m2 N T f q ∧ Fhi m2 m ∧ ∀ a, a ∉ S → m2.1 a = m.1 a ∧ m2.2 a = m.2 a) := by
  refine wp_mono (wp_keep hw hk) ?_
  rintro r m2 ⟨g1, g2⟩
  have hn : ∀ a, (a = 0 ∨ a = 1 ∨ a = 15 ∨ 57 ≤ a) → a ∉ S := by
    intro a ha hin
    have := of_decide_eq_true (List.all_eq_true.mp hS a hin)
    omega
  refine ⟨g1, ?_, fun a ha => (g2 a (hn a (by omega))).1, g2⟩
  unfold CZ at *
  rw [(g2 0 (hn 0 (by omega))).1, (g2 1 (hn 1 (by omega))).1, (g2 15 (hn 15 (by omega))).1]
  exact h
/-- the rest of the reference's cells, by the frames -/
theorem rz_k (h : RZ m N T f q) (hw : Wp t Q) (hk : Kp S t m) (hq : Kq W t m) (hS : S.all (fun a => decide (57 ≤ a ∧ a ≠ 58)) = true) (hW : W.all (fun a => decide (a ≠ 5702 ∧ a ≠ 5726 ∧ a ≠ 5727)) = true) : Wp t (fun r m2 => Q r m2 ∧ RZ m2 N T f q ∧ Flo m2 m ∧ (∀ a, a ∉ S → m2.1 a = m.1 a) ∧ ∀ j, 5700 + j ∉ W → m2.1 57 j = m.1 57 j) := by
  refine wp_mono (wp_keq (wp_keep hw hk) hq) ?_
  rintro r m2 ⟨⟨g1, g2⟩, g3⟩
  have hn : ∀ a, (a < 57 ∨ a = 58) → a ∉ S := by
    intro a ha hin
    have := of_decide_eq_true (List.all_eq_true.mp hS a hin)
    omega
  have hn2 : ∀ a, (a = 5702 ∨ a = 5726 ∨ a = 5727) → a ∉ W := by
    intro a ha hin
    have := of_decide_eq_true (List.all_eq_true.mp hW a hin)
    omega
  refine ⟨g1, ?_, fun a ha => g2 a (hn a (by omega)), fun a ha => (g2 a ha).1, fun j hj => g3 57 j (by decide) hj⟩
  unfold RZ at *
  rw [(g2 58 (hn 58 (by omega))).1, g3 57 2 (by decide) (hn2 5702 (by omega)), g3 57 26 (by decide) (hn2 5726 (by omega)), g3 57 27 (by decide) (hn2 5727 (by omega))]
  exact h
theorem csB (h : CS m ν H c b I) (hn : CN m2 ν) (ht : TIn m2 ν) (hk : ∀ a, a ∉ S → m2.1 a = m.1 a ∧ m2.2 a = m.2 a) (hS : S.all (fun a => decide (a ≠ 29 ∧ a ≠ 30 ∧ a ≠ 31 ∧ a ≠ 41 ∧ a ≠ 45)) = true) : CS m2 ν H c b I := by
  have hx : ∀ a, (a = 29 ∨ a = 30 ∨ a = 31 ∨ a = 41 ∨ a = 45) → a ∉ S := by
    intro a ha hin
    have := of_decide_eq_true (List.all_eq_true.mp hS a hin)
    omega
  exact ⟨hn, ht, LIn_keep h.2.2.1 (hk 41 (hx 41 (by omega))).1 (hk 45 (hx 45 (by omega))).1 (hk 41 (hx 41 (by omega))).2, CPI_keep h.2.2.2 (hk 29 (hx 29 (by omega))).1 (hk 30 (hx 30 (by omega))).1 (hk 31 (hx 31 (by omega))).1⟩
theorem csD (h : CS m ν H c b I) (hn : CN m2 ν) (hl : LIn m2 ν) (hk : ∀ a, a ∉ S → m2.1 a = m.1 a ∧ m2.2 a = m.2 a) (hS : S.all (fun a => decide (a ≠ 29 ∧ a ≠ 30 ∧ a ≠ 31 ∧ a ≠ 32 ∧ a ≠ 33 ∧ a ≠ 35 ∧ a ≠ 36)) = true) : CS m2 ν H c b I := by
  have hx : ∀ a, (a = 29 ∨ a = 30 ∨ a = 31 ∨ a = 32 ∨ a = 33 ∨ a = 35 ∨ a = 36) → a ∉ S := by
    intro a ha hin
    have := of_decide_eq_true (List.all_eq_true.mp hS a hin)
    omega
  exact ⟨hn, TIn_keep h.2.1 (hk 32 (hx 32 (by omega))).1 (hk 33 (hx 33 (by omega))).1 (hk 35 (hx 35 (by omega))).1 (hk 36 (hx 36 (by omega))).1, hl, CPI_keep h.2.2.2 (hk 29 (hx 29 (by omega))).1 (hk 30 (hx 30 (by omega))).1 (hk 31 (hx 31 (by omega))).1⟩
theorem csC (h : CS m ν H c b I) (hn : CN m2 ν) (hk : ∀ a, a ∉ S → m2.1 a = m.1 a ∧ m2.2 a = m.2 a) (hS : S.all (fun a => decide (a ≠ 29 ∧ a ≠ 30 ∧ a ≠ 31 ∧ a ≠ 32 ∧ a ≠ 33 ∧ a ≠ 35 ∧ a ≠ 36)) = true) (hS2 : S.all (fun a => decide (a ≠ 41 ∧ a ≠ 45)) = true) : CS m2 ν H c b I := by
  have hx : ∀ a, (a = 41 ∨ a = 45) → a ∉ S := by
    intro a ha hin
    have := of_decide_eq_true (List.all_eq_true.mp hS2 a hin)
    omega
  exact csD h hn (LIn_keep h.2.2.1 (hk 41 (hx 41 (by omega))).1 (hk 45 (hx 45 (by omega))).1 (hk 41 (hx 41 (by omega))).2) hk hS
/-- the reference's past, by the frames -/
theorem rsA (h : RS m ν H c b I) (hn : RN m2 ν) (hk : ∀ a, a ∉ S → m2.1 a = m.1 a) (hq : ∀ j, 5700 + j ∉ W → m2.1 57 j = m.1 57 j) (hS : S.all (fun a => decide (a ≠ 75)) = true) (hW : W.all (fun a => decide (a ≠ 5730 ∧ a ≠ 5731)) = true) : RS m2 ν H c b I := by
  have hx : 75 ∉ S := by
    intro hin
    have := of_decide_eq_true (List.all_eq_true.mp hS 75 hin)
    omega
  have hy : ∀ a, (a = 5730 ∨ a = 5731) → a ∉ W := by
    intro a ha hin
    have := of_decide_eq_true (List.all_eq_true.mp hW a hin)
    omega
  exact ⟨hn, RPI_keep h.2 (hq 30 (hy 5730 (by omega))) (hq 31 (hy 5731 (by omega))) (hk 75 hx)⟩
/-- a pair of calls that change no net -/
theorem two {P P' : Int → Prop} (π : α → Int) {t9 : ax_M → Option (α × ax_M)} (hg : GI ν H c b I N T) (hr : RS m ν H c b I ∧ RZ m N T f q) (h8 : Wp t (fun r m1 => P (π r) ∧ (CS m1 ν H c b I ∧ CZ m1 N T f q) ∧ Fhi m1 m)) (h9 : ∀ m1, RS m1 ν H c b I → RZ m1 N T f q → Wp (t9 m1) (fun r m2 => P' (π r) ∧ (RS m2 ν H c b I ∧ RZ m2 N T f q) ∧ Flo m2 m1)) (hu : ∀ x y, P x → P' y → x = y) : Wp t (fun r m1 => Wp (t9 m1) (fun r' m2 => π r = π r' ∧ INV m2)) := by
  refine wp_mono h8 ?_
  rintro r m1 ⟨p1, ⟨c1, c2⟩, f1⟩
  refine wp_mono (h9 m1 (RS_hi hr.1 f1) (RZ_hi hr.2 f1)) ?_
  rintro r' m2 ⟨p2, r2, f2⟩
  exact ⟨hu _ _ p1 p2, ν, H, c, b, I, N, T, f, q, hg, ⟨CS_lo c1 f2, CZ_lo c2 f2⟩, r2⟩
theorem st_named (hi : INV m) (k z : Int32) : Wp (fX8_named k z m) (fun r m1 => Wp (fX9_named k z m1) (fun r' m2 => r.toInt = r'.toInt ∧ INV m2)) := by
  obtain ⟨ν, H, c, b, I, N, T, f, q, hg, hc, hr⟩ := hi
  refine two (P := fun x => AnsNm ν k.toInt z.toInt x) (P' := fun x => AnsNm ν k.toInt z.toInt x) Int32.toInt hg hr ?_ (fun m1 g1 g2 => ?_) (fun x y g1 g2 => ansNm_unique g1 g2)
  · refine wp_mono (cz_k hc.2 (sX8_named hc.1.1 hg.1 k z) (kf_X8_named _ _ _) (by decide)) ?_
    rintro r m2 ⟨g1, g2, g3, g4⟩
    refine ⟨g1.1, ⟨?_, g2⟩, g3⟩
    rw [g1.2]; exact hc.1
  · refine wp_mono (rz_k g2 (sX9_named g1.1 hg.1 k z) (kf_X9_named _ _ _) (kw_X9_named _ _ _) (by decide) (by decide)) ?_
    rintro r m2 ⟨y1, y2, y3, y4, y5⟩
    exact ⟨y1.1, ⟨rsA g1 y1.2 y4 y5 (by decide) (by decide), y2⟩, y3⟩
theorem st_path (hi : INV m) (p k : Int32) : Wp (fX8_path p k m) (fun r m1 => Wp (fX9_path p k m1) (fun r' m2 => r.toInt = r'.toInt ∧ INV m2)) := by
  obtain ⟨ν, H, c, b, I, N, T, f, q, hg, hc, hr⟩ := hi
  refine two (P := fun x => x = pv ν p.toInt k.toInt) (P' := fun x => x = pv ν p.toInt k.toInt) Int32.toInt hg hr ?_ (fun m1 g1 g2 => ?_) (fun x y g1 g2 => g1.trans g2.symm)
  · refine wp_mono (cz_k hc.2 (sX8_path hc.1.1 hg.1 p k) (kf_X8_path _ _ _) (by decide)) ?_
    rintro r m2 ⟨g1, g2, g3, g4⟩
    refine ⟨g1.2, ⟨?_, g2⟩, g3⟩
    rw [g1.1]; exact hc.1
  · refine wp_mono (rz_k g2 (sX9_path g1.1 hg.1 p k) (kf_X9_path _ _ _) (kw_X9_path _ _ _) (by decide) (by decide)) ?_
    rintro r m2 ⟨y1, y2, y3, y4, y5⟩
    exact ⟨y1.2, ⟨rsA g1 y1.1 y4 y5 (by decide) (by decide), y2⟩, y3⟩
theorem st_opens (hi : INV m) (p k : Int32) : Wp (fX8_opens p k m) (fun r m1 => Wp (fX9_opens p k m1) (fun r' m2 => r.toInt = r'.toInt ∧ INV m2)) := by
  obtain ⟨ν, H, c, b, I, N, T, f, q, hg, hc, hr⟩ := hi
  refine two (P := fun x => x = ov ν p.toInt k.toInt) (P' := fun x => x = ov ν p.toInt k.toInt) Int32.toInt hg hr ?_ (fun m1 g1 g2 => ?_) (fun x y g1 g2 => g1.trans g2.symm)
  · refine wp_mono (cz_k hc.2 (sX8_opens hc.1.1 hg.1 p k) (kf_X8_opens _ _ _) (by decide)) ?_
    rintro r m2 ⟨g1, g2, g3, g4⟩
    refine ⟨g1.2, ⟨?_, g2⟩, g3⟩
    rw [g1.1]; exact hc.1
  · refine wp_mono (rz_k g2 (sX9_opens g1.1 hg.1 p k) (kf_X9_opens _ _ _) (kw_X9_opens _ _ _) (by decide) (by decide)) ?_
    rintro r m2 ⟨y1, y2, y3, y4, y5⟩
    exact ⟨y1.2, ⟨rsA g1 y1.1 y4 y5 (by decide) (by decide), y2⟩, y3⟩
theorem st_leaves (hi : INV m) (p : Int32) : Wp (fX8_leaves p m) (fun r m1 => Wp (fX9_leaves p m1) (fun r' m2 => r.toInt = r'.toInt ∧ INV m2)) := by
  obtain ⟨ν, H, c, b, I, N, T, f, q, hg, hc, hr⟩ := hi
  refine two (P := fun x => x = lvv ν p.toInt) (P' := fun x => x = lvv ν p.toInt) Int64.toInt hg hr ?_ (fun m1 g1 g2 => ?_) (fun x y g1 g2 => g1.trans g2.symm)
  · refine wp_mono (cz_k hc.2 (sX8_leaves hc.1.1 hg.1 hc.1.2.1 p) (kf_X8_leaves _ _) (by decide)) ?_
    rintro r m2 ⟨g1, g2, g3, g4⟩
    exact ⟨g1.1, ⟨csB hc.1 g1.2.1 g1.2.2 g4 (by decide), g2⟩, g3⟩
  · refine wp_mono (rz_k g2 (sX9_leaves g1.1 hg.1 p) (kf_X9_leaves _ _) (kw_X9_leaves _ _) (by decide) (by decide)) ?_
    rintro r m2 ⟨y1, y2, y3, y4, y5⟩
    exact ⟨y1.1, ⟨rsA g1 y1.2 y4 y5 (by decide) (by decide), y2⟩, y3⟩
theorem st_comes (hi : INV m) (p : Int32) : Wp (fX8_comes p m) (fun r m1 => Wp (fX9_comes p m1) (fun r' m2 => r.toInt = r'.toInt ∧ INV m2)) := by
  obtain ⟨ν, H, c, b, I, N, T, f, q, hg, hc, hr⟩ := hi
  refine two (P := fun x => x = cmv ν p.toInt) (P' := fun x => x = cmv ν p.toInt) Int64.toInt hg hr ?_ (fun m1 g1 g2 => ?_) (fun x y g1 g2 => g1.trans g2.symm)
  · refine wp_mono (cz_k hc.2 (sX8_comes hc.1.1 hg.1 hc.1.2.1 p) (kf_X8_comes _ _) (by decide)) ?_
    rintro r m2 ⟨g1, g2, g3, g4⟩
    exact ⟨g1.1, ⟨csB hc.1 g1.2.1 g1.2.2 g4 (by decide), g2⟩, g3⟩
  · refine wp_mono (rz_k g2 (sX9_comes g1.1 hg.1 p) (kf_X9_comes _ _) (kw_X9_comes _ _) (by decide) (by decide)) ?_
    rintro r m2 ⟨y1, y2, y3, y4, y5⟩
    exact ⟨y1.1, ⟨rsA g1 y1.2 y4 y5 (by decide) (by decide), y2⟩, y3⟩
theorem st_room (hi : INV m) (p : Int32) : Wp (fX8_room p m) (fun r m1 => Wp (fX9_room p m1) (fun r' m2 => r.toInt = r'.toInt ∧ INV m2)) := by
  obtain ⟨ν, H, c, b, I, N, T, f, q, hg, hc, hr⟩ := hi
  refine two (P := fun x => x = rmv ν p.toInt) (P' := fun x => x = rmv ν p.toInt) Int64.toInt hg hr ?_ (fun m1 g1 g2 => ?_) (fun x y g1 g2 => g1.trans g2.symm)
  · refine wp_mono (cz_k hc.2 (sX8_room hc.1.1 hg.1 hc.1.2.1 p) (kf_X8_room _ _) (by decide)) ?_
    rintro r m2 ⟨g1, g2, g3, g4⟩
    exact ⟨g1.1, ⟨csB hc.1 g1.2.1 g1.2.2 g4 (by decide), g2⟩, g3⟩
  · refine wp_mono (rz_k g2 (sX9_room g1.1 hg.1 p) (kf_X9_room _ _) (kw_X9_room _ _) (by decide) (by decide)) ?_
    rintro r m2 ⟨y1, y2, y3, y4, y5⟩
    exact ⟨y1.1, ⟨rsA g1 y1.2 y4 y5 (by decide) (by decide), y2⟩, y3⟩
theorem st_from (hi : INV m) (p : Int32) : Wp (fX8_from p m) (fun r m1 => Wp (fX9_from p m1) (fun r' m2 => r.toInt = r'.toInt ∧ INV m2)) := by
  obtain ⟨ν, H, c, b, I, N, T, f, q, hg, hc, hr⟩ := hi
  refine two (P := fun x => AnsFr ν p.toInt x) (P' := fun x => AnsFr ν p.toInt x) Int32.toInt hg hr ?_ (fun m1 g1 g2 => ?_) (fun x y g1 g2 => ansFr_unique g1 g2)
  · refine wp_mono (cz_k hc.2 (sX8_from hc.1.1 hg.1 hc.1.2.1 p) (kf_X8_from _ _) (by decide)) ?_
    rintro r m2 ⟨g1, g2, g3, g4⟩
    exact ⟨g1.1, ⟨csB hc.1 g1.2.1 g1.2.2 g4 (by decide), g2⟩, g3⟩
  · refine wp_mono (rz_k g2 (sX9_from g1.1 hg.1 p) (kf_X9_from _ _) (kw_X9_from _ _) (by decide) (by decide)) ?_
    rintro r m2 ⟨y1, y2, y3, y4, y5⟩
    exact ⟨y1.1, ⟨rsA g1 y1.2 y4 y5 (by decide) (by decide), y2⟩, y3⟩
theorem st_chain (hi : INV m) (p k : Int32) : Wp (fX8_chain p k m) (fun r m1 => Wp (fX9_chain p k m1) (fun r' m2 => r.toInt = r'.toInt ∧ INV m2)) := by
  obtain ⟨ν, H, c, b, I, N, T, f, q, hg, hc, hr⟩ := hi
  refine two (P := fun x => AnsCn ν p.toInt k.toInt x) (P' := fun x => AnsCn ν p.toInt k.toInt x) Int32.toInt hg hr ?_ (fun m1 g1 g2 => ?_) (fun x y g1 g2 => ansCn_unique g1 g2)
  · refine wp_mono (cz_k hc.2 (sX8_chain hc.1.1 hg.1 hc.1.2.1 p k) (kf_X8_chain _ _ _) (by decide)) ?_
    rintro r m2 ⟨g1, g2, g3, g4⟩
    exact ⟨g1.1, ⟨csB hc.1 g1.2.1 g1.2.2 g4 (by decide), g2⟩, g3⟩
  · refine wp_mono (rz_k g2 (sX9_chain g1.1 hg.1 p k) (kf_X9_chain _ _ _) (kw_X9_chain _ _ _) (by decide) (by decide)) ?_
    rintro r m2 ⟨y1, y2, y3, y4, y5⟩
    exact ⟨y1.1, ⟨rsA g1 y1.2 y4 y5 (by decide) (by decide), y2⟩, y3⟩
theorem st_which (hi : INV m) (p : Int32) : Wp (fX8_which p m) (fun r m1 => Wp (fX9_which p m1) (fun r' m2 => r.toInt = r'.toInt ∧ INV m2)) := by
  obtain ⟨ν, H, c, b, I, N, T, f, q, hg, hc, hr⟩ := hi
  refine two (P := fun x => x = whv ν p.toInt) (P' := fun x => x = whv ν p.toInt) Int32.toInt hg hr ?_ (fun m1 g1 g2 => ?_) (fun x y g1 g2 => g1.trans g2.symm)
  · refine wp_mono (cz_k hc.2 (sX8_which hc.1.1 hg.1 hc.1.2.1 p) (kf_X8_which _ _) (by decide)) ?_
    rintro r m2 ⟨g1, g2, g3, g4⟩
    exact ⟨g1.1, ⟨csB hc.1 g1.2.1 g1.2.2 g4 (by decide), g2⟩, g3⟩
  · refine wp_mono (rz_k g2 (sX9_which g1.1 hg.1 p) (kf_X9_which _ _) (kw_X9_which _ _) (by decide) (by decide)) ?_
    rintro r m2 ⟨y1, y2, y3, y4, y5⟩
    exact ⟨y1.1, ⟨rsA g1 y1.2 y4 y5 (by decide) (by decide), y2⟩, y3⟩
theorem st_good (hi : INV m) : Wp (fX8_good m) (fun r m1 => Wp (fX9_good m1) (fun r' m2 => r.toInt = r'.toInt ∧ INV m2)) := by
  obtain ⟨ν, H, c, b, I, N, T, f, q, hg, hc, hr⟩ := hi
  refine two (P := fun x => x = gdv ν) (P' := fun x => x = gdv ν) Int32.toInt hg hr ?_ (fun m1 g1 g2 => ?_) (fun x y g1 g2 => g1.trans g2.symm)
  · refine wp_mono (cz_k hc.2 (sX8_good hc.1.1 hg.1 hc.1.2.1) (kf_X8_good _) (by decide)) ?_
    rintro r m2 ⟨g1, g2, g3, g4⟩
    exact ⟨g1.1, ⟨csB hc.1 g1.2.1 g1.2.2 g4 (by decide), g2⟩, g3⟩
  · refine wp_mono (rz_k g2 (sX9_good g1.1 hg.1) (kf_X9_good _) (kw_X9_good _) (by decide) (by decide)) ?_
    rintro r m2 ⟨y1, y2, y3, y4, y5⟩
    exact ⟨y1.1, ⟨rsA g1 y1.2 y4 y5 (by decide) (by decide), y2⟩, y3⟩
theorem st_gap (hi : INV m) (p : Int32) : Wp (fX8_gap p m) (fun r m1 => Wp (fX9_gap p m1) (fun r' m2 => r.toInt = r'.toInt ∧ INV m2)) := by
  obtain ⟨ν, H, c, b, I, N, T, f, q, hg, hc, hr⟩ := hi
  refine two (P := fun x => x = gv ν p.toInt) (P' := fun x => x = gv ν p.toInt) Int64.toInt hg hr ?_ (fun m1 g1 g2 => ?_) (fun x y g1 g2 => g1.trans g2.symm)
  · refine wp_mono (cz_k hc.2 (sX8_gap hc.1.1 hg.1 p) (kf_X8_gap _ _) (by decide)) ?_
    rintro r m2 ⟨g1, g2, g3, g4⟩
    refine ⟨g1.2, ⟨?_, g2⟩, g3⟩
    rw [g1.1]; exact hc.1
  · refine wp_mono (rz_k g2 (sX9_gap g1.1 hg.1 p) (kf_X9_gap _ _) (kw_X9_gap _ _) (by decide) (by decide)) ?_
    rintro r m2 ⟨y1, y2, y3, y4, y5⟩
    exact ⟨y1.2, ⟨rsA g1 y1.1 y4 y5 (by decide) (by decide), y2⟩, y3⟩
theorem st_pad (hi : INV m) (p : Int32) : Wp (fX8_pad p m) (fun r m1 => Wp (fX9_pad p m1) (fun r' m2 => r.toInt = r'.toInt ∧ INV m2)) := by
  obtain ⟨ν, H, c, b, I, N, T, f, q, hg, hc, hr⟩ := hi
  refine two (P := fun x => x = dvv ν p.toInt) (P' := fun x => x = dvv ν p.toInt) Int32.toInt hg hr ?_ (fun m1 g1 g2 => ?_) (fun x y g1 g2 => g1.trans g2.symm)
  · refine wp_mono (cz_k hc.2 (sX8_pad hc.1.1 hg.1 p) (kf_X8_pad _ _) (by decide)) ?_
    rintro r m2 ⟨g1, g2, g3, g4⟩
    refine ⟨g1.2, ⟨?_, g2⟩, g3⟩
    rw [g1.1]; exact hc.1
  · refine wp_mono (rz_k g2 (sX9_pad g1.1 hg.1 p) (kf_X9_pad _ _) (kw_X9_pad _ _) (by decide) (by decide)) ?_
    rintro r m2 ⟨y1, y2, y3, y4, y5⟩
    exact ⟨y1.2, ⟨rsA g1 y1.1 y4 y5 (by decide) (by decide), y2⟩, y3⟩
theorem st_pads (hi : INV m) : Wp (fX8_pads m) (fun r m1 => Wp (fX9_pads m1) (fun r' m2 => r.toInt = r'.toInt ∧ INV m2)) := by
  obtain ⟨ν, H, c, b, I, N, T, f, q, hg, hc, hr⟩ := hi
  refine two (P := fun x => x = sm (pd ν) (nP ν)) (P' := fun x => x = sm (pd ν) (nP ν)) Int32.toInt hg hr ?_ (fun m1 g1 g2 => ?_) (fun x y g1 g2 => g1.trans g2.symm)
  · refine wp_mono (cz_k hc.2 (sX8_pads hc.1.1 hg.1) (kf_X8_pads _) (by decide)) ?_
    rintro r m2 ⟨g1, g2, g3, g4⟩
    refine ⟨g1.2, ⟨?_, g2⟩, g3⟩
    rw [g1.1]; exact hc.1
  · refine wp_mono (rz_k g2 (sX9_pads g1.1 hg.1) (kf_X9_pads _) (kw_X9_pads _) (by decide) (by decide)) ?_
    rintro r m2 ⟨y1, y2, y3, y4, y5⟩
    exact ⟨y1.2, ⟨rsA g1 y1.1 y4 y5 (by decide) (by decide), y2⟩, y3⟩
theorem st_wave (hi : INV m) (p k : Int32) : Wp (fX8_wave p k m) (fun r m1 => Wp (fX9_wave p k m1) (fun r' m2 => r.toInt = r'.toInt ∧ INV m2)) := by
  obtain ⟨ν, H, c, b, I, N, T, f, q, hg, hc, hr⟩ := hi
  refine two (P := fun x => x = wvv ν p.toInt k.toInt) (P' := fun x => x = wvv ν p.toInt k.toInt) Int64.toInt hg hr ?_ (fun m1 g1 g2 => ?_) (fun x y g1 g2 => g1.trans g2.symm)
  · refine wp_mono (cz_k hc.2 (sX8_wave hc.1.1 hg.1 p k) (kf_X8_wave _ _ _) (by decide)) ?_
    rintro r m2 ⟨g1, g2, g3, g4⟩
    exact ⟨g1.1, ⟨csC hc.1 g1.2 g4 (by decide) (by decide), g2⟩, g3⟩
  · refine wp_mono (rz_k g2 (sX9_wave g1.1 hg.1 p k) (kf_X9_wave _ _ _) (kw_X9_wave _ _ _) (by decide) (by decide)) ?_
    rintro r m2 ⟨y1, y2, y3, y4, y5⟩
    exact ⟨y1.1, ⟨rsA g1 y1.2 y4 y5 (by decide) (by decide), y2⟩, y3⟩
theorem st_fails (hi : INV m) (p : Int32) : Wp (fX8_fails p m) (fun r m1 => Wp (fX9_fails p m1) (fun r' m2 => r.toInt = r'.toInt ∧ INV m2)) := by
  obtain ⟨ν, H, c, b, I, N, T, f, q, hg, hc, hr⟩ := hi
  refine two (P := fun x => AnsFl ν p.toInt x) (P' := fun x => AnsFl ν p.toInt x) Int32.toInt hg hr ?_ (fun m1 g1 g2 => ?_) (fun x y g1 g2 => ansFl_unique g1 g2)
  · refine wp_mono (cz_k hc.2 (sX8_fails hc.1.1 hg.1 p) (kf_X8_fails _ _) (by decide)) ?_
    rintro r m2 ⟨g1, g2, g3, g4⟩
    exact ⟨g1.1, ⟨csC hc.1 g1.2 g4 (by decide) (by decide), g2⟩, g3⟩
  · refine wp_mono (rz_k g2 (sX9_fails g1.1 hg.1 p) (kf_X9_fails _ _) (kw_X9_fails _ _) (by decide) (by decide)) ?_
    rintro r m2 ⟨y1, y2, y3, y4, y5⟩
    exact ⟨y1.1, ⟨rsA g1 y1.2 y4 y5 (by decide) (by decide), y2⟩, y3⟩
theorem st_ratio (hi : INV m) (p : Int32) : Wp (fX8_ratio p m) (fun r m1 => Wp (fX9_ratio p m1) (fun r' m2 => r.toInt = r'.toInt ∧ INV m2)) := by
  obtain ⟨ν, H, c, b, I, N, T, f, q, hg, hc, hr⟩ := hi
  refine two (P := fun x => AnsRt ν p.toInt x) (P' := fun x => AnsRt ν p.toInt x) Int64.toInt hg hr ?_ (fun m1 g1 g2 => ?_) (fun x y g1 g2 => ansRt_unique hg.1 g1 g2)
  · refine wp_mono (cz_k hc.2 (sX8_ratio hc.1.1 hg.1 hc.1.2.2.1 p) (kf_X8_ratio _ _) (by decide)) ?_
    rintro r m2 ⟨g1, g2, g3, g4⟩
    exact ⟨g1.1, ⟨csD hc.1 g1.2.1 g1.2.2 g4 (by decide), g2⟩, g3⟩
  · refine wp_mono (rz_k g2 (sX9_ratio g1.1 hg.1 p) (kf_X9_ratio _ _) (kw_X9_ratio _ _) (by decide) (by decide)) ?_
    rintro r m2 ⟨y1, y2, y3, y4, y5⟩
    exact ⟨y1.1, ⟨rsA g1 y1.2 y4 y5 (by decide) (by decide), y2⟩, y3⟩
theorem st_loop (hi : INV m) (p : Int32) : Wp (fX8_loop p m) (fun r m1 => Wp (fX9_loop p m1) (fun r' m2 => r.toInt = r'.toInt ∧ INV m2)) := by
  obtain ⟨ν, H, c, b, I, N, T, f, q, hg, hc, hr⟩ := hi
  refine two (P := fun x => AnsLo ν p.toInt x) (P' := fun x => AnsLo ν p.toInt x) Int32.toInt hg hr ?_ (fun m1 g1 g2 => ?_) (fun x y g1 g2 => ansLo_unique hg.1 g1 g2)
  · refine wp_mono (cz_k hc.2 (sX8_loop hc.1.1 hg.1 hc.1.2.2.1 p) (kf_X8_loop _ _) (by decide)) ?_
    rintro r m2 ⟨g1, g2, g3, g4⟩
    exact ⟨g1.1, ⟨csD hc.1 g1.2.1 g1.2.2 g4 (by decide), g2⟩, g3⟩
  · refine wp_mono (rz_k g2 (sX9_loop g1.1 hg.1 p) (kf_X9_loop _ _) (kw_X9_loop _ _) (by decide) (by decide)) ?_
    rintro r m2 ⟨y1, y2, y3, y4, y5⟩
    exact ⟨y1.1, ⟨rsA g1 y1.2 y4 y5 (by decide) (by decide), y2⟩, y3⟩
theorem st_leastPeriod (hi : INV m) : Wp (fX8_leastPeriod m) (fun r m1 => Wp (fX9_leastPeriod m1) (fun r' m2 => r.toInt = r'.toInt ∧ INV m2)) := by
  obtain ⟨ν, H, c, b, I, N, T, f, q, hg, hc, hr⟩ := hi
  refine two (P := fun x => AnsLp ν x) (P' := fun x => AnsLp ν x) Int32.toInt hg hr ?_ (fun m1 g1 g2 => ?_) (fun x y g1 g2 => ansLp_unique g1 g2)
  · refine wp_mono (cz_k hc.2 (sX8_leastPeriod hc.1.1 hg.1) (kf_X8_leastPeriod _) (by decide)) ?_
    rintro r m2 ⟨g1, g2, g3, g4⟩
    exact ⟨g1.1, ⟨csC hc.1 g1.2 g4 (by decide) (by decide), g2⟩, g3⟩
  · refine wp_mono (rz_k g2 (sX9_leastPeriod g1.1 hg.1) (kf_X9_leastPeriod _) (kw_X9_leastPeriod _) (by decide) (by decide)) ?_
    rintro r m2 ⟨y1, y2, y3, y4, y5⟩
    exact ⟨y1.1, ⟨rsA g1 y1.2 y4 y5 (by decide) (by decide), y2⟩, y3⟩
theorem st_slower (hi : INV m) (p : Int32) : Wp (fX8_slower p m) (fun r m1 => Wp (fX9_slower p m1) (fun r' m2 => r.toInt = r'.toInt ∧ INV m2)) := by
  obtain ⟨ν, H, c, b, I, N, T, f, q, hg, hc, hr⟩ := hi
  refine two (P := fun x => AnsSl ν p.toInt x) (P' := fun x => AnsSl ν p.toInt x) Int32.toInt hg hr ?_ (fun m1 g1 g2 => ?_) (fun x y g1 g2 => ansSl_unique hg.1 g1 g2)
  · refine wp_mono (cz_k hc.2 (sX8_slower hc.1.1 hg.1 p) (kf_X8_slower _ _) (by decide)) ?_
    rintro r m2 ⟨g1, g2, g3, g4⟩
    exact ⟨g1.1, ⟨csC hc.1 g1.2 g4 (by decide) (by decide), g2⟩, g3⟩
  · refine wp_mono (rz_k g2 (sX9_slower g1.1 hg.1 p) (kf_X9_slower _ _) (kw_X9_slower _ _) (by decide) (by decide)) ?_
    rintro r m2 ⟨y1, y2, y3, y4, y5⟩
    exact ⟨y1.1, ⟨rsA g1 y1.2 y4 y5 (by decide) (by decide), y2⟩, y3⟩
theorem st_bestOpens (hi : INV m) (p : Int32) : Wp (fX8_bestOpens p m) (fun r m1 => Wp (fX9_bestOpens p m1) (fun r' m2 => r.toInt = r'.toInt ∧ INV m2)) := by
  obtain ⟨ν, H, c, b, I, N, T, f, q, hg, hc, hr⟩ := hi
  refine two (P := fun x => AnsBo ν p.toInt x) (P' := fun x => AnsBo ν p.toInt x) Int32.toInt hg hr ?_ (fun m1 g1 g2 => ?_) (fun x y g1 g2 => ansBo_unique hg.1 g1 g2)
  · refine wp_mono (cz_k hc.2 (sX8_bestOpens hc.1.1 hg.1 p) (kf_X8_bestOpens _ _) (by decide)) ?_
    rintro r m2 ⟨g1, g2, g3, g4⟩
    exact ⟨g1.1, ⟨csC hc.1 g1.2 g4 (by decide) (by decide), g2⟩, g3⟩
  · refine wp_mono (rz_k g2 (sX9_bestOpens g1.1 hg.1 p) (kf_X9_bestOpens _ _) (kw_X9_bestOpens _ _) (by decide) (by decide)) ?_
    rintro r m2 ⟨y1, y2, y3, y4, y5⟩
    exact ⟨y1.1, ⟨rsA g1 y1.2 y4 y5 (by decide) (by decide), y2⟩, y3⟩
theorem st_bestTwo (hi : INV m) (p k : Int32) : Wp (fX8_bestTwo p k m) (fun r m1 => Wp (fX9_bestTwo p k m1) (fun r' m2 => r.toInt = r'.toInt ∧ INV m2)) := by
  obtain ⟨ν, H, c, b, I, N, T, f, q, hg, hc, hr⟩ := hi
  refine two (P := fun x => AnsBt ν p.toInt k.toInt x) (P' := fun x => AnsBt ν p.toInt k.toInt x) Int32.toInt hg hr ?_ (fun m1 g1 g2 => ?_) (fun x y g1 g2 => ansBt_unique hg.1 g1 g2)
  · refine wp_mono (cz_k hc.2 (sX8_bestTwo hc.1.1 hg.1 p k) (kf_X8_bestTwo _ _ _) (by decide)) ?_
    rintro r m2 ⟨g1, g2, g3, g4⟩
    exact ⟨g1.1, ⟨csC hc.1 g1.2 g4 (by decide) (by decide), g2⟩, g3⟩
  · refine wp_mono (rz_k g2 (sX9_bestTwo g1.1 hg.1 p k) (kf_X9_bestTwo _ _ _) (kw_X9_bestTwo _ _ _) (by decide) (by decide)) ?_
    rintro r m2 ⟨y1, y2, y3, y4, y5⟩
    exact ⟨y1.1, ⟨rsA g1 y1.2 y4 y5 (by decide) (by decide), y2⟩, y3⟩
theorem st_gain (hi : INV m) (p : Int32) : Wp (fX8_gain p m) (fun r m1 => Wp (fX9_gain p m1) (fun r' m2 => r.toInt = r'.toInt ∧ INV m2)) := by
  obtain ⟨ν, H, c, b, I, N, T, f, q, hg, hc, hr⟩ := hi
  refine two (P := fun x => AnsGn ν p.toInt x) (P' := fun x => AnsGn ν p.toInt x) Int32.toInt hg hr ?_ (fun m1 g1 g2 => ?_) (fun x y g1 g2 => ansGn_unique hg.1 g1 g2)
  · refine wp_mono (cz_k hc.2 (sX8_gain hc.1.1 hg.1 p) (kf_X8_gain _ _) (by decide)) ?_
    rintro r m2 ⟨g1, g2, g3, g4⟩
    exact ⟨g1.1, ⟨csC hc.1 g1.2 g4 (by decide) (by decide), g2⟩, g3⟩
  · refine wp_mono (rz_k g2 (sX9_gain g1.1 hg.1 p) (kf_X9_gain _ _) (kw_X9_gain _ _) (by decide) (by decide)) ?_
    rintro r m2 ⟨y1, y2, y3, y4, y5⟩
    exact ⟨y1.1, ⟨rsA g1 y1.2 y4 y5 (by decide) (by decide), y2⟩, y3⟩
theorem st_breaks (hi : INV m) : Wp (fX8_breaks m) (fun r m1 => Wp (fX9_breaks m1) (fun r' m2 => r.toInt = r'.toInt ∧ INV m2)) := by
  obtain ⟨ν, H, c, b, I, N, T, f, q, hg, hc, hr⟩ := hi
  refine two (P := fun x => x = (br ν (ltS ν) : Nat)) (P' := fun x => x = (br ν (ltS ν) : Nat)) Int32.toInt hg hr ?_ (fun m1 g1 g2 => ?_) (fun x y g1 g2 => g1.trans g2.symm)
  · refine wp_mono (cz_k hc.2 (sX8_breaks hc.1.1 hg.1) (kf_X8_breaks _) (by decide)) ?_
    rintro r m2 ⟨g1, g2, g3, g4⟩
    exact ⟨g1.1, ⟨csC hc.1 g1.2 g4 (by decide) (by decide), g2⟩, g3⟩
  · refine wp_mono (rz_k g2 (sX9_breaks g1.1 hg.1) (kf_X9_breaks _) (kw_X9_breaks _) (by decide) (by decide)) ?_
    rintro r m2 ⟨y1, y2, y3, y4, y5⟩
    exact ⟨y1.1, ⟨rsA g1 y1.2 y4 y5 (by decide) (by decide), y2⟩, y3⟩
theorem st_bestMove (hi : INV m) (p : Int32) : Wp (fX8_bestMove p m) (fun r m1 => Wp (fX9_bestMove p m1) (fun r' m2 => r.toInt = r'.toInt ∧ INV m2)) := by
  obtain ⟨ν, H, c, b, I, N, T, f, q, hg, hc, hr⟩ := hi
  refine two (P := fun x => AnsBm ν p.toInt x) (P' := fun x => AnsBm2 ν p.toInt x) Int32.toInt hg hr ?_ (fun m1 g1 g2 => ?_) (fun x y g1 g2 => ansBm_unique g1 g2 hg.1)
  · refine wp_mono (cz_k hc.2 (sX8_bestMove hc.1.1 hg.1 p) (kf_X8_bestMove _ _) (by decide)) ?_
    rintro r m2 ⟨g1, g2, g3, g4⟩
    exact ⟨g1.1, ⟨csC hc.1 g1.2 g4 (by decide) (by decide), g2⟩, g3⟩
  · refine wp_mono (rz_k g2 (sX9_bestMove g1.1 hg.1 p) (kf_X9_bestMove _ _) (kw_X9_bestMove _ _) (by decide) (by decide)) ?_
    rintro r m2 ⟨y1, y2, y3, y4, y5⟩
    exact ⟨y1.1, ⟨rsA g1 y1.2 y4 y5 (by decide) (by decide), y2⟩, y3⟩
theorem st_leastWidth (hi : INV m) (p : Int32) : Wp (fX8_leastWidth p m) (fun r m1 => Wp (fX9_leastWidth p m1) (fun r' m2 => r.toInt = r'.toInt ∧ INV m2)) := by
  obtain ⟨ν, H, c, b, I, N, T, f, q, hg, hc, hr⟩ := hi
  refine two (P := fun x => AnsLw ν p.toInt x) (P' := fun x => AnsLw ν p.toInt x) Int32.toInt hg hr ?_ (fun m1 g1 g2 => ?_) (fun x y g1 g2 => ansLw_unique g1 g2)
  · refine wp_mono (cz_k hc.2 (sX8_leastWidth hc.1.1 hg.1 hc.1.2.1 p) (kf_X8_leastWidth _ _) (by decide)) ?_
    rintro r m2 ⟨g1, g2, g3, g4⟩
    exact ⟨g1.1, ⟨csB hc.1 g1.2.1 g1.2.2 g4 (by decide), g2⟩, g3⟩
  · refine wp_mono (rz_k g2 (sX9_leastWidth g1.1 hg.1 p) (kf_X9_leastWidth _ _) (kw_X9_leastWidth _ _) (by decide) (by decide)) ?_
    rintro r m2 ⟨y1, y2, y3, y4, y5⟩
    exact ⟨y1.1, ⟨rsA g1 y1.2 y4 y5 (by decide) (by decide), y2⟩, y3⟩
theorem st_flops (hi : INV m) : Wp (fX8_flops m) (fun r m1 => Wp (fX9_flops m1) (fun r' m2 => r.toInt = r'.toInt ∧ INV m2)) := by
  obtain ⟨ν, H, c, b, I, N, T, f, q, hg, hc, hr⟩ := hi
  refine two (P := fun x => AnsFs ν x) (P' := fun x => AnsFs ν x) Int32.toInt hg hr ?_ (fun m1 g1 g2 => ?_) (fun x y g1 g2 => ansFs_unique g1 g2)
  · refine wp_mono (cz_k hc.2 (sX8_flops hc.1.1 hg.1 hc.1.2.1) (kf_X8_flops _) (by decide)) ?_
    rintro r m2 ⟨g1, g2, g3, g4⟩
    exact ⟨g1.1, ⟨csB hc.1 g1.2.1 g1.2.2 g4 (by decide), g2⟩, g3⟩
  · refine wp_mono (rz_k g2 (sX9_flops g1.1 hg.1) (kf_X9_flops _) (kw_X9_flops _) (by decide) (by decide)) ?_
    rintro r m2 ⟨y1, y2, y3, y4, y5⟩
    exact ⟨y1.1, ⟨rsA g1 y1.2 y4 y5 (by decide) (by decide), y2⟩, y3⟩
theorem st_near (hi : INV m) (p : Int32) : Wp (fX8_near p m) (fun r m1 => Wp (fX9_near p m1) (fun r' m2 => r.toInt = r'.toInt ∧ INV m2)) := by
  obtain ⟨ν, H, c, b, I, N, T, f, q, hg, hc, hr⟩ := hi
  refine two (P := fun x => x = nrv ν p.toInt) (P' := fun x => x = nrv ν p.toInt) Int64.toInt hg hr ?_ (fun m1 g1 g2 => ?_) (fun x y g1 g2 => g1.trans g2.symm)
  · refine wp_mono (cz_k hc.2 (sX8_near hc.1.1 hg.1 hc.1.2.1 p) (kf_X8_near _ _) (by decide)) ?_
    rintro r m2 ⟨g1, g2, g3, g4⟩
    exact ⟨g1.1, ⟨csB hc.1 g1.2.1 g1.2.2 g4 (by decide), g2⟩, g3⟩
  · refine wp_mono (rz_k g2 (sX9_near g1.1 hg.1 p) (kf_X9_near _ _) (kw_X9_near _ _) (by decide) (by decide)) ?_
    rintro r m2 ⟨y1, y2, y3, y4, y5⟩
    exact ⟨y1.1, ⟨rsA g1 y1.2 y4 y5 (by decide) (by decide), y2⟩, y3⟩
theorem st_nearest (hi : INV m) (p : Int32) : Wp (fX8_nearest p m) (fun r m1 => Wp (fX9_nearest p m1) (fun r' m2 => r.toInt = r'.toInt ∧ INV m2)) := by
  obtain ⟨ν, H, c, b, I, N, T, f, q, hg, hc, hr⟩ := hi
  refine two (P := fun x => AnsNt ν p.toInt x) (P' := fun x => AnsNt ν p.toInt x) Int32.toInt hg hr ?_ (fun m1 g1 g2 => ?_) (fun x y g1 g2 => ansNt_unique g1 g2)
  · refine wp_mono (cz_k hc.2 (sX8_nearest hc.1.1 hg.1 hc.1.2.1 p) (kf_X8_nearest _ _) (by decide)) ?_
    rintro r m2 ⟨g1, g2, g3, g4⟩
    exact ⟨g1.1, ⟨csB hc.1 g1.2.1 g1.2.2 g4 (by decide), g2⟩, g3⟩
  · refine wp_mono (rz_k g2 (sX9_nearest g1.1 hg.1 p) (kf_X9_nearest _ _) (kw_X9_nearest _ _) (by decide) (by decide)) ?_
    rintro r m2 ⟨y1, y2, y3, y4, y5⟩
    exact ⟨y1.1, ⟨rsA g1 y1.2 y4 y5 (by decide) (by decide), y2⟩, y3⟩
theorem st_event (hi : INV m) (p k : Int32) : Wp (fX8_event p k m) (fun r m1 => Wp (fX9_event p k m1) (fun r' m2 => r.toInt = r'.toInt ∧ INV m2)) := by
  obtain ⟨ν, H, c, b, I, N, T, f, q, hg, hc, hr⟩ := hi
  refine two (P := fun x => EvA ν p.toInt k.toInt x) (P' := fun x => EvA ν p.toInt k.toInt x) Int32.toInt hg hr ?_ (fun m1 g1 g2 => ?_) (fun x y g1 g2 => evA_unique g1 g2)
  · refine wp_mono (cz_k hc.2 (sX8_event hc.1.1 hg.1 p k) (kf_X8_event _ _ _) (by decide)) ?_
    rintro r m2 ⟨g1, g2, g3, g4⟩
    refine ⟨g1.2, ⟨?_, g2⟩, g3⟩
    rw [g1.1]; exact hc.1
  · refine wp_mono (rz_k g2 (sX9_event g1.1 hg.1 p k) (kf_X9_event _ _ _) (kw_X9_event _ _ _) (by decide) (by decide)) ?_
    rintro r m2 ⟨y1, y2, y3, y4, y5⟩
    exact ⟨y1.2, ⟨rsA g1 y1.1 y4 y5 (by decide) (by decide), y2⟩, y3⟩
theorem st_open (hi : INV m) (p : Int32) : Wp (fX8_open p m) (fun r m1 => Wp (fX9_open p m1) (fun r' m2 => r.toInt = r'.toInt ∧ INV m2)) := by
  obtain ⟨ν, H, c, b, I, N, T, f, q, hg, hc, hr⟩ := hi
  refine two (P := fun x => x = opv ν p.toInt) (P' := fun x => x = opv ν p.toInt) Int32.toInt hg hr ?_ (fun m1 g1 g2 => ?_) (fun x y g1 g2 => g1.trans g2.symm)
  · refine wp_mono (cz_k hc.2 (sX8_open hc.1.1 hg.1 p) (kf_X8_open _ _) (by decide)) ?_
    rintro r m2 ⟨g1, g2, g3, g4⟩
    refine ⟨g1.2, ⟨?_, g2⟩, g3⟩
    rw [g1.1]; exact hc.1
  · refine wp_mono (rz_k g2 (sX9_open g1.1 hg.1 p) (kf_X9_open _ _) (kw_X9_open _ _) (by decide) (by decide)) ?_
    rintro r m2 ⟨y1, y2, y3, y4, y5⟩
    exact ⟨y1.2, ⟨rsA g1 y1.1 y4 y5 (by decide) (by decide), y2⟩, y3⟩
theorem st_fault (hi : INV m) (p : Int32) : Wp (fX8_fault p m) (fun r m1 => Wp (fX9_fault p m1) (fun r' m2 => r.toInt = r'.toInt ∧ INV m2)) := by
  obtain ⟨ν, H, c, b, I, N, T, f, q, hg, hc, hr⟩ := hi
  refine two (P := fun x => x = if p.toInt = 0 then f else if p.toInt = 1 then q else -1) (P' := fun x => x = if p.toInt = 0 then f else if p.toInt = 1 then q else -1) Int32.toInt hg hr ?_ (fun m1 g1 g2 => ?_) (fun x y g1 g2 => g1.trans g2.symm)
  · refine wp_mono (c_fault hc.2.2.1 hc.2.2.2 p) ?_
    rintro r m2 ⟨e, h⟩
    rw [e]
    exact ⟨h, hc, fun _ _ => rfl⟩
  · refine wp_mono (rz_k g2 (r_fault g2.2.1 g2.2.2 p) (kf_X9_fault _ _) (kw_X9_fault _ _) (by decide) (by decide)) ?_
    rintro r m2 ⟨y1, y2, y3, y4, y5⟩
    refine ⟨y1.2, ⟨?_, y2⟩, y3⟩
    rw [y1.1]; exact RS_z g1
theorem st_count (hi : INV m) (p : Int32) : Wp (fX8_count p m) (fun r m1 => Wp (fX9_count p m1) (fun r' m2 => r.toInt = r'.toInt ∧ INV m2)) := by
  obtain ⟨ν, H, c, b, I, N, T, f, q, hg, hc, hr⟩ := hi
  refine two (P := fun x => x = cnv ν c N p.toInt) (P' := fun x => x = cnv ν c N p.toInt) Int32.toInt hg hr ?_ (fun m1 g1 g2 => ?_) (fun x y g1 g2 => g1.trans g2.symm)
  · refine wp_mono (sX8_count hc.1 hg.1 hc.2.1.1 p) ?_
    rintro r m2 ⟨e, h⟩
    rw [e]
    exact ⟨h, hc, fun _ _ => rfl⟩
  · refine wp_mono (rz_k g2 (sX9_count g1 hg.1 g2.1.1 p) (kf_X9_count _ _) (kw_X9_count _ _) (by decide) (by decide)) ?_
    rintro r m2 ⟨y1, y2, y3, y4, y5⟩
    refine ⟨y1.2, ⟨?_, y2⟩, y3⟩
    rw [y1.1]; exact RS_z g1
theorem st_chance (hi : INV m) (p k u : Int32) : Wp (fX8_chance p k u m) (fun r m1 => Wp (fX9_chance p k u m1) (fun r' m2 => r.toInt = r'.toInt ∧ INV m2)) := by
  obtain ⟨ν, H, c, b, I, N, T, f, q, hg, hc, hr⟩ := hi
  refine two (P := fun x => AnsCh ν p.toInt k.toInt u.toInt x) (P' := fun x => AnsCh ν p.toInt k.toInt u.toInt x) Int32.toInt hg hr ?_ (fun m1 g1 g2 => ?_) (fun x y g1 g2 => ansCh_unique g1 g2)
  · refine wp_mono (cz_k hc.2 (sX8_chance hc.1.1 hg.1 p k u) (kf_X8_chance _ _ _ _) (by decide)) ?_
    rintro r m2 ⟨⟨g1, g1b, g1c⟩, g2, g3, g4⟩
    refine ⟨g1, ⟨?_, g2⟩, g3⟩
    rcases g1c with ⟨_, e⟩ | e
    · rw [e]; exact hc.1
    · exact csB hc.1 g1b (Or.inl e) g4 (by decide)
  · refine wp_mono (rz_k g2 (sX9_chance g1.1 hg.1 p k u) (kf_X9_chance _ _ _ _) (kw_X9_chance _ _ _ _) (by decide) (by decide)) ?_
    rintro r m2 ⟨y1, y2, y3, y4, y5⟩
    exact ⟨y1.1, ⟨rsA g1 y1.2 y4 y5 (by decide) (by decide), y2⟩, y3⟩
/-- a pair of calls that change the net, or don't -/
theorem twoC {ok : Prop} {rb rg : Int} {ν2 : Nv} {t : Option (Int32 × ax_M)} {t9 : ax_M → Option (Int32 × ax_M)} (hg : GI ν H c b I N T) (hr : RS m ν H c b I ∧ RZ m N T f q) (h8 : Wp t (fun r m1 => Chg ok rb rg ν ν2 (fun ν H c => CS m1 ν H c b I) H c r.toInt ∧ CZ m1 N T f q ∧ Fhi m1 m ∧ ∀ a, a ∉ S → m1.1 a = m.1 a ∧ m1.2 a = m.2 a)) (h9 : ∀ m1, RS m1 ν H c b I → RZ m1 N T f q → Wp (t9 m1) (fun r m2 => Chg ok rb rg ν ν2 (fun ν H c => RS m2 ν H c b I) H c r.toInt ∧ RZ m2 N T f q ∧ Flo m2 m1)) (h2 : ok → Vd ν2 ∧ St ν ν2) : Wp t (fun r m1 => Wp (t9 m1) (fun r' m2 => r.toInt = r'.toInt ∧ INV m2)) := by
  refine wp_mono h8 ?_
  rintro r m1 ⟨p1, c2, f1, _⟩
  refine wp_mono (h9 m1 (RS_hi hr.1 f1) (RZ_hi hr.2 f1)) ?_
  rintro r' m2 ⟨p2, r2, f2⟩
  rcases p1 with ⟨a1, a2, a3⟩ | ⟨a1, a2, a3⟩ <;> rcases p2 with ⟨b1, b2, b3⟩ | ⟨b1, b2, b3⟩
  · exact ⟨a2.trans b2.symm, ν, H, c, b, I, N, T, f, q, hg, ⟨CS_lo a3 f2, CZ_lo c2 f2⟩, b3, r2⟩
  · exact absurd b1 a1
  · exact absurd a1 b1
  · obtain ⟨v2, s2⟩ := h2 a1
    exact ⟨a2.trans b2.symm, ν2, psh H c ν, pcn c, b, I, N, T, f, q, ⟨v2, hv_to (st_symm s2) (hv_push hg.1 hg.2.1), hg.2.2⟩, ⟨CS_lo a3 f2, CZ_lo c2 f2⟩, b3, r2⟩
theorem st_period (hi : INV m) (n : Int32) : Wp (fX8_period n m) (fun r m1 => Wp (fX9_period n m1) (fun r' m2 => r.toInt = r'.toInt ∧ INV m2)) := by
  obtain ⟨ν, H, c, b, I, N, T, f, q, hg, hc, hr⟩ := hi
  refine twoC hg hr (cz_k hc.2 (sX8_period hc.1 hg.1 hg.2.1 n) (kf_X8_period _ _) (by decide)) (fun m1 g1 g2 => ?_) (fun h => ⟨vd_period hg.1 _ h.1 h.2, st_up0 (by omega)⟩)
  refine wp_mono (rz_k g2 (sX9_period g1 hg.1 hg.2.1 n) (kf_X9_period _ _) (kw_X9_period _ _) (by decide) (by decide)) ?_
  rintro r m2 ⟨y1, y2, y3, y4, y5⟩
  exact ⟨y1, y2, y3⟩
theorem st_skew (hi : INV m) (n : Int32) : Wp (fX8_skew n m) (fun r m1 => Wp (fX9_skew n m1) (fun r' m2 => r.toInt = r'.toInt ∧ INV m2)) := by
  obtain ⟨ν, H, c, b, I, N, T, f, q, hg, hc, hr⟩ := hi
  refine twoC hg hr (cz_k hc.2 (sX8_skew hc.1 hg.1 hg.2.1 n) (kf_X8_skew _ _) (by decide)) (fun m1 g1 g2 => ?_) (fun h => ⟨vd_skew hg.1 h, st_up0 (by omega)⟩)
  refine wp_mono (rz_k g2 (sX9_skew g1 hg.1 hg.2.1 n) (kf_X9_skew _ _) (kw_X9_skew _ _) (by decide) (by decide)) ?_
  rintro r m2 ⟨y1, y2, y3, y4, y5⟩
  exact ⟨y1, y2, y3⟩
theorem st_phase (hi : INV m) (p o u : Int32) : Wp (fX8_phase p o u m) (fun r m1 => Wp (fX9_phase p o u m1) (fun r' m2 => r.toInt = r'.toInt ∧ INV m2)) := by
  obtain ⟨ν, H, c, b, I, N, T, f, q, hg, hc, hr⟩ := hi
  refine twoC hg hr (cz_k hc.2 (sX8_phase hc.1 hg.1 hg.2.1 p o u) (kf_X8_phase _ _ _ _) (by decide)) (fun m1 g1 g2 => ?_) (fun h => ⟨vd_phN hg.1 h, st_trans (st_up (by omega)) (st_up (by omega))⟩)
  refine wp_mono (rz_k g2 (sX9_phase g1 hg.1 hg.2.1 p o u) (kf_X9_phase _ _ _ _) (kw_X9_phase _ _ _ _) (by decide) (by decide)) ?_
  rintro r m2 ⟨y1, y2, y3, y4, y5⟩
  exact ⟨y1, y2, y3⟩
theorem st_delay (hi : INV m) (p x y : Int32) : Wp (fX8_delay p x y m) (fun r m1 => Wp (fX9_delay p x y m1) (fun r' m2 => r.toInt = r'.toInt ∧ INV m2)) := by
  obtain ⟨ν, H, c, b, I, N, T, f, q, hg, hc, hr⟩ := hi
  refine twoC hg hr (cz_k hc.2 (sX8_delay hc.1 hg.1 hg.2.1 p x y) (kf_X8_delay _ _ _ _) (by decide)) (fun m1 g1 g2 => ?_) (fun h => ⟨vd_dlN hg.1 h, st_trans (st_up (by omega)) (st_up (by omega))⟩)
  refine wp_mono (rz_k g2 (sX9_delay g1 hg.1 hg.2.1 p x y) (kf_X9_delay _ _ _ _) (kw_X9_delay _ _ _ _) (by decide) (by decide)) ?_
  rintro r m2 ⟨y1, y2, y3, y4, y5⟩
  exact ⟨y1, y2, y3⟩
theorem st_flop (hi : INV m) (p : Int32) : Wp (fX8_flop p m) (fun r m1 => Wp (fX9_flop p m1) (fun r' m2 => r.toInt = r'.toInt ∧ INV m2)) := by
  obtain ⟨ν, H, c, b, I, N, T, f, q, hg, hc, hr⟩ := hi
  refine twoC hg hr (cz_k hc.2 (sX8_flop hc.1 hg.1 hg.2.1 p) (kf_X8_flop _ _) (by decide)) (fun m1 g1 g2 => ?_) (fun h => ⟨vd_fl hg.1 (by have := vd_cast hg.1; omega), st_up (by omega)⟩)
  refine wp_mono (rz_k g2 (sX9_flop g1 hg.1 hg.2.1 p) (kf_X9_flop _ _) (kw_X9_flop _ _) (by decide) (by decide)) ?_
  rintro r m2 ⟨y1, y2, y3, y4, y5⟩
  exact ⟨y1, y2, y3⟩
theorem st_move (hi : INV m) (p n : Int32) : Wp (fX8_move p n m) (fun r m1 => Wp (fX9_move p n m1) (fun r' m2 => r.toInt = r'.toInt ∧ INV m2)) := by
  obtain ⟨ν, H, c, b, I, N, T, f, q, hg, hc, hr⟩ := hi
  refine twoC hg hr (cz_k hc.2 (sX8_move hc.1 hg.1 hg.2.1 p n) (kf_X8_move _ _ _) (by decide)) (fun m1 g1 g2 => ?_) (fun h => ⟨vd_mv hg.1 h.2.2.2, st_mv⟩)
  refine wp_mono (rz_k g2 (sX9_move g1 hg.1 hg.2.1 p n) (kf_X9_move _ _ _) (kw_X9_move _ _ _) (by decide) (by decide)) ?_
  rintro r m2 ⟨y1, y2, y3, y4, y5⟩
  exact ⟨y1, y2, y3⟩
theorem st_undo (hi : INV m) : Wp (fX8_undo m) (fun r m1 => Wp (fX9_undo m1) (fun r' m2 => r.toInt = r'.toInt ∧ INV m2)) := by
  obtain ⟨ν, H, c, b, I, N, T, f, q, hg, hc, hr⟩ := hi
  refine wp_mono (cz_k hc.2 (sX8_undo hc.1 hg.2.1) (kf_X8_undo _) (by decide)) ?_
  rintro r m1 ⟨p1, c2, f1, _⟩
  refine wp_mono (rz_k (RZ_hi hr.2 f1) (sX9_undo (RS_hi hr.1 f1) hg.2.1) (kf_X9_undo _) (kw_X9_undo _) (by decide) (by decide)) ?_
  rintro r' m2 ⟨p2, r2, f2, _⟩
  rcases p1 with ⟨a1, a2, a3⟩ | ⟨d, a1, a2, a3⟩ <;> rcases p2 with ⟨b1, b2, b3⟩ | ⟨e, b1, b2, b3⟩
  · have hg0 : GI ν H 0 b I N T := by rw [← a1]; exact hg
    exact ⟨a2.trans b2.symm, ν, H, 0, b, I, N, T, f, q, hg0, ⟨CS_lo a3 f2, CZ_lo c2 f2⟩, b3, r2⟩
  · omega
  · omega
  · have ed : e = d := by omega
    rw [ed] at b2 b3
    have hh := hg.2.1
    have hd := hh.2.1 d (by omega)
    have hg0 : GI (H d) H d b I N T := ⟨hd.1, hv_to (st_symm hd.2) ⟨by have := hh.1; omega, fun j hj => hh.2.1 j (by omega), hh.2.2⟩, hg.2.2⟩
    exact ⟨a2.trans b2.symm, H d, H, d, b, I, N, T, f, q, hg0, ⟨CS_lo a3 f2, CZ_lo c2 f2⟩, b3, r2⟩
theorem st_keep (hi : INV m) : Wp (fX8_keep m) (fun r m1 => Wp (fX9_keep m1) (fun r' m2 => r.toInt = r'.toInt ∧ INV m2)) := by
  obtain ⟨ν, H, c, b, I, N, T, f, q, hg, hc, hr⟩ := hi
  refine wp_mono (cz_k hc.2 (sX8_keep hc.1 hg.1 hg.2.1) (kf_X8_keep _) (by decide)) ?_
  rintro r m1 ⟨p1, c2, f1, _⟩
  refine wp_mono (rz_k (RZ_hi hr.2 f1) (sX9_keep (RS_hi hr.1 f1) hg.1 hg.2.1) (kf_X9_keep _) (kw_X9_keep _) (by decide) (by decide)) ?_
  rintro r' m2 ⟨p2, r2, f2, _⟩
  have hh := hg.2.1
  exact ⟨p1.1.trans p2.1.symm, ν, H, c, true, ν, N, T, f, q, ⟨hg.1, ⟨hh.1, hh.2.1, fun _ => ⟨hg.1, st_refl ν⟩⟩, hg.2.2⟩, ⟨CS_lo p1.2 f2, CZ_lo c2 f2⟩, p2.2, r2⟩
theorem st_back (hi : INV m) : Wp (fX8_back m) (fun r m1 => Wp (fX9_back m1) (fun r' m2 => r.toInt = r'.toInt ∧ INV m2)) := by
  obtain ⟨ν, H, c, b, I, N, T, f, q, hg, hc, hr⟩ := hi
  refine wp_mono (cz_k hc.2 (sX8_back hc.1 hg.2.1) (kf_X8_back _) (by decide)) ?_
  rintro r m1 ⟨p1, c2, f1, _⟩
  refine wp_mono (rz_k (RZ_hi hr.2 f1) (sX9_back (RS_hi hr.1 f1) hg.2.1) (kf_X9_back _) (kw_X9_back _) (by decide) (by decide)) ?_
  rintro r' m2 ⟨p2, r2, f2, _⟩
  rcases p1 with ⟨a1, a2, a3⟩ | ⟨a1, a2, a3⟩ <;> rcases p2 with ⟨b1, b2, b3⟩ | ⟨b1, b2, b3⟩
  · exact ⟨a2.trans b2.symm, ν, H, c, b, I, N, T, f, q, hg, ⟨CS_lo a3 f2, CZ_lo c2 f2⟩, b3, r2⟩
  · rw [a1] at b1; cases b1
  · rw [a1] at b1; cases b1
  · have hh := hg.2.1.2.2 a1
    exact ⟨a2.trans b2.symm, I, H, 0, b, I, N, T, f, q, ⟨hh.1, ⟨by omega, fun j hj => by omega, fun _ => ⟨hh.1, st_refl I⟩⟩, hg.2.2⟩, ⟨CS_lo a3 f2, CZ_lo c2 f2⟩, b3, r2⟩
theorem st_feed (hi : INV m) (a1 a2 a3 a4 a5 : Int32) : Wp (fX8_feed a1 a2 a3 a4 a5 m) (fun r m1 => Wp (fX9_feed a1 a2 a3 a4 a5 m1) (fun r' m2 => r.toInt = r'.toInt ∧ INV m2)) := by
  obtain ⟨ν, H, c, b, I, N, T, f, q, hg, hc, hr⟩ := hi
  have hN := hg.2.2.2
  refine wp_mono (wp_keep (c_feed hc.2.1.2 N hc.2.1.1 hN a1 a2 a3 a4 a5) (kf_X8_feed _ _ _ _ _ _)) ?_
  rintro r m1 ⟨p1, k1⟩
  have k1 : ∀ a, a ≠ 0 → a ≠ 1 → m1.1 a = m.1 a ∧ m1.2 a = m.2 a := fun a h0 h1 => k1 a (by simp; omega)
  have f1 : Fhi m1 m := fun a ha => (k1 a (by omega) (by omega)).1
  have rz := RZ_hi hr.2 f1
  have rs := RS_hi hr.1 f1
  refine wp_mono (wp_keq (wp_keep (r_feed rz.1.2 N rz.1.1 hN a1 a2 a3 a4 a5) (kf_X9_feed _ _ _ _ _ _)) (kw_X9_feed _ _ _ _ _ _)) ?_
  rintro r' m2 ⟨⟨p2, k2⟩, k3⟩
  have f2 : Flo m2 m1 := fun a ha => k2 a (by simp; omega)
  have cs : CS m1 ν H c b I := CS_keep hc.1 (fun a _ _ => (k1 a (by omega) (by omega)).1) (fun a _ _ => k1 a (by omega) (by omega))
  have rs2 : RS m2 ν H c b I := ⟨RN_keep rs.1 (fun a h1 _ => (k2 a (by simp; omega)).1), RPI_keep rs.2 (k3 57 30 (by decide) (by decide)) (k3 57 31 (by decide) (by decide)) (k2 75 (by decide)).1⟩
  by_cases h20 : N + 20 ≤ 700
  · obtain ⟨x1, x2, x3⟩ := p1.2 h20
    obtain ⟨y1, y2, y3⟩ := p2.2 h20
    refine ⟨x1.trans y1.symm, ν, H, c, b, I, N + 20, ft (p5 a1 a2 a3 a4 a5) N T, f, q, ⟨hg.1, hg.2.1, ft_Tp hg.2.2.1, h20⟩, ⟨CS_lo cs f2, CZ_lo ⟨⟨x2, x3⟩, ?_, ?_⟩ f2⟩, rs2, ⟨y2, y3⟩, ?_, ?_⟩
    · rw [(k1 15 (by decide) (by decide)).1]; exact hc.2.2.1
    · rw [(k1 15 (by decide) (by decide)).1]; exact hc.2.2.2
    · rw [k3 57 26 (by decide) (by decide)]; exact rz.2.1
    · rw [k3 57 27 (by decide) (by decide)]; exact rz.2.2
  · obtain ⟨x1, x2⟩ := p1.1 h20
    obtain ⟨y1, y2⟩ := p2.1 h20
    refine ⟨x1.trans y1.symm, ν, H, c, b, I, N, T, f, q, hg, ⟨CS_lo cs f2, CZ_lo (by rw [x2]; exact hc.2) f2⟩, rs2, ⟨?_, ?_⟩, ?_, ?_⟩
    · rw [y2, wi_other (by decide)]; exact rz.1.1
    · rw [y2, wi_ne (by decide)]; exact rz.1.2
    · rw [k3 57 26 (by decide) (by decide)]; exact rz.2.1
    · rw [k3 57 27 (by decide) (by decide)]; exact rz.2.2
theorem st_text (hi : INV m) (p : Int32) : Wp (fX8_text p m) (fun r m1 => Wp (fX9_text p m1) (fun r' m2 => r.toInt = r'.toInt ∧ INV m2)) := by
  obtain ⟨ν, H, c, b, I, N, T, f, q, hg, hc, hr⟩ := hi
  have hN := hg.2.2.2
  refine wp_mono (wp_keep (c_text hc.1 hg.2.2.1 hc.2.1.2 N hc.2.1.1 hN p) (kf_X8_text _ _)) ?_
  rintro r m1 ⟨p1, k1⟩
  have f1 : Fhi m1 m := fun a ha => (k1 a (by simp; omega)).1
  have e1 : m1.1 1 = m.1 1 := (k1 1 (by decide)).1
  have rz := RZ_hi hr.2 f1
  have rs := RS_hi hr.1 f1
  refine wp_mono (wp_keep (r_text rs hg.1 hg.2.2.1 rz.1.2 N rz.1.1 hN p) (kf_X9_text _ _)) ?_
  rintro r' m2 ⟨p2, k2⟩
  have f2 : Flo m2 m1 := fun a ha => k2 a (by simp; omega)
  have e58 : m2.1 58 = m1.1 58 := (k2 58 (by decide)).1
  by_cases hp : 0 ≤ p.toInt ∧ p.toInt ≤ (N : Int)
  · obtain ⟨n, hn⟩ : ∃ n : Nat, p.toInt = (n : Int) := ⟨p.toInt.toNat, by omega⟩
    obtain ⟨x1, x2⟩ := p1.2 n hn (by omega)
    obtain ⟨y1, y2⟩ := p2.2 n hn (by omega)
    have tape8 : ∀ i, i < 700 → (m1.1 1 i).toInt = T i := fun i hi => by rw [e1]; exact hc.2.1.2 i hi
    have tape9 : ∀ i, i < 700 → (m2.1 58 i).toInt = T i := fun i hi => by rw [e58]; exact rz.1.2 i hi
    cases htx : tx T n (n + 1) D0 0 0 with
    | error e =>
      rw [htx] at x2 y2
      obtain ⟨z1, z2, z3, z4⟩ : r.toInt = -1 ∧ CS m1 ν H c b I ∧ (m1.1 15 2).toInt = e.1 ∧ (m1.1 15 3).toInt = e.2 := x2
      obtain ⟨w1, w2, w3, w4⟩ : r'.toInt = -1 ∧ RS m2 ν H c b I ∧ (m2.1 57 26).toInt = e.1 ∧ (m2.1 57 27).toInt = e.2 := y2
      exact ⟨z1.trans w1.symm, ν, H, c, b, I, 0, T, e.1, e.2, ⟨hg.1, hg.2.1, hg.2.2.1, by omega⟩, ⟨CS_lo z2 f2, CZ_lo ⟨⟨x1, tape8⟩, z3, z4⟩ f2⟩, w2, ⟨y1, tape9⟩, w3, w4⟩
    | ok x =>
      rw [htx] at x2 y2
      obtain ⟨z1, z2, z3, z4⟩ : r.toInt = (x.2 : Int) ∧ CS m1 x.1 H 0 false I ∧ (m1.1 15 2).toInt = 0 ∧ (m1.1 15 3).toInt = -1 := x2
      obtain ⟨w1, w2, w3, w4⟩ : r'.toInt = (x.2 : Int) ∧ RS m2 x.1 H 0 false I ∧ (m2.1 57 26).toInt = 0 ∧ (m2.1 57 27).toInt = -1 := y2
      have hvx := vd_tx (D2 := x.1) (l2 := x.2) vd_D0 htx
      exact ⟨z1.trans w1.symm, x.1, H, 0, false, I, 0, T, 0, -1, ⟨hvx, ⟨by omega, fun j hj => by omega, fun hb => by cases hb⟩, hg.2.2.1, by omega⟩, ⟨CS_lo z2 f2, CZ_lo ⟨⟨x1, tape8⟩, z3, z4⟩ f2⟩, w2, ⟨y1, tape9⟩, w3, w4⟩
  · obtain ⟨x1, x2⟩ := p1.1 hp
    obtain ⟨y1, y2⟩ := p2.1 hp
    refine ⟨x1.trans y1.symm, ν, H, c, b, I, N, T, f, q, hg, ⟨CS_lo (by rw [x2]; exact hc.1) f2, CZ_lo (by rw [x2]; exact hc.2) f2⟩, ?_, ⟨?_, ?_⟩, ?_, ?_⟩
    · rw [y2]; exact RS_z rs
    · rw [y2, wi_other (by decide)]; exact rz.1.1
    · rw [y2, wi_ne (by decide)]; exact rz.1.2
    · rw [y2, wi_other (by decide)]; exact rz.2.1
    · rw [y2, wi_other (by decide)]; exact rz.2.2
end PAIRS
