/-! names: the reference's steps -/
def FN (c k : Nat) (m2 m : ax_M) : Prop := (∀ a, a ≠ 57 → a ≠ c → m2.1 a = m.1 a) ∧ (∀ j, j < 20 ∨ 25 < j → m2.1 57 j = m.1 57 j) ∧ ∀ j, j ≠ k → m2.1 c j = m.1 c j
theorem FN_of {c k : Nat} {m2 m : ax_M} (hc : c ≠ 57) (h : FR m2 m) : FN c k m2 m := ⟨fun a h1 _ => h.1 a h1, h.2, fun j _ => by rw [h.1 c hc]⟩
section RNM
variable {m : ax_M} {T : Nat → Int} {n : Nat} {r : Rs}
theorem RT_w (h : RT m T n) {a j : Nat} {v : Int32} (h1 : a ≠ 57) (h2 : a ≠ 58) : RT (ax_wi m a j v) T n := by
  refine ⟨fun i hi => ?_, ?_, h.2.2⟩
  · rw [wi_ne (Ne.symm h2)]; exact h.1 i hi
  · rw [wi_ne (Ne.symm h1)]; exact h.2.1
theorem r_old (h : RLd m T n r) (b N : Nat) (f : Nat → Int) (p2 p3 : Int32) (hb : p2.toInt = (b : Int)) (hcnt : p3.toInt = (N : Int)) (hN : b + N ≤ 8) (hf : ∀ i, i < N → (m.1 61 (b + i)).toInt = f i) : Wp (fX9_oldName p2 p3 m) (fun v m2 => (RO m2 T n (sIf (nf f N (rv T n r) = true) 4 (rp T n r) (sName T n r)) ∧ ∀ a, sIf (nf f N (rv T n r) = true) 4 (rp T n r) (sName T n r) = .ok a → FndA f N (rv T n r) v.toInt) ∧ FR m2 m) := by
  refine wp_FR ?_ (kf_X9_oldName _ _ _) (kw_X9_oldName _ _ _) (by decide)
  unfold fX9_oldName
  cases r with
  | error e =>
    rw [if_neg (re_ne h)]
    exact wp_ret ⟨h, fun a e => by cases e⟩
  | ok a =>
    obtain ⟨h1, h2, h3⟩ := h
    obtain ⟨k1, k2, k3, k4⟩ := RK_tk h3
    rw [if_pos (ro_eq h2)]
    refine wp_if (fun c => ?_) (fun c => ?_)
    · rw [t_eq, show Int32.toInt 1 = 1 from rfl] at c
      have hs := (RTk_name k4).1 c
      have hv := RTk_nv k4 c
      rw [sName_t hs]
      unfold fX9_oldName_K22
      rw [if_pos (ro_eq h2)]
      refine wp_bd (wp_mono (look_ok (a := 61) (n0 := 8) b N f hb hcnt hN (by omega) hf) ?_)
      rintro v _ ⟨rfl, hF⟩
      rw [hv] at hF
      unfold fX9_oldName_K43
      refine wp_if (fun d => ?_) (fun d => ?_)
      · have hd : v.toInt = -1 := by rw [d]; rfl
        have hnf := (nf_neg hF).1 hd
        rw [sIf_t (show nf f N (rv T n (.ok a)) = true from hnf)]
        refine wp_bd (wp_mono (r_wrong h1 h2 k3 (c := 4) (by decide)) ?_)
        rintro _ m2 ⟨w1, _⟩
        unfold fX9_oldName_K56 fX9_oldName_K68
        exact wp_if (fun _ => wp_ret ⟨w1, fun a e => by cases e⟩) (fun _ => wp_ret ⟨w1, fun a e => by cases e⟩)
      · have hd : ¬ v.toInt = -1 := fun g => d (t_eq.mpr g)
        have hnf : ¬ nf f N (rv T n (.ok a)) = true := fun g => hd ((nf_neg hF).2 g)
        rw [sIf_f hnf]
        unfold fX9_oldName_K56 fX9_oldName_K68
        rw [if_neg d]
        exact wp_ret ⟨⟨h1, h2, k1, k2⟩, fun b _ => hF⟩
    · have hs : ¬ (tkk T n a = 1 ∧ ¬ kwd (tkv T n a)) := fun g => c (t_eq.mpr ((RTk_name k4).2 g))
      rw [sName_f hs]
      refine wp_bd (wp_mono (r_wrong h1 h2 k3 (c := 1) (by decide)) ?_)
      rintro _ m2 ⟨w1, _⟩
      unfold fX9_oldName_K22
      rw [if_neg (re_ne w1)]
      unfold fX9_oldName_K43
      rw [if_neg (by decide)]
      unfold fX9_oldName_K56 fX9_oldName_K68
      rw [if_neg (by decide)]
      exact wp_ret ⟨w1, fun a e => by cases e⟩
theorem r_old_1 (h : RLd m T n r) (b N : Nat) (f : Nat → Int) (p2 p3 : Int32) (hb : p2.toInt = (b : Int)) (hcnt : p3.toInt = (N : Int)) (hN : b + N ≤ 20) (hf : ∀ i, i < N → (m.1 64 (b + i)).toInt = f i) : Wp (fX9_oldName_1 p2 p3 m) (fun v m2 => (RO m2 T n (sIf (nf f N (rv T n r) = true) 4 (rp T n r) (sName T n r)) ∧ ∀ a, sIf (nf f N (rv T n r) = true) 4 (rp T n r) (sName T n r) = .ok a → FndA f N (rv T n r) v.toInt) ∧ FR m2 m) := by
  refine wp_FR ?_ (kf_X9_oldName_1 _ _ _) (kw_X9_oldName_1 _ _ _) (by decide)
  unfold fX9_oldName_1
  cases r with
  | error e =>
    rw [if_neg (re_ne h)]
    exact wp_ret ⟨h, fun a e => by cases e⟩
  | ok a =>
    obtain ⟨h1, h2, h3⟩ := h
    obtain ⟨k1, k2, k3, k4⟩ := RK_tk h3
    rw [if_pos (ro_eq h2)]
    refine wp_if (fun c => ?_) (fun c => ?_)
    · rw [t_eq, show Int32.toInt 1 = 1 from rfl] at c
      have hs := (RTk_name k4).1 c
      have hv := RTk_nv k4 c
      rw [sName_t hs]
      unfold fX9_oldName_1_K22
      rw [if_pos (ro_eq h2)]
      refine wp_bd (wp_mono (look_ok (a := 64) (n0 := 20) b N f hb hcnt hN (by omega) hf) ?_)
      rintro v _ ⟨rfl, hF⟩
      rw [hv] at hF
      unfold fX9_oldName_1_K43
      refine wp_if (fun d => ?_) (fun d => ?_)
      · have hd : v.toInt = -1 := by rw [d]; rfl
        have hnf := (nf_neg hF).1 hd
        rw [sIf_t (show nf f N (rv T n (.ok a)) = true from hnf)]
        refine wp_bd (wp_mono (r_wrong h1 h2 k3 (c := 4) (by decide)) ?_)
        rintro _ m2 ⟨w1, _⟩
        unfold fX9_oldName_1_K56 fX9_oldName_1_K68
        exact wp_if (fun _ => wp_ret ⟨w1, fun a e => by cases e⟩) (fun _ => wp_ret ⟨w1, fun a e => by cases e⟩)
      · have hd : ¬ v.toInt = -1 := fun g => d (t_eq.mpr g)
        have hnf : ¬ nf f N (rv T n (.ok a)) = true := fun g => hd ((nf_neg hF).2 g)
        rw [sIf_f hnf]
        unfold fX9_oldName_1_K56 fX9_oldName_1_K68
        rw [if_neg d]
        exact wp_ret ⟨⟨h1, h2, k1, k2⟩, fun b _ => hF⟩
    · have hs : ¬ (tkk T n a = 1 ∧ ¬ kwd (tkv T n a)) := fun g => c (t_eq.mpr ((RTk_name k4).2 g))
      rw [sName_f hs]
      refine wp_bd (wp_mono (r_wrong h1 h2 k3 (c := 1) (by decide)) ?_)
      rintro _ m2 ⟨w1, _⟩
      unfold fX9_oldName_1_K22
      rw [if_neg (re_ne w1)]
      unfold fX9_oldName_1_K43
      rw [if_neg (by decide)]
      unfold fX9_oldName_1_K56 fX9_oldName_1_K68
      rw [if_neg (by decide)]
      exact wp_ret ⟨w1, fun a e => by cases e⟩
theorem r_new (h : RO m T n r) (hT : Tp T) (b N : Nat) (f : Nat → Int) (p2 p3 : Int32) (hb : p2.toInt = (b : Int)) (hcnt : p3.toInt = (N : Int)) (hN : b + N ≤ 20) (hN2 : ∀ a, r = .ok a → b + N < 20) (hf : ∀ i, i < N → (m.1 64 (b + i)).toInt = f i) : Wp (fX9_newName p2 p3 m) (fun _ m2 => RLd m2 T n (sIf (nf f N (rv T n r) = false) 3 (rp T n r) (sName T n r)) ∧ FN 64 (b + N) m2 m ∧ ∀ a, sIf (nf f N (rv T n r) = false) 3 (rp T n r) (sName T n r) = .ok a → (m2.1 64 (b + N)).toInt = rv T n r) := by
  unfold fX9_newName
  refine wp_bd (wp_mono (r_goOn h hT) ?_)
  rintro _ m2 ⟨h2, f2⟩
  cases r with
  | error e =>
    rw [if_neg (re_ne h2)]
    exact wp_ret ⟨h2, FN_of (by decide) f2, fun a e => by cases e⟩
  | ok a =>
    have hlt := hN2 a rfl
    obtain ⟨g1, g2, g3⟩ := h2
    obtain ⟨k1, k2, k3, k4⟩ := RK_tk g3
    rw [if_pos (ro_eq g2)]
    have bad : ∀ m4 : ax_M, ∀ e : Int × Int, RE m4 T n e → FR m4 m2 → Wp (fX9_newName_K47 p2 p3 m4) (fun _ m2 => RLd m2 T n (.error e) ∧ FN 64 (b + N) m2 m) := by
      intro m4 e w1 w2
      unfold fX9_newName_K47
      rw [if_neg (re_ne w1)]
      exact wp_ret ⟨w1, FN_of (by decide) (FR_tr w2 f2)⟩
    refine wp_if (fun c => ?_) (fun c => ?_)
    · rw [t_eq, show Int32.toInt 1 = 1 from rfl] at c
      have hs := (RTk_name k4).1 c
      have hv := RTk_nv k4 c
      rw [sName_t hs]
      refine wp_bd (wp_mono (look_ok (a := 64) (n0 := 20) b N f hb hcnt hN (by omega) (fun i hi => by rw [f2.1 64 (by decide)]; exact hf i hi)) ?_)
      rintro v _ ⟨rfl, hF⟩
      rw [hv] at hF
      refine wp_if (fun d => ?_) (fun d => ?_)
      · have hd : v.toInt = -1 := by rw [d]; rfl
        have hnf := (nf_neg hF).1 hd
        rw [sIf_f (show ¬ nf f N (rv T n (.ok a)) = false from fun g => by rw [show nf f N (rv T n (.ok a)) = true from hnf] at g; cases g)]
        unfold fX9_newName_K47
        rw [if_pos (ro_eq g2)]
        refine wp_wr (b + N) (by rw [t_add, hb, hcnt]; omega) hlt (wp_bd (wp_mono (wp_keq (wp_FR (sX9_token (RT_w g1 (by decide) (by decide)) hT (tka T n a) (by rw [wi_ne (by decide)]; exact k1) k2) (kf_X9_token _) (kw_X9_token _) (by decide)) (kw_X9_token _)) ?_))
        rintro _ m7 ⟨⟨w1, w2⟩, w3⟩
        refine wp_ret ⟨⟨RT_FR (RT_w g1 (by decide) (by decide)) w2, ?_, w1⟩, ⟨fun x h1 h2 => ?_, fun j hj => ?_, fun j hj => ?_⟩, fun _ _ => ?_⟩
        · rw [w3 57 24 (by decide) (by decide), wi_ne (by decide)]; exact g2
        · rw [w2.1 x h1, wi_ne h2, f2.1 x h1]
        · rw [w2.2 j hj, wi_ne (by decide), f2.2 j hj]
        · rw [w2.1 64 (by decide), wi_other hj, f2.1 64 (by decide)]
        · rw [w2.1 64 (by decide), wi_self]; exact hv
      · have hd : ¬ v.toInt = -1 := fun g => d (t_eq.mpr g)
        have hnf : nf f N (rv T n (.ok a)) = false := by
          cases e : nf f N (rv T n (.ok a)) with
          | false => rfl
          | true => exact absurd ((nf_neg hF).2 e) hd
        rw [sIf_t hnf]
        refine wp_bd (wp_mono (r_wrong g1 g2 k3 (c := 3) (by decide)) ?_)
        rintro _ m4 ⟨w1, w2⟩
        exact wp_mono (bad m4 _ w1 w2) (fun _ m5 hm => ⟨hm.1, hm.2, fun a e => by cases e⟩)
    · have hs : ¬ (tkk T n a = 1 ∧ ¬ kwd (tkv T n a)) := fun g => c (t_eq.mpr ((RTk_name k4).2 g))
      rw [sName_f hs]
      refine wp_bd (wp_mono (r_wrong g1 g2 k3 (c := 1) (by decide)) ?_)
      rintro _ m4 ⟨w1, w2⟩
      exact wp_mono (bad m4 _ w1 w2) (fun _ m5 hm => ⟨hm.1, hm.2, fun a e => by cases e⟩)
theorem r_new_1 (h : RO m T n r) (hT : Tp T) (b N : Nat) (f : Nat → Int) (p2 p3 : Int32) (hb : p2.toInt = (b : Int)) (hcnt : p3.toInt = (N : Int)) (hN : b + N ≤ 8) (hN2 : ∀ a, r = .ok a → b + N < 8) (hf : ∀ i, i < N → (m.1 61 (b + i)).toInt = f i) : Wp (fX9_newName_1 p2 p3 m) (fun _ m2 => RLd m2 T n (sIf (nf f N (rv T n r) = false) 3 (rp T n r) (sName T n r)) ∧ FN 61 (b + N) m2 m ∧ ∀ a, sIf (nf f N (rv T n r) = false) 3 (rp T n r) (sName T n r) = .ok a → (m2.1 61 (b + N)).toInt = rv T n r) := by
  unfold fX9_newName_1
  refine wp_bd (wp_mono (r_goOn h hT) ?_)
  rintro _ m2 ⟨h2, f2⟩
  cases r with
  | error e =>
    rw [if_neg (re_ne h2)]
    exact wp_ret ⟨h2, FN_of (by decide) f2, fun a e => by cases e⟩
  | ok a =>
    have hlt := hN2 a rfl
    obtain ⟨g1, g2, g3⟩ := h2
    obtain ⟨k1, k2, k3, k4⟩ := RK_tk g3
    rw [if_pos (ro_eq g2)]
    have bad : ∀ m4 : ax_M, ∀ e : Int × Int, RE m4 T n e → FR m4 m2 → Wp (fX9_newName_1_K47 p2 p3 m4) (fun _ m2 => RLd m2 T n (.error e) ∧ FN 61 (b + N) m2 m) := by
      intro m4 e w1 w2
      unfold fX9_newName_1_K47
      rw [if_neg (re_ne w1)]
      exact wp_ret ⟨w1, FN_of (by decide) (FR_tr w2 f2)⟩
    refine wp_if (fun c => ?_) (fun c => ?_)
    · rw [t_eq, show Int32.toInt 1 = 1 from rfl] at c
      have hs := (RTk_name k4).1 c
      have hv := RTk_nv k4 c
      rw [sName_t hs]
      refine wp_bd (wp_mono (look_ok (a := 61) (n0 := 8) b N f hb hcnt hN (by omega) (fun i hi => by rw [f2.1 61 (by decide)]; exact hf i hi)) ?_)
      rintro v _ ⟨rfl, hF⟩
      rw [hv] at hF
      refine wp_if (fun d => ?_) (fun d => ?_)
      · have hd : v.toInt = -1 := by rw [d]; rfl
        have hnf := (nf_neg hF).1 hd
        rw [sIf_f (show ¬ nf f N (rv T n (.ok a)) = false from fun g => by rw [show nf f N (rv T n (.ok a)) = true from hnf] at g; cases g)]
        unfold fX9_newName_1_K47
        rw [if_pos (ro_eq g2)]
        refine wp_wr (b + N) (by rw [t_add, hb, hcnt]; omega) hlt (wp_bd (wp_mono (wp_keq (wp_FR (sX9_token (RT_w g1 (by decide) (by decide)) hT (tka T n a) (by rw [wi_ne (by decide)]; exact k1) k2) (kf_X9_token _) (kw_X9_token _) (by decide)) (kw_X9_token _)) ?_))
        rintro _ m7 ⟨⟨w1, w2⟩, w3⟩
        refine wp_ret ⟨⟨RT_FR (RT_w g1 (by decide) (by decide)) w2, ?_, w1⟩, ⟨fun x h1 h2 => ?_, fun j hj => ?_, fun j hj => ?_⟩, fun _ _ => ?_⟩
        · rw [w3 57 24 (by decide) (by decide), wi_ne (by decide)]; exact g2
        · rw [w2.1 x h1, wi_ne h2, f2.1 x h1]
        · rw [w2.2 j hj, wi_ne (by decide), f2.2 j hj]
        · rw [w2.1 61 (by decide), wi_other hj, f2.1 61 (by decide)]
        · rw [w2.1 61 (by decide), wi_self]; exact hv
      · have hd : ¬ v.toInt = -1 := fun g => d (t_eq.mpr g)
        have hnf : nf f N (rv T n (.ok a)) = false := by
          cases e : nf f N (rv T n (.ok a)) with
          | false => rfl
          | true => exact absurd ((nf_neg hF).2 e) hd
        rw [sIf_t hnf]
        refine wp_bd (wp_mono (r_wrong g1 g2 k3 (c := 3) (by decide)) ?_)
        rintro _ m4 ⟨w1, w2⟩
        exact wp_mono (bad m4 _ w1 w2) (fun _ m5 hm => ⟨hm.1, hm.2, fun a e => by cases e⟩)
    · have hs : ¬ (tkk T n a = 1 ∧ ¬ kwd (tkv T n a)) := fun g => c (t_eq.mpr ((RTk_name k4).2 g))
      rw [sName_f hs]
      refine wp_bd (wp_mono (r_wrong g1 g2 k3 (c := 1) (by decide)) ?_)
      rintro _ m4 ⟨w1, w2⟩
      exact wp_mono (bad m4 _ w1 w2) (fun _ m5 hm => ⟨hm.1, hm.2, fun a e => by cases e⟩)
end RNM
