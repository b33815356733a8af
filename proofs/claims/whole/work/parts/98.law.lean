/-! the law's loop -/
theorem wp_sc {α : Type} {Q : α → ax_M → Prop} {xs : Nat → Int32} {L : Nat} {x : Int32} {f : Int32 → Option (α × ax_M)} (i : Nat) (h : x.toInt = (i : Int)) (hi : i < L) (hf : Wp (f (xs i)) Q) : Wp (Option.bind (ax_sc xs L x) f) Q := by
  have h1 : ax_in x L = true := ax_in_iff.mpr ⟨by omega, by omega⟩
  rw [ax_sc, if_pos h1, t_clamp, h]
  exact hf
theorem ofL (L : Nat) (hL : L ≤ 3072) : (Int32.ofNat L).toInt = (L : Int) := by
  rw [Int32.toInt_ofNat', t_bmod]
  omega
theorem sub6 {x : Int32} {z : Int} (h : x.toInt = z) (h1 : 0 ≤ z) (h2 : z ≤ 3072) : (x - 6).toInt = z - 6 := by
  rw [t_sub, h, show Int32.toInt 6 = 6 from rfl]
  omega
theorem ofL6 {L : Nat} (hL : L ≤ 3072) : (Int32.ofNat L - 6).toInt = (L : Int) - 6 := sub6 (ofL L hL) (by omega) (by omega)
theorem CS_wl {m : ax_M} {ν : Nv} {H : Nat → Nv} {c : Nat} {b : Bool} {I : Nv} {v : Int64} (h : CS m ν H c b I) : CS (ax_wl m 84 0 v) ν H c b I := by
  refine CS_keep h (fun _ _ _ => rfl) (fun a _ h2 => ⟨rfl, ?_⟩)
  funext j
  show (if a = 84 ∧ j = 0 then v else m.2 a j) = m.2 a j
  rw [if_neg (by omega)]
theorem st_cell {m : ax_M} (hi : INV m) (p k : Int32) : Wp (fL_cell p k m) (fun r m1 => Wp (fX9_cell p k m1) (fun r' m2 => m2.1 57 0 = r ∧ (r = 0 → (m2.2 84 0).toInt = r'.toInt) ∧ INV m2)) := by
  obtain ⟨ν, H, c, b, I, N, T, f, q, hg, hc, hr⟩ := hi
  unfold fL_cell
  refine wp_bd (wp_mono (sX8_cell hc.1.1 hg.1 p k) ?_)
  rintro r m1 ⟨e1, hk, hv⟩
  rw [e1]
  have tail : ∀ (m3 : ax_M) (r3 : Int32), CS m3 ν H c b I → CZ m3 N T f q → RS m3 ν H c b I → RZ m3 N T f q → r3.toInt = ck ν p.toInt k.toInt → (r3 = 0 → (m3.2 84 0).toInt = cv ν p.toInt k.toInt) → Wp (fX9_cell p k m3) (fun r' m2 => m2.1 57 0 = r3 ∧ (r3 = 0 → (m2.2 84 0).toInt = r'.toInt) ∧ INV m2) := by
    intro m3 r3 h1 h2 h3 h4 h5 h6
    refine wp_mono (rz_k h4 (wp_keep (sX9_cell h3.1 hg.1 p k) (kf_X9_cell _ _ _)) (kf_X9_cell _ _ _) (kw_X9_cell _ _ _) (by decide) (by decide)) ?_
    rintro r' m2 ⟨⟨⟨y0, y1, y2⟩, y84⟩, y3, y4, y5, y6⟩
    refine ⟨t_eq.mpr (y1.trans h5.symm), fun g => ?_, ν, H, c, b, I, N, T, f, q, hg, ⟨CS_lo h1 y4, CZ_lo h2 y4⟩, rsA h3 y0 y5 y6 (by decide) (by decide), y3⟩
    rw [(y84 84 (by decide)).2, h6 g]
    exact (y2 (by rw [← h5, g]; rfl)).symm
  refine wp_if (fun g => ?_) (fun g => wp_if (fun g1 => wp_ret ?_) (fun g1 => wp_ret ?_))
  · have h0 : ck ν p.toInt k.toInt = 0 := hk.symm.trans (q0.mp g)
    refine wp_wrl 0 rfl (by omega) (wp_ret (tail _ 0 (CS_wl hc.1) hc.2 hr.1 hr.2 h0.symm (fun _ => ?_)))
    show (r.2.toInt64).toInt = _
    rw [t_64]
    exact hv h0
  · refine tail m 1 hc.1 hc.2 hr.1 hr.2 ((q1.mp g1).symm.trans hk) (fun x => absurd x (by decide))
  · refine tail m 2 hc.1 hc.2 hr.1 hr.2 ?_ (fun x => absurd x (by decide))
    have n0 : ¬ r.1.toInt = 0 := fun x => g (q0.mpr x)
    have n1 : ¬ r.1.toInt = 1 := fun x => g1 (q1.mpr x)
    rw [hk] at n0 n1
    have : ck ν p.toInt k.toInt = 2 := by
      unfold ck at n0 n1 ⊢
      split at n0
      · split at n0
        · omega
        · rename_i x1 x2
          rw [if_pos x1, if_neg x2]
      · rename_i x1
        rw [if_neg x1] at n1
        omega
    rw [this]; rfl
set_option maxHeartbeats 4000000 in
theorem law_step {xs : Nat → Int32} {L i : Nat} {rc : Int32 → ax_M → Option (Int32 × ax_M)} {l4 : Int32} {m : ax_M} {Q : Int32 → ax_M → Prop} (hL : L ≤ 3072) (hl : l4.toInt = (i : Int)) (hiL : i + 6 ≤ L) (hi : INV m) (hgo : ∀ (l2 : Int32) (m2 : ax_M), l2.toInt = ((i + 6 : Nat) : Int) → INV m2 → Wp (rc l2 m2) Q) : Wp (fL_law_B23 xs L rc l4 m) Q := by
  have e1 : (l4 + 1).toInt = ((i + 1 : Nat) : Int) := by rw [t_add, hl, show Int32.toInt 1 = 1 from rfl]; omega
  have e2 : (l4 + 2).toInt = ((i + 2 : Nat) : Int) := by rw [t_add, hl, show Int32.toInt 2 = 2 from rfl]; omega
  have e3 : (l4 + 3).toInt = ((i + 3 : Nat) : Int) := by rw [t_add, hl, show Int32.toInt 3 = 3 from rfl]; omega
  have e4 : (l4 + 4).toInt = ((i + 4 : Nat) : Int) := by rw [t_add, hl, show Int32.toInt 4 = 4 from rfl]; omega
  have e5 : (l4 + 5).toInt = ((i + 5 : Nat) : Int) := by rw [t_add, hl, show Int32.toInt 5 = 5 from rfl]; omega
  have e6 : (l4 + 6).toInt = ((i + 6 : Nat) : Int) := by rw [t_add, hl, show Int32.toInt 6 = 6 from rfl]; omega
  have hK : ∀ m2, INV m2 → Wp (fL_law_K1547 xs L l4 rc m2) Q := fun m2 h2 => hgo _ m2 e6 h2
  have n0 : i < L := by omega
  have n1 : i + 1 < L := by omega
  have n2 : i + 2 < L := by omega
  have n3 : i + 3 < L := by omega
  have n4 : i + 4 < L := by omega
  have n5 : i + 5 < L := by omega
  have eL := ofL6 hL
  unfold fL_law_B23
  rw [if_neg (by rw [t_lt, eL, hl]; omega)]
  refine wp_sc i hl n0 ?_
  refine wp_if (fun _ => ?_) (fun _ => ?_)
  · refine wp_sc (i + 1) e1 n1 (wp_sc (i + 2) e2 n2 (wp_sc (i + 3) e3 n3 (wp_sc (i + 4) e4 n4 (wp_sc (i + 5) e5 n5 (wp_bd (wp_mono (st_feed hi _ _ _ _ _) ?_))))))
    rintro r m1 hw
    refine wp_sc (i + 1) e1 n1 (wp_sc (i + 2) e2 n2 (wp_sc (i + 3) e3 n3 (wp_sc (i + 4) e4 n4 (wp_sc (i + 5) e5 n5 (wp_bd (wp_mono hw ?_))))))
    rintro r' m2 ⟨e, h2⟩
    rw [if_pos (t_eq.mpr e)]
    exact hK m2 h2
  refine wp_if (fun _ => ?_) (fun _ => ?_)
  · refine wp_sc (i + 1) e1 n1 (wp_bd (wp_mono (st_text hi _) ?_))
    rintro r m1 hw
    refine wp_sc (i + 1) e1 n1 (wp_bd (wp_mono hw ?_))
    rintro r' m2 ⟨e, h2⟩
    rw [if_pos (t_eq.mpr e)]
    exact hK m2 h2
  refine wp_if (fun _ => ?_) (fun _ => ?_)
  · refine wp_sc (i + 1) e1 n1 (wp_bd (wp_mono (st_fault hi _) ?_))
    rintro r m1 hw
    refine wp_sc (i + 1) e1 n1 (wp_bd (wp_mono hw ?_))
    rintro r' m2 ⟨e, h2⟩
    rw [if_pos (t_eq.mpr e)]
    exact hK m2 h2
  refine wp_if (fun _ => ?_) (fun _ => ?_)
  · refine wp_sc (i + 1) e1 n1 (wp_sc (i + 2) e2 n2 (wp_bd (wp_mono (st_named hi _ _) ?_)))
    rintro r m1 hw
    refine wp_sc (i + 1) e1 n1 (wp_sc (i + 2) e2 n2 (wp_bd (wp_mono hw ?_)))
    rintro r' m2 ⟨e, h2⟩
    rw [if_pos (t_eq.mpr e)]
    exact hK m2 h2
  refine wp_if (fun _ => ?_) (fun _ => ?_)
  · refine wp_sc (i + 1) e1 n1 (wp_bd (wp_mono (st_period hi _) ?_))
    rintro r m1 hw
    refine wp_sc (i + 1) e1 n1 (wp_bd (wp_mono hw ?_))
    rintro r' m2 ⟨e, h2⟩
    rw [if_pos (t_eq.mpr e)]
    exact hK m2 h2
  refine wp_if (fun _ => ?_) (fun _ => ?_)
  · refine wp_sc (i + 1) e1 n1 (wp_sc (i + 2) e2 n2 (wp_sc (i + 3) e3 n3 (wp_bd (wp_mono (st_phase hi _ _ _) ?_))))
    rintro r m1 hw
    refine wp_sc (i + 1) e1 n1 (wp_sc (i + 2) e2 n2 (wp_sc (i + 3) e3 n3 (wp_bd (wp_mono hw ?_))))
    rintro r' m2 ⟨e, h2⟩
    rw [if_pos (t_eq.mpr e)]
    exact hK m2 h2
  refine wp_if (fun _ => ?_) (fun _ => ?_)
  · refine wp_sc (i + 1) e1 n1 (wp_sc (i + 2) e2 n2 (wp_sc (i + 3) e3 n3 (wp_bd (wp_mono (st_delay hi _ _ _) ?_))))
    rintro r m1 hw
    refine wp_sc (i + 1) e1 n1 (wp_sc (i + 2) e2 n2 (wp_sc (i + 3) e3 n3 (wp_bd (wp_mono hw ?_))))
    rintro r' m2 ⟨e, h2⟩
    rw [if_pos (t_eq.mpr e)]
    exact hK m2 h2
  refine wp_if (fun _ => ?_) (fun _ => ?_)
  · refine wp_sc (i + 1) e1 n1 (wp_bd (wp_mono (st_flop hi _) ?_))
    rintro r m1 hw
    refine wp_sc (i + 1) e1 n1 (wp_bd (wp_mono hw ?_))
    rintro r' m2 ⟨e, h2⟩
    rw [if_pos (t_eq.mpr e)]
    exact hK m2 h2
  refine wp_if (fun _ => ?_) (fun _ => ?_)
  · refine wp_sc (i + 1) e1 n1 (wp_bd (wp_mono (st_skew hi _) ?_))
    rintro r m1 hw
    refine wp_sc (i + 1) e1 n1 (wp_bd (wp_mono hw ?_))
    rintro r' m2 ⟨e, h2⟩
    rw [if_pos (t_eq.mpr e)]
    exact hK m2 h2
  refine wp_if (fun _ => ?_) (fun _ => ?_)
  · refine wp_sc (i + 1) e1 n1 (wp_sc (i + 2) e2 n2 (wp_bd (wp_mono (st_move hi _ _) ?_)))
    rintro r m1 hw
    refine wp_sc (i + 1) e1 n1 (wp_sc (i + 2) e2 n2 (wp_bd (wp_mono hw ?_)))
    rintro r' m2 ⟨e, h2⟩
    rw [if_pos (t_eq.mpr e)]
    exact hK m2 h2
  refine wp_if (fun _ => ?_) (fun _ => ?_)
  · refine wp_sc (i + 1) e1 n1 (wp_sc (i + 2) e2 n2 (wp_bd (wp_mono (st_cell hi _ _) ?_)))
    rintro r m1 hw
    refine wp_sc (i + 1) e1 n1 (wp_sc (i + 2) e2 n2 (wp_bd (wp_mono hw ?_)))
    rintro r' m2 ⟨e, g, h2⟩
    unfold fX9_thrown fL_law_K671
    refine wp_bd (wp_ret ?_)
    rw [if_pos e]
    refine wp_if (fun g0 => wp_rl 0 rfl (by omega) ?_) (fun g0 => hK m2 h2)
    rw [if_pos ((cmp_eq _ _).2 (by rw [t_64]; exact g g0))]
    exact hK m2 h2
  refine wp_if (fun _ => ?_) (fun _ => ?_)
  · refine wp_sc (i + 1) e1 n1 (wp_sc (i + 2) e2 n2 (wp_bd (wp_mono (st_path hi _ _) ?_)))
    rintro r m1 hw
    refine wp_sc (i + 1) e1 n1 (wp_sc (i + 2) e2 n2 (wp_bd (wp_mono hw ?_)))
    rintro r' m2 ⟨e, h2⟩
    rw [if_pos (t_eq.mpr e)]
    exact hK m2 h2
  refine wp_if (fun _ => ?_) (fun _ => ?_)
  · refine wp_sc (i + 1) e1 n1 (wp_sc (i + 2) e2 n2 (wp_bd (wp_mono (st_opens hi _ _) ?_)))
    rintro r m1 hw
    refine wp_sc (i + 1) e1 n1 (wp_sc (i + 2) e2 n2 (wp_bd (wp_mono hw ?_)))
    rintro r' m2 ⟨e, h2⟩
    rw [if_pos (t_eq.mpr e)]
    exact hK m2 h2
  refine wp_if (fun _ => ?_) (fun _ => ?_)
  · refine wp_sc (i + 1) e1 n1 (wp_bd (wp_mono (st_leaves hi _) ?_))
    rintro r m1 hw
    refine wp_sc (i + 1) e1 n1 (wp_bd (wp_mono hw ?_))
    rintro r' m2 ⟨e, h2⟩
    rw [if_pos ((cmp_eq _ _).2 e)]
    exact hK m2 h2
  refine wp_if (fun _ => ?_) (fun _ => ?_)
  · refine wp_sc (i + 1) e1 n1 (wp_bd (wp_mono (st_comes hi _) ?_))
    rintro r m1 hw
    refine wp_sc (i + 1) e1 n1 (wp_bd (wp_mono hw ?_))
    rintro r' m2 ⟨e, h2⟩
    rw [if_pos ((cmp_eq _ _).2 e)]
    exact hK m2 h2
  refine wp_if (fun _ => ?_) (fun _ => ?_)
  · refine wp_sc (i + 1) e1 n1 (wp_bd (wp_mono (st_room hi _) ?_))
    rintro r m1 hw
    refine wp_sc (i + 1) e1 n1 (wp_bd (wp_mono hw ?_))
    rintro r' m2 ⟨e, h2⟩
    rw [if_pos ((cmp_eq _ _).2 e)]
    exact hK m2 h2
  refine wp_if (fun _ => ?_) (fun _ => ?_)
  · refine wp_sc (i + 1) e1 n1 (wp_bd (wp_mono (st_from hi _) ?_))
    rintro r m1 hw
    refine wp_sc (i + 1) e1 n1 (wp_bd (wp_mono hw ?_))
    rintro r' m2 ⟨e, h2⟩
    rw [if_pos (t_eq.mpr e)]
    exact hK m2 h2
  refine wp_if (fun _ => ?_) (fun _ => ?_)
  · refine wp_sc (i + 1) e1 n1 (wp_sc (i + 2) e2 n2 (wp_bd (wp_mono (st_chain hi _ _) ?_)))
    rintro r m1 hw
    refine wp_sc (i + 1) e1 n1 (wp_sc (i + 2) e2 n2 (wp_bd (wp_mono hw ?_)))
    rintro r' m2 ⟨e, h2⟩
    rw [if_pos (t_eq.mpr e)]
    exact hK m2 h2
  refine wp_if (fun _ => ?_) (fun _ => ?_)
  · refine wp_sc (i + 1) e1 n1 (wp_bd (wp_mono (st_which hi _) ?_))
    rintro r m1 hw
    refine wp_sc (i + 1) e1 n1 (wp_bd (wp_mono hw ?_))
    rintro r' m2 ⟨e, h2⟩
    rw [if_pos (t_eq.mpr e)]
    exact hK m2 h2
  refine wp_if (fun _ => ?_) (fun _ => ?_)
  · refine wp_bd (wp_mono (st_good hi) ?_)
    rintro r m1 hw
    refine wp_bd (wp_mono hw ?_)
    rintro r' m2 ⟨e, h2⟩
    rw [if_pos (t_eq.mpr e)]
    exact hK m2 h2
  refine wp_if (fun _ => ?_) (fun _ => ?_)
  · refine wp_sc (i + 1) e1 n1 (wp_bd (wp_mono (st_gap hi _) ?_))
    rintro r m1 hw
    refine wp_sc (i + 1) e1 n1 (wp_bd (wp_mono hw ?_))
    rintro r' m2 ⟨e, h2⟩
    rw [if_pos ((cmp_eq _ _).2 e)]
    exact hK m2 h2
  refine wp_if (fun _ => ?_) (fun _ => ?_)
  · refine wp_sc (i + 1) e1 n1 (wp_bd (wp_mono (st_pad hi _) ?_))
    rintro r m1 hw
    refine wp_sc (i + 1) e1 n1 (wp_bd (wp_mono hw ?_))
    rintro r' m2 ⟨e, h2⟩
    rw [if_pos (t_eq.mpr e)]
    exact hK m2 h2
  refine wp_if (fun _ => ?_) (fun _ => ?_)
  · refine wp_bd (wp_mono (st_pads hi) ?_)
    rintro r m1 hw
    refine wp_bd (wp_mono hw ?_)
    rintro r' m2 ⟨e, h2⟩
    rw [if_pos (t_eq.mpr e)]
    exact hK m2 h2
  refine wp_if (fun _ => ?_) (fun _ => ?_)
  · refine wp_sc (i + 1) e1 n1 (wp_sc (i + 2) e2 n2 (wp_bd (wp_mono (st_wave hi _ _) ?_)))
    rintro r m1 hw
    refine wp_sc (i + 1) e1 n1 (wp_sc (i + 2) e2 n2 (wp_bd (wp_mono hw ?_)))
    rintro r' m2 ⟨e, h2⟩
    rw [if_pos ((cmp_eq _ _).2 e)]
    exact hK m2 h2
  refine wp_if (fun _ => ?_) (fun _ => ?_)
  · refine wp_sc (i + 1) e1 n1 (wp_bd (wp_mono (st_fails hi _) ?_))
    rintro r m1 hw
    refine wp_sc (i + 1) e1 n1 (wp_bd (wp_mono hw ?_))
    rintro r' m2 ⟨e, h2⟩
    rw [if_pos (t_eq.mpr e)]
    exact hK m2 h2
  refine wp_if (fun _ => ?_) (fun _ => ?_)
  · have go : ∀ z : Int32, (∀ v : Int64, ∀ m3 : ax_M, (if xs (i + 1) = 0 then (fL_law_K1086 xs L l4 v (0 : Int32) rc m3) else (fL_law_K1086 xs L l4 v (1 : Int32) rc m3)) = fL_law_K1086 xs L l4 v z rc m3) → Wp (fL_law_K1068 xs L l4 z rc m) Q := by
      intro z hz
      unfold fL_law_K1068
      refine wp_bd (wp_mono (st_ratio hi z) ?_)
      rintro r m1 hw
      refine wp_sc (i + 1) e1 n1 ?_
      rw [hz]
      unfold fL_law_K1086
      refine wp_bd (wp_mono hw ?_)
      rintro r' m2 ⟨e, h2⟩
      rw [if_pos ((cmp_eq _ _).2 e)]
      exact hK m2 h2
    exact wp_sc (i + 1) e1 n1 (wp_if (fun g => go 0 (fun v m3 => if_pos g)) (fun g => go 1 (fun v m3 => if_neg g)))
  refine wp_if (fun _ => ?_) (fun _ => ?_)
  · refine wp_sc (i + 1) e1 n1 (wp_bd (wp_mono (st_loop hi _) ?_))
    rintro r m1 hw
    refine wp_sc (i + 1) e1 n1 (wp_bd (wp_mono hw ?_))
    rintro r' m2 ⟨e, h2⟩
    rw [if_pos (t_eq.mpr e)]
    exact hK m2 h2
  refine wp_if (fun _ => ?_) (fun _ => ?_)
  · refine wp_bd (wp_mono (st_leastPeriod hi) ?_)
    rintro r m1 hw
    refine wp_bd (wp_mono hw ?_)
    rintro r' m2 ⟨e, h2⟩
    rw [if_pos (t_eq.mpr e)]
    exact hK m2 h2
  refine wp_if (fun _ => ?_) (fun _ => ?_)
  · refine wp_sc (i + 1) e1 n1 (wp_bd (wp_mono (st_slower hi _) ?_))
    rintro r m1 hw
    refine wp_sc (i + 1) e1 n1 (wp_bd (wp_mono hw ?_))
    rintro r' m2 ⟨e, h2⟩
    rw [if_pos (t_eq.mpr e)]
    exact hK m2 h2
  refine wp_if (fun _ => ?_) (fun _ => ?_)
  · refine wp_sc (i + 1) e1 n1 (wp_bd (wp_mono (st_bestOpens hi _) ?_))
    rintro r m1 hw
    refine wp_sc (i + 1) e1 n1 (wp_bd (wp_mono hw ?_))
    rintro r' m2 ⟨e, h2⟩
    rw [if_pos (t_eq.mpr e)]
    exact hK m2 h2
  refine wp_if (fun _ => ?_) (fun _ => ?_)
  · refine wp_sc (i + 1) e1 n1 (wp_sc (i + 2) e2 n2 (wp_bd (wp_mono (st_bestTwo hi _ _) ?_)))
    rintro r m1 hw
    refine wp_sc (i + 1) e1 n1 (wp_sc (i + 2) e2 n2 (wp_bd (wp_mono hw ?_)))
    rintro r' m2 ⟨e, h2⟩
    rw [if_pos (t_eq.mpr e)]
    exact hK m2 h2
  refine wp_if (fun _ => ?_) (fun _ => ?_)
  · refine wp_sc (i + 1) e1 n1 (wp_bd (wp_mono (st_gain hi _) ?_))
    rintro r m1 hw
    refine wp_sc (i + 1) e1 n1 (wp_bd (wp_mono hw ?_))
    rintro r' m2 ⟨e, h2⟩
    rw [if_pos (t_eq.mpr e)]
    exact hK m2 h2
  refine wp_if (fun _ => ?_) (fun _ => ?_)
  · refine wp_bd (wp_mono (st_breaks hi) ?_)
    rintro r m1 hw
    refine wp_bd (wp_mono hw ?_)
    rintro r' m2 ⟨e, h2⟩
    rw [if_pos (t_eq.mpr e)]
    exact hK m2 h2
  refine wp_if (fun _ => ?_) (fun _ => ?_)
  · refine wp_sc (i + 1) e1 n1 (wp_bd (wp_mono (st_bestMove hi _) ?_))
    rintro r m1 hw
    refine wp_sc (i + 1) e1 n1 (wp_bd (wp_mono hw ?_))
    rintro r' m2 ⟨e, h2⟩
    rw [if_pos (t_eq.mpr e)]
    exact hK m2 h2
  refine wp_if (fun _ => ?_) (fun _ => ?_)
  · refine wp_sc (i + 1) e1 n1 (wp_bd (wp_mono (st_leastWidth hi _) ?_))
    rintro r m1 hw
    refine wp_sc (i + 1) e1 n1 (wp_bd (wp_mono hw ?_))
    rintro r' m2 ⟨e, h2⟩
    rw [if_pos (t_eq.mpr e)]
    exact hK m2 h2
  refine wp_if (fun _ => ?_) (fun _ => ?_)
  · refine wp_bd (wp_mono (st_flops hi) ?_)
    rintro r m1 hw
    refine wp_bd (wp_mono hw ?_)
    rintro r' m2 ⟨e, h2⟩
    rw [if_pos (t_eq.mpr e)]
    exact hK m2 h2
  refine wp_if (fun _ => ?_) (fun _ => ?_)
  · refine wp_sc (i + 1) e1 n1 (wp_bd (wp_mono (st_near hi _) ?_))
    rintro r m1 hw
    refine wp_sc (i + 1) e1 n1 (wp_bd (wp_mono hw ?_))
    rintro r' m2 ⟨e, h2⟩
    rw [if_pos ((cmp_eq _ _).2 e)]
    exact hK m2 h2
  refine wp_if (fun _ => ?_) (fun _ => ?_)
  · refine wp_sc (i + 1) e1 n1 (wp_bd (wp_mono (st_nearest hi _) ?_))
    rintro r m1 hw
    refine wp_sc (i + 1) e1 n1 (wp_bd (wp_mono hw ?_))
    rintro r' m2 ⟨e, h2⟩
    rw [if_pos (t_eq.mpr e)]
    exact hK m2 h2
  refine wp_if (fun _ => ?_) (fun _ => ?_)
  · refine wp_sc (i + 1) e1 n1 (wp_sc (i + 2) e2 n2 (wp_bd (wp_mono (st_event hi _ _) ?_)))
    rintro r m1 hw
    refine wp_sc (i + 1) e1 n1 (wp_sc (i + 2) e2 n2 (wp_bd (wp_mono hw ?_)))
    rintro r' m2 ⟨e, h2⟩
    rw [if_pos (t_eq.mpr e)]
    exact hK m2 h2
  refine wp_if (fun _ => ?_) (fun _ => ?_)
  · refine wp_sc (i + 1) e1 n1 (wp_bd (wp_mono (st_open hi _) ?_))
    rintro r m1 hw
    refine wp_sc (i + 1) e1 n1 (wp_bd (wp_mono hw ?_))
    rintro r' m2 ⟨e, h2⟩
    rw [if_pos (t_eq.mpr e)]
    exact hK m2 h2
  refine wp_if (fun _ => ?_) (fun _ => ?_)
  · refine wp_sc (i + 1) e1 n1 (wp_sc (i + 2) e2 n2 (wp_sc (i + 3) e3 n3 (wp_bd (wp_mono (st_chance hi _ _ _) ?_))))
    rintro r m1 hw
    refine wp_sc (i + 1) e1 n1 (wp_sc (i + 2) e2 n2 (wp_sc (i + 3) e3 n3 (wp_bd (wp_mono hw ?_))))
    rintro r' m2 ⟨e, h2⟩
    rw [if_pos (t_eq.mpr e)]
    exact hK m2 h2
  refine wp_if (fun _ => ?_) (fun _ => ?_)
  · refine wp_bd (wp_mono (st_undo hi) ?_)
    rintro r m1 hw
    refine wp_bd (wp_mono hw ?_)
    rintro r' m2 ⟨e, h2⟩
    rw [if_pos (t_eq.mpr e)]
    exact hK m2 h2
  refine wp_if (fun _ => ?_) (fun _ => ?_)
  · refine wp_bd (wp_mono (st_keep hi) ?_)
    rintro r m1 hw
    refine wp_bd (wp_mono hw ?_)
    rintro r' m2 ⟨e, h2⟩
    rw [if_pos (t_eq.mpr e)]
    exact hK m2 h2
  refine wp_if (fun _ => ?_) (fun _ => ?_)
  · refine wp_bd (wp_mono (st_back hi) ?_)
    rintro r m1 hw
    refine wp_bd (wp_mono hw ?_)
    rintro r' m2 ⟨e, h2⟩
    rw [if_pos (t_eq.mpr e)]
    exact hK m2 h2
  refine wp_if (fun _ => ?_) (fun _ => ?_)
  · refine wp_sc (i + 1) e1 n1 (wp_bd (wp_mono (st_count hi _) ?_))
    rintro r m1 hw
    refine wp_sc (i + 1) e1 n1 (wp_bd (wp_mono hw ?_))
    rintro r' m2 ⟨e, h2⟩
    rw [if_pos (t_eq.mpr e)]
    exact hK m2 h2
  exact hK m hi
theorem law_ones {xs : Nat → Int32} {L : Nat} (hL : L ≤ 3072) {m : ax_M} (hi : INV m) : Wp (ax_lp1 (fL_law_B23 xs L) 600 0 m) (fun r _ => r = 1) := by
  refine wp_lp1 (fun k (l : Int32) μ => ∃ i : Nat, l.toInt = (i : Int) ∧ INV μ ∧ i ≤ L ∧ k = (L - i) / 6) 600 ?_ (L / 6) (by omega) ⟨0, rfl, hi, by omega, rfl⟩
  rintro k rc hrc l μ ⟨i, hl, hI, hiL, hk⟩
  by_cases h6 : i + 6 ≤ L
  · exact law_step hL hl h6 hI (fun l2 m2 g1 g2 => hrc ((L - (i + 6)) / 6) l2 m2 (by omega) ⟨i + 6, g1, g2, h6, rfl⟩)
  · unfold fL_law_B23
    have eL := ofL6 hL
    rw [if_pos (by rw [t_lt, eL, hl]; omega)]
    exact wp_ret rfl
/-- the reference as it is made -/
theorem made : ∃ μ5, (ax_bd (fX9_freshText mu_4) (fun _ m => ax_bd (fX9_takeText m) (fun _ m => ax_bd (fX9_begins m) (fun _ m => some ((), m))))) = some ((), μ5) ∧ (∀ j, μ5.2 84 j = 0) ∧ INV μ5 := by
  have hw : Wp (ax_bd (fX9_freshText mu_4) (fun _ m => ax_bd (fX9_takeText m) (fun _ m => ax_bd (fX9_begins m) (fun _ m => some ((), m))))) (fun _ μ5 => (∀ j, μ5.2 84 j = 0) ∧ INV μ5) := by
    refine wp_bd (wp_mono (wp_keep (r_fresh (m := mu_4)) (kf_X9_freshText _)) ?_)
    rintro _ m1 ⟨⟨f1, f2, f3⟩, k1⟩
    refine wp_bd (wp_mono (wp_keep (r_take (m := m1)) (kf_X9_takeText _)) ?_)
    rintro _ m2 ⟨t1, k2⟩
    refine wp_bd (wp_mono (wp_keep (r_begins f3 vd_D0 t1) (kf_X9_begins _)) ?_)
    rintro _ m3 ⟨g1, k3⟩
    have ke : ∀ a, (a < 59 ∨ 74 < a) → m3.1 a = mu_4.1 a ∧ m3.2 a = mu_4.2 a := fun a ha => by
      have x1 := k1 a (by simp; omega)
      have x2 := k2 a (by simp; omega)
      have x3 := k3 a (by simp; omega)
      exact ⟨x3.1.trans (x2.1.trans x1.1), x3.2.trans (x2.2.trans x1.2)⟩
    refine wp_ret ⟨fun j => by rw [(ke 84 (by omega)).2]; rfl, D0, fun _ => D0, 0, false, D0, 0, fun _ => 0, 0, -1, ⟨vd_D0, ⟨by omega, fun j hj => by omega, fun hb => by cases hb⟩, fun i hi => ⟨Int.le_refl 0, by show (0 : Int) ≤ 255; decide⟩, by omega⟩, ⟨?_, ⟨?_, fun i hi => ?_⟩, ?_, ?_⟩, ⟨g1, ?_, ?_, fun j hj => by omega, fun hb => by cases hb⟩, ⟨?_, fun i hi => ?_⟩, ?_, ?_⟩
    · refine ⟨⟨⟨?_, ?_, ?_, ?_, ?_, ?_⟩, fun i hi => absurd hi (Nat.not_lt_zero i), fun i hi => absurd hi (Nat.not_lt_zero i), fun i hi => absurd hi (Nat.not_lt_zero i), ?_⟩, Or.inl ?_, Or.inl ?_, 0, by omega, ?_, ?_, ?_, fun j hj => by omega, fun hb => by cases hb⟩
      · rw [(ke 2 (by omega)).1]; rfl
      · rw [(ke 2 (by omega)).1]; rfl
      · rw [(ke 2 (by omega)).1]; rfl
      · rw [(ke 2 (by omega)).1]; rfl
      · rw [(ke 2 (by omega)).1]; rfl
      · rw [(ke 2 (by omega)).1]; rfl
      · rw [(ke 2 (by omega)).1]; rfl
      · rw [(ke 32 (by omega)).1]; rfl
      · rw [(ke 41 (by omega)).1]; rfl
      · rw [(ke 29 (by omega)).1]; rfl
      · rw [(ke 29 (by omega)).1]; rfl
      · rw [(ke 29 (by omega)).1]; rfl
    · rw [(ke 0 (by omega)).1]; rfl
    · rw [(ke 1 (by omega)).1]; rfl
    · rw [(ke 15 (by omega)).1]; rfl
    · rw [(ke 15 (by omega)).1]; rfl
    · rw [(ke 57 (by omega)).1]; rfl
    · rw [(ke 57 (by omega)).1]; rfl
    · rw [(ke 57 (by omega)).1]; rfl
    · rw [(ke 58 (by omega)).1]; rfl
    · rw [(ke 57 (by omega)).1]; rfl
    · rw [(ke 57 (by omega)).1]; rfl
  obtain ⟨r, μ5, e, h1, h2⟩ := hw
  exact ⟨μ5, e, h1, h2⟩
theorem whole_start {p : Program} {e : Env} {s : State} {m : MethodId} {below : List Frame} {meth : Method} {c : Code} (l : Launch) (hflags : l.flags = flags0) {b L : Nat} {xs : Nat → Int32} (hL : L ≤ 3072) (hnm : meth.name = "law") (C0 : lw_At p s m meth c b L xs) : W p l e room_1 s m #[Value.ref b] below meth c s.heap [] 0 0 (lw_Z below #[Value.ref b] s) (entryFrame m ([Value.ref b] : List Value).toArray 7) := by
  obtain ⟨μ5, h5, hz, hI⟩ := made
  obtain ⟨r, μ6, h6, h1⟩ := law_ones (xs := xs) hL hI
  rw [h1] at h6
  exact whole_pure l hflags hnm C0 h5 hz h6
