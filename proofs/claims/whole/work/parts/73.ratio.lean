/-! ratio and loop of the reference -/
section RAT
variable {μ : ax_M} {ν : Nv}
theorem sX9_laysLoops (h : RN μ ν) (hv : Vd ν) : Wp (fX9_laysLoops μ) (fun _ m => RN m ν ∧ RB m ν (fun _ _ => True)) := by
  have hn := vd_nums hv
  have hcc := vd_cast hv
  unfold fX9_laysLoops
  refine wp_let (wp_let (wp_let ?_))
  have hm : RN (ax_wl (ax_wl (ax_wi μ 57 41 0) 57 42 0) 57 43 1) ν := RN_wl (RN_wl (RN_wi57 h))
  have hB : RB (ax_wl (ax_wl (ax_wi μ 57 41 0) 57 42 0) 57 43 1) ν (fun _ ρ => ρ 0 < 0) := by
    unfold RB
    have e41 : (ax_wl (ax_wl (ax_wi μ 57 41 0) 57 42 0) 57 43 1).1 57 41 = 0 := by
      show (ax_wi μ 57 41 0).1 57 41 = 0
      exact wi_self
    have e42 : (ax_wl (ax_wl (ax_wi μ 57 41 0) 57 42 0) 57 43 1).2 57 42 = 0 := by rw [wl_other (by omega), wl_self]
    have e43 : (ax_wl (ax_wl (ax_wi μ 57 41 0) 57 42 0) 57 43 1).2 57 43 = 1 := wl_self
    rw [e41, e42, e43]
    exact Or.inl ⟨rfl, rfl, rfl, fun m r q _ g => by omega⟩
  generalize ax_wl (ax_wl (ax_wi μ 57 41 0) 57 42 0) 57 43 1 = m3 at hm hB ⊢
  refine wp_lp1 (fun j (l : Int32) m => ∃ s : Nat, l.toInt = (s : Int) ∧ s ≤ nC ν ∧ j = nC ν - s ∧ RN m ν ∧ RB m ν (fun _ ρ => ρ 0 < s)) ax_FU ?_ (nC ν) (by unfold ax_FU; omega) ⟨0, rfl, by omega, rfl, hm, hB⟩
  rintro j rc hrc l m ⟨s, hl, hs, hj, hm, hB⟩
  unfold fX9_laysLoops_B17 fX9_laysLoops_K38
  refine wp_rdf (sX9_cells hm) (fun r4 e4 => wp_if (fun c1 => wp_ret ⟨hm, ?_⟩) (fun c1 => ?_))
  · rw [t_le, e4, hl] at c1
    have hsn : s = nC ν := by omega
    exact bs_iff hB (fun M ρ q lo => ⟨fun _ => by rw [hsn]; exact (lop_nC hv lo).1 0 (by have := lo.1; omega), fun _ => trivial⟩)
  · rw [t_le, e4, hl] at c1
    have hs2 : s < nC ν := by omega
    have inl := inc hl (i := s) (by omega)
    refine wp_rdf (sX9_isFlop hm hv l s hl hs2) (fun r6 e6 => wp_if (fun c2 => ?_) (fun c2 => ?_))
    · have hf : Fb ν s = false := by simpa using not_of e6 c2
      refine wp_bd (wp_mono (sX9_loopsFrom hm hv l s hl hs2 hf hB) ?_)
      rintro _ m9 ⟨k1, k2⟩
      exact hrc (nC ν - (s + 1)) _ _ (by omega) ⟨s + 1, inl, by omega, rfl, k1, k2⟩
    · have hf := yes_of e6 c2
      refine hrc (nC ν - (s + 1)) _ _ (by omega) ⟨s + 1, inl, by omega, rfl, hm, bs_iff hB (fun M ρ q lo => ⟨fun g => ?_, fun g => by omega⟩)⟩
      by_cases e : ρ 0 = s
      · have := (lo.2.1 0 (by have := lo.1; omega)).2.2.2.1
        rw [e, hf] at this; cases this
      · omega
theorem sX9_divisor (D S : Nat) (x y : Int64) (hx : x.toInt = (D : Int)) (hy : y.toInt = (S : Int)) (hS : S ≤ 640) : Wp (fX9_divisor x y μ) (fun r m => m = μ ∧ r.toInt = ((Nat.gcd D S : Nat) : Int)) := by
  have z0 : Int64.toInt 0 = 0 := rfl
  unfold fX9_divisor
  refine wp_lp2 (fun k (l4 l6 : Int64) m => m = μ ∧ ∃ a b : Nat, l4.toInt = (a : Int) ∧ l6.toInt = (b : Int) ∧ k = b ∧ Nat.gcd a b = Nat.gcd D S) ax_FU ?_ S (by unfold ax_FU; omega) ⟨rfl, D, S, hx, hy, rfl, rfl⟩
  rintro k rc hrc l4 l6 m ⟨rfl, a, b, ha, hb, hk, hg⟩
  unfold fX9_divisor_B6
  refine wp_if (fun c => wp_ret ⟨rfl, ?_⟩) (fun c => ?_)
  · rw [cmp_eq, hb, z0] at c
    have : b = 0 := by clear hg; omega
    subst this
    rw [ha, ← hg, Nat.gcd_zero_right]
  · rw [cmp_eq, hb, z0] at c
    have hb0 : 0 < b := by clear hg; omega
    have d := dl_ok ha hb hb0
    rw [d.2.2.1]
    have hgc2 : Nat.gcd b (a % b) = Nat.gcd D S := by rw [← hg, Nat.gcd_comm a b, Nat.gcd_rec b a, Nat.gcd_comm]
    exact wp_some (hrc (a % b) _ _ _ (by rw [hk]; exact Nat.mod_lt a hb0) ⟨rfl, b, a % b, hb, d.2.2.2, rfl, hgc2⟩)
theorem sX9_ratio (h0 : RN μ ν) (hv : Vd ν) (p : Int32) : Wp (fX9_ratio p μ) (fun r m => AnsRt ν p.toInt r.toInt ∧ RN m ν) := by
  unfold fX9_ratio fX9_ratio_K40
  refine wp_let (wp_bd (wp_mono (sX9_laysLoops (RN_wi57 h0) hv) ?_))
  rintro _ m ⟨hm, hB⟩
  have bb := bs_bd hv hB
  have eD : (m.2 57 42).toInt = (((m.2 57 42).toInt.toNat : Nat) : Int) := by omega
  have eS : (m.2 57 43).toInt = (((m.2 57 43).toInt.toNat : Nat) : Int) := by omega
  have hB2 : BS ν (fun _ _ => True) (m.1 57 41).toInt (fun i => (m.1 82 i).toInt) (((m.2 57 42).toInt.toNat : Nat) : Int) (((m.2 57 43).toInt.toNat : Nat) : Int) := by
    rw [← eD, ← eS]; exact hB
  have s1 : 1 ≤ (m.2 57 43).toInt.toNat := by omega
  have s2 : (m.2 57 43).toInt.toNat ≤ 640 := by omega
  generalize (m.2 57 42).toInt.toNat = D at eD hB2
  generalize (m.2 57 43).toInt.toNat = S at eS hB2 s1 s2
  have hg : 0 < Nat.gcd D S := Nat.gcd_pos_of_pos_right D s1
  refine wp_bd (wp_mono (sX9_divisor D S _ _ eD eS s2) ?_)
  rintro v4 m5 ⟨rfl, h4⟩
  have d1 := dl_ok eD h4 hg
  have d2 := dl_ok eS h4 hg
  refine wp_if (fun c => ?_) (fun c => ?_)
  · rw [d1.1]
    exact wp_some (wp_ret ⟨⟨_, _, D, S, hB2, by rw [if_pos (q0.mp c)]; exact d1.2.1⟩, hm⟩)
  · rw [d2.1]
    exact wp_some (wp_ret ⟨⟨_, _, D, S, hB2, by rw [if_neg (mt q0.mpr c)]; exact d2.2.1⟩, hm⟩)
theorem sX9_loop (h0 : RN μ ν) (hv : Vd ν) (i : Int32) : Wp (fX9_loop i μ) (fun r m => AnsLo ν i.toInt r.toInt ∧ RN m ν) := by
  have z0 : Int32.toInt 0 = 0 := rfl
  unfold fX9_loop fX9_loop_K34
  refine wp_let (wp_if (fun c => ?_) (fun c => wp_ret ⟨Or.inl ⟨?_, rfl⟩, RN_wi57 h0⟩))
  · rw [t_le, z0] at c
    refine wp_bd (wp_mono (sX9_laysLoops (RN_wi57 h0) hv) ?_)
    rintro _ m ⟨hm, hB⟩
    have bb := bs_bd hv hB
    refine wp_if (fun c2 => wp_ret ⟨Or.inr ⟨c, _, _, _, _, hB, ?_⟩, hm⟩) (fun c2 => wp_rd i.toInt.toNat ?_ ?_ (wp_ret ⟨Or.inr ⟨c, _, _, _, _, hB, ?_⟩, hm⟩))
    · rw [t_le] at c2
      rw [if_neg (by omega)]; rfl
    · omega
    · rw [t_le] at c2; omega
    · rw [t_le] at c2
      rw [if_pos (by omega)]
  · rw [t_le, z0] at c; omega
end RAT
