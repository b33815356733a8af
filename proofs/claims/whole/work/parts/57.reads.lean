/-! loops that add up, loops that look for the first; named, cell, path, opens, gap, pad, pads -/
theorem sm_step_bd {v : Nat → Int} {N : Nat} (hv : ∀ i, i < N → 0 ≤ v i ∧ v i ≤ 1000000) (i : Nat) (hi : i ≤ N) (hN : N ≤ 100) : 0 ≤ sm v i ∧ sm v i ≤ 100000000 := by
  have := sm_bd (f := v) (n := i) (b := 1000000) (fun j hj => hv j (by omega))
  omega
section LOOPS
variable {μ : ax_M} {α : Type} {Q : α → ax_M → Prop}
theorem lp_sum {B : (Int32 → Int32 → ax_M → Option (α × ax_M)) → Int32 → Int32 → ax_M → Option (α × ax_M)} (N : Nat) (v : Nat → Int) (hv : ∀ i, i < N → 0 ≤ v i ∧ v i ≤ 1000000) (hN : N ≤ 100)
    (hstep : ∀ (rc : Int32 → Int32 → ax_M → Option (α × ax_M)) (a l : Int32) (i : Nat), l.toInt = (i : Int) → i < N → 0 ≤ a.toInt → a.toInt ≤ 100000000 → (∀ a2 l2 : Int32, a2.toInt = a.toInt + v i → l2.toInt = ((i + 1 : Nat) : Int) → Wp (rc a2 l2 μ) Q) → Wp (B rc a l μ) Q)
    (hend : ∀ (rc : Int32 → Int32 → ax_M → Option (α × ax_M)) (a l : Int32), l.toInt = (N : Int) → a.toInt = sm v N → Wp (B rc a l μ) Q) : Wp (ax_lp2 B ax_FU 0 0 μ) Q := by
  refine wp_lp2 (fun k (a l : Int32) m => m = μ ∧ ∃ i : Nat, l.toInt = (i : Int) ∧ i ≤ N ∧ k = N - i ∧ a.toInt = sm v i) ax_FU ?_ N (by unfold ax_FU; omega) ⟨rfl, 0, rfl, by omega, rfl, rfl⟩
  rintro k rc hrc a l m ⟨rfl, i, hl, hi, hk, ha⟩
  by_cases hiN : i = N
  · subst hiN
    exact hend rc a l hl ha
  · have b := sm_step_bd hv i hi hN
    refine hstep rc a l i hl (by omega) (by omega) (by omega) (fun a2 l2 h1 h2 => hrc (N - (i + 1)) a2 l2 m (by omega) ⟨rfl, i + 1, h2, by omega, rfl, ?_⟩)
    rw [h1, ha]; rfl
theorem lp_find {B : (Int32 → ax_M → Option (α × ax_M)) → Int32 → ax_M → Option (α × ax_M)} (N : Nat) (P : Nat → Prop) (hN : N ≤ 10000)
    (hstep : ∀ (rc : Int32 → ax_M → Option (α × ax_M)) (l : Int32) (i : Nat), l.toInt = (i : Int) → i < N → (∀ j, j < i → ¬ P j) → (¬ P i → ∀ l2 : Int32, l2.toInt = ((i + 1 : Nat) : Int) → Wp (rc l2 μ) Q) → Wp (B rc l μ) Q)
    (hend : ∀ (rc : Int32 → ax_M → Option (α × ax_M)) (l : Int32), l.toInt = (N : Int) → (∀ j, j < N → ¬ P j) → Wp (B rc l μ) Q) : Wp (ax_lp1 B ax_FU 0 μ) Q := by
  refine wp_lp1 (fun k (l : Int32) m => m = μ ∧ ∃ i : Nat, l.toInt = (i : Int) ∧ i ≤ N ∧ k = N - i ∧ ∀ j, j < i → ¬ P j) ax_FU ?_ N (by unfold ax_FU; omega) ⟨rfl, 0, rfl, by omega, rfl, fun j hj => by omega⟩
  rintro k rc hrc l m ⟨rfl, i, hl, hi, hk, ha⟩
  by_cases hiN : i = N
  · subst hiN
    exact hend rc l hl ha
  · refine hstep rc l i hl (by omega) ha (fun hP l2 h2 => hrc (N - (i + 1)) l2 m (by omega) ⟨rfl, i + 1, h2, by omega, rfl, fun j hj => ?_⟩)
    by_cases e : j = i
    · rw [e]; exact hP
    · exact ha j (by omega)
theorem inc {l : Int32} {i : Nat} (h : l.toInt = (i : Int)) (hi : i ≤ 1000000) : (l + 1).toInt = ((i + 1 : Nat) : Int) := by
  simp only [t_add, h, Int32.reduceToInt]
  omega
theorem add1 {a : Int32} (h0 : 0 ≤ a.toInt) (h1 : a.toInt ≤ 100000000) : (a + 1).toInt = a.toInt + 1 := by
  simp only [t_add, Int32.reduceToInt]
  omega
theorem addv {a b : Int32} (h0 : 0 ≤ a.toInt) (h1 : a.toInt ≤ 100000000) (h2 : 0 ≤ b.toInt) (h3 : b.toInt ≤ 100000000) : (a + b).toInt = a.toInt + b.toInt := by
  simp only [t_add]
  omega
end LOOPS
/-- one of two -/
def on (b : Prop) [Decidable b] : Int := if b then 1 else 0
theorem on_t {b : Prop} [Decidable b] (h : b) : on b = 1 := if_pos h
theorem on_f {b : Prop} [Decidable b] (h : ¬ b) : on b = 0 := if_neg h
theorem on_bd (b : Prop) [Decidable b] : 0 ≤ on b ∧ on b ≤ 1000000 := by
  unfold on
  split <;> omega
def FndA (f : Nat → Int) (n : Nat) (z r : Int) : Prop := (r = -1 ∧ ∀ i, i < n → f i ≠ z) ∨ ∃ i : Nat, i < n ∧ r = (i : Int) ∧ f i = z ∧ ∀ j, j < i → f j ≠ z
theorem fndA_unique {f : Nat → Int} {n : Nat} {z r s : Int} (h : FndA f n z r) (h2 : FndA f n z s) : r = s := by
  rcases h with ⟨a1, a2⟩ | ⟨i, a1, a2, a3, a4⟩ <;> rcases h2 with ⟨b1, b2⟩ | ⟨j, b1, b2, b3, b4⟩
  · omega
  · exact absurd b3 (a2 j b1)
  · exact absurd a3 (b2 i a1)
  · by_cases h1 : i < j
    · exact absurd a3 (b4 i h1)
    · by_cases h2 : j < i
      · exact absurd b3 (a4 j h2)
      · omega
/-- a look through a row of names -/
def lookB (a n0 : Nat) (l0 l1 l2 : Int32) (rc : Int32 → ax_M → Option (Int32 × ax_M)) (l3 : Int32) (μ : ax_M) : Option (Int32 × ax_M) :=
  (if l1 ≤ l3 then (some ((-1 : Int32), μ)) else (Option.bind (ax_rd μ a n0 (l0 + l3)) (fun v1 => (if v1 = l2 then (some (l3, μ)) else (rc (l3 + (1 : Int32)) μ)))))
def lookC (a n0 : Nat) (l1 l2 : Int32) (rc : Int32 → ax_M → Option (Int32 × ax_M)) (l3 : Int32) (μ : ax_M) : Option (Int32 × ax_M) :=
  (if l1 ≤ l3 then (some ((-1 : Int32), μ)) else (Option.bind (ax_rd μ a n0 l3) (fun v1 => (if v1 = l2 then (some (l3, μ)) else (rc (l3 + (1 : Int32)) μ)))))
section READS
variable {μ : ax_M} {ν : Nv}
theorem look_ok {a n0 : Nat} {l0 l1 z : Int32} (b n : Nat) (f : Nat → Int) (h0 : l0.toInt = (b : Int)) (h1 : l1.toInt = (n : Int)) (hn : b + n ≤ n0) (hn0 : n0 ≤ 1000) (hf : ∀ i, i < n → (μ.1 a (b + i)).toInt = f i) : Wp (ax_lp1 (lookB a n0 l0 l1 z) ax_FU 0 μ) (fun r m => m = μ ∧ FndA f n z.toInt r.toInt) := by
  refine lp_find n (fun i => f i = z.toInt) (by omega) (fun rc l i hl hi hno hgo => ?_) (fun rc l hl hno => ?_)
  · unfold lookB
    rw [if_neg (by rw [t_le, h1, hl]; omega)]
    refine wp_rd (b + i) (by simp only [t_add, h0, hl]; omega) (by omega) (wp_if (fun c => wp_ret ⟨rfl, Or.inr ⟨i, hi, hl, ?_, hno⟩⟩) (fun c => hgo (fun hP => c ?_) _ (inc hl (by omega))))
    · rw [← hf i hi, c]
    · rw [t_eq, hf i hi]; exact hP
  · unfold lookB
    rw [if_pos (by rw [t_le, h1, hl]; omega)]
    exact wp_ret ⟨rfl, Or.inl ⟨rfl, hno⟩⟩
theorem lookc_ok {a n0 : Nat} {l1 z : Int32} (n : Nat) (f : Nat → Int) (h1 : l1.toInt = (n : Int)) (hn : n ≤ n0) (hn0 : n0 ≤ 1000) (hf : ∀ i, i < n → (μ.1 a i).toInt = f i) : Wp (ax_lp1 (lookC a n0 l1 z) ax_FU 0 μ) (fun r m => m = μ ∧ FndA f n z.toInt r.toInt) := by
  refine lp_find n (fun i => f i = z.toInt) (by omega) (fun rc l i hl hi hno hgo => ?_) (fun rc l hl hno => ?_)
  · unfold lookC
    rw [if_neg (by rw [t_le, h1, hl]; omega)]
    refine wp_rd i hl (by omega) (wp_if (fun c => wp_ret ⟨rfl, Or.inr ⟨i, hi, hl, ?_, hno⟩⟩) (fun c => hgo (fun hP => c ?_) _ (inc hl (by omega))))
    · rw [← hf i hi, c]
    · rw [t_eq, hf i hi]; exact hP
  · unfold lookC
    rw [if_pos (by rw [t_le, h1, hl]; omega)]
    exact wp_ret ⟨rfl, Or.inl ⟨rfl, hno⟩⟩
theorem vd_cast (hv : Vd ν) : ν 0 0 = (nH ν : Nat) ∧ ν 0 1 = (nC ν : Nat) ∧ ν 0 2 = (nP ν : Nat) := by
  have h0 := hv.1
  unfold nH nC nP
  omega
def AnsNm (ν : Nv) (k z r : Int) : Prop := if k = 0 then FndA (ν 12) (nH ν) z r else if k = 1 then FndA (ν 13) (nC ν) z r else r = -1
theorem ansNm_unique {k z r s : Int} (h : AnsNm ν k z r) (h2 : AnsNm ν k z s) : r = s := by
  unfold AnsNm at h h2
  split at h
  · rename_i e; rw [if_pos e] at h2; exact fndA_unique h h2
  · rename_i e; rw [if_neg e] at h2
    split at h
    · rename_i e2; rw [if_pos e2] at h2; exact fndA_unique h h2
    · rename_i e2; rw [if_neg e2] at h2; omega
theorem sX8_named (h : CN μ ν) (hv : Vd ν) (k z : Int32) : Wp (fX8_named k z μ) (fun r m => AnsNm ν k.toInt z.toInt r.toInt ∧ m = μ) := by
  have hn := vd_nums hv
  have hc := vd_cast hv
  unfold fX8_named fX8_named_K50 AnsNm
  refine wp_if (fun c => ?_) (fun c => wp_if (fun c2 => ?_) (fun c2 => wp_ret ⟨?_, rfl⟩))
  · refine wp_bd (wp_mono (lookc_ok (a := 3) (n0 := 4) (nH ν) (ν 12) (by rw [h.1.1]; exact hc.1) (by omega) (by omega) (fun i hi => (h.2.1 i hi).1)) ?_)
    rintro r m ⟨rfl, hr⟩
    exact wp_ret ⟨by rw [if_pos (q0.mp c)]; exact hr, rfl⟩
  · refine wp_bd (wp_mono (lookc_ok (a := 6) (n0 := 10) (nC ν) (ν 13) (by rw [h.1.2.1]; exact hc.2.1) (by omega) (by omega) (fun i hi => (h.2.2.1 i hi).1)) ?_)
    rintro r m ⟨rfl, hr⟩
    exact wp_ret ⟨by rw [if_neg (fun h => c (q0.mpr h)), if_pos (q1.mp c2)]; exact hr, rfl⟩
  · rw [if_neg (fun h => c (q0.mpr h)), if_neg (fun h => c2 (q1.mpr h))]; rfl
theorem sX9_named (h0 : RN μ ν) (hv : Vd ν) (k z : Int32) : Wp (fX9_named k z μ) (fun r m => AnsNm ν k.toInt z.toInt r.toInt ∧ RN m ν) := by
  have hn := vd_nums hv
  have hc := vd_cast hv
  have h : RN (ax_wi μ 57 0 0) ν := RN_wi57 h0
  unfold fX9_named fX9_named_K47 AnsNm
  refine wp_let (wp_if (fun c => ?_) (fun c => wp_if (fun c2 => ?_) (fun c2 => wp_ret ⟨?_, h⟩)))
  · refine wp_rdf (sX9_phases h) (fun v e => wp_bd (wp_mono (look_ok (a := 61) (n0 := 8) 0 (nH ν) (ν 12) rfl (by rw [e]; exact hc.1) (by omega) (by omega) (fun i hi => by rw [Nat.zero_add]; exact (h.2.1 i hi).1)) ?_))
    rintro r m ⟨rfl, hr⟩
    exact wp_ret ⟨by rw [if_pos (q0.mp c)]; exact hr, h⟩
  · refine wp_rdf (sX9_cells h) (fun v e => wp_bd (wp_mono (look_ok (a := 64) (n0 := 20) 0 (nC ν) (ν 13) rfl (by rw [e]; exact hc.2.1) (by omega) (by omega) (fun i hi => by rw [Nat.zero_add]; exact (h.2.2.1 i hi).1)) ?_))
    rintro r m ⟨rfl, hr⟩
    exact wp_ret ⟨by rw [if_neg (fun h => c (q0.mpr h)), if_pos (q1.mp c2)]; exact hr, h⟩
  · rw [if_neg (fun h => c (q0.mpr h)), if_neg (fun h => c2 (q1.mpr h))]; rfl
/-! how many ends are a cell -/
theorem sX8_countOf (h : CN μ ν) (hv : Vd ν) (n p : Int32) (hn0 : n.toInt = ν 0 2) : Wp (fX8_countOf n p μ) (fun r m => m = μ ∧ r.toInt = sm (fun i => on (ν 8 i = p.toInt)) (nP ν)) := by
  have hn := vd_nums hv
  have hc := vd_cast hv
  refine lp_sum (nP ν) (fun i => on (ν 8 i = p.toInt)) (fun i _ => on_bd _) (by omega) (fun rc a l i hl hi a0 a1 hgo => ?_) (fun rc a l hl ha => ?_)
  · unfold fX8_countOf_B5 fX8_countOf_K22
    rw [if_neg (by rw [t_le, hn0, hl]; omega)]
    have e := (h.2.2.2.1 i hi).2.1
    refine wp_rd i hl (by omega) (wp_if (fun c => hgo _ _ ?_ (inc hl (by omega))) (fun c => hgo _ _ ?_ (inc hl (by omega))))
    · rw [t_eq, e] at c
      rw [add1 a0 a1, on_t c]
    · rw [t_eq, e] at c
      rw [on_f c]; omega
  · unfold fX8_countOf_B5
    rw [if_pos (by rw [t_le, hn0, hl]; omega)]
    exact wp_ret ⟨rfl, ha⟩
theorem sX8_countOf_1 (h : CN μ ν) (hv : Vd ν) (n p : Int32) (hn0 : n.toInt = ν 0 2) : Wp (fX8_countOf_1 n p μ) (fun r m => m = μ ∧ r.toInt = sm (fun i => on (ν 7 i = p.toInt)) (nP ν)) := by
  have hn := vd_nums hv
  have hc := vd_cast hv
  refine lp_sum (nP ν) (fun i => on (ν 7 i = p.toInt)) (fun i _ => on_bd _) (by omega) (fun rc a l i hl hi a0 a1 hgo => ?_) (fun rc a l hl ha => ?_)
  · unfold fX8_countOf_1_B5 fX8_countOf_1_K22
    rw [if_neg (by rw [t_le, hn0, hl]; omega)]
    have e := (h.2.2.2.1 i hi).1
    refine wp_rd i hl (by omega) (wp_if (fun c => hgo _ _ ?_ (inc hl (by omega))) (fun c => hgo _ _ ?_ (inc hl (by omega))))
    · rw [t_eq, e] at c
      rw [add1 a0 a1, on_t c]
    · rw [t_eq, e] at c
      rw [on_f c]; omega
  · unfold fX8_countOf_1_B5
    rw [if_pos (by rw [t_le, hn0, hl]; omega)]
    exact wp_ret ⟨rfl, ha⟩
theorem sX9_pathsAt (h : RN μ ν) (hv : Vd ν) (p : Int32) : Wp (fX9_pathsAt p μ) (fun r m => m = μ ∧ r.toInt = sm (fun i => on (ν 8 i = p.toInt)) (nP ν)) := by
  have hn := vd_nums hv
  have hc := vd_cast hv
  refine lp_sum (nP ν) (fun i => on (ν 8 i = p.toInt)) (fun i _ => on_bd _) (by omega) (fun rc a l i hl hi a0 a1 hgo => ?_) (fun rc a l hl ha => ?_)
  · unfold fX9_pathsAt_B5 fX9_pathsAt_K28
    have e := (h.2.2.2 i hi).2.1
    refine wp_rdf (sX9_paths h) (fun r er => ?_)
    rw [if_neg (by rw [t_le, er, hl]; omega)]
    refine wp_rd i hl (by omega) (wp_if (fun c => wp_let (hgo _ _ ?_ (inc hl (by omega)))) (fun c => wp_let (hgo _ _ ?_ (inc hl (by omega)))))
    · rw [t_eq, e] at c
      rw [add1 a0 a1, on_t c]
    · rw [t_eq, e] at c
      rw [on_f c, addv a0 a1 (by decide) (by decide)]; rfl
  · unfold fX9_pathsAt_B5
    refine wp_rdf (sX9_paths h) (fun r er => ?_)
    rw [if_pos (by rw [t_le, er, hl]; omega)]
    exact wp_ret ⟨rfl, ha⟩
theorem sX9_pathsAt_1 (h : RN μ ν) (hv : Vd ν) (p : Int32) : Wp (fX9_pathsAt_1 p μ) (fun r m => m = μ ∧ r.toInt = sm (fun i => on (ν 7 i = p.toInt)) (nP ν)) := by
  have hn := vd_nums hv
  have hc := vd_cast hv
  refine lp_sum (nP ν) (fun i => on (ν 7 i = p.toInt)) (fun i _ => on_bd _) (by omega) (fun rc a l i hl hi a0 a1 hgo => ?_) (fun rc a l hl ha => ?_)
  · unfold fX9_pathsAt_1_B5 fX9_pathsAt_1_K28
    have e := (h.2.2.2 i hi).1
    refine wp_rdf (sX9_paths h) (fun r er => ?_)
    rw [if_neg (by rw [t_le, er, hl]; omega)]
    refine wp_rd i hl (by omega) (wp_if (fun c => wp_let (hgo _ _ ?_ (inc hl (by omega)))) (fun c => wp_let (hgo _ _ ?_ (inc hl (by omega)))))
    · rw [t_eq, e] at c
      rw [add1 a0 a1, on_t c]
    · rw [t_eq, e] at c
      rw [on_f c, addv a0 a1 (by decide) (by decide)]; rfl
  · unfold fX9_pathsAt_1_B5
    refine wp_rdf (sX9_paths h) (fun r er => ?_)
    rw [if_pos (by rw [t_le, er, hl]; omega)]
    exact wp_ret ⟨rfl, ha⟩
/-! a row of cases -/
theorem yes_of {b : Prop} [Decidable b] {r : Int32} (e : r.toInt = if b then 1 else 0) (c : ¬ r = 0) : b := by
  by_cases h : b
  · exact h
  · rw [if_neg h] at e; exact absurd (t_eq.mpr e) c
theorem not_of {b : Prop} [Decidable b] {r : Int32} (e : r.toInt = if b then 1 else 0) (c : r = 0) : ¬ b := by
  intro h
  rw [if_pos h] at e
  rw [c] at e
  exact absurd e (by decide)
end READS
