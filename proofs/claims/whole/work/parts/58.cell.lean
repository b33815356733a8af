/-! path, opens, cell, both sides -/
def pv (ν : Nv) (p w : Int) : Int := if 0 ≤ p ∧ p < ν 0 2 then (if w = 0 then ν 7 p.toNat else if w = 1 then ν 8 p.toNat else if w = 2 then ν 9 p.toNat else if w = 3 then ν 10 p.toNat else if w = 4 then Sh ν p.toNat else -1) else -1
def ov (ν : Nv) (p w : Int) : Int := if 0 ≤ p ∧ p < ν 0 0 then (if w = 0 then ν 1 p.toNat else if w = 1 then ν 2 p.toNat else -1) else -1
def ck (ν : Nv) (p w : Int) : Int := if 0 ≤ p ∧ p < ν 0 1 then (if 0 ≤ w ∧ w ≤ 6 then 0 else 2) else 1
def cv (ν : Nv) (p w : Int) : Int := if w = 0 then ν 3 p.toNat else if w = 1 then ν 4 p.toNat else if w = 2 then ν 5 p.toNat else if w = 3 then ν 6 p.toNat else if w = 4 then ν 11 p.toNat else if w = 5 then sm (fun i => on (ν 8 i = p)) (nP ν) else sm (fun i => on (ν 7 i = p)) (nP ν)
section CEL
variable {μ : ax_M} {ν : Nv}
theorem tn {k : Nat} : ((k : Nat) : Int).toNat = k := rfl
theorem sX8_path (h : CN μ ν) (hv : Vd ν) (p w : Int32) : Wp (fX8_path p w μ) (fun r m => m = μ ∧ r.toInt = pv ν p.toInt w.toInt) := by
  have hn := vd_nums hv
  unfold fX8_path
  refine wp_rdf (sX1_hasPath h p) (fun r e => wp_if (fun c => wp_ret ⟨rfl, ?_⟩) (fun c => ?_))
  · unfold pv; rw [if_neg (not_of e c)]; rfl
  · have hin := yes_of e c
    obtain ⟨k, hk, ek⟩ := in_nat (N := nP ν) hin rfl
    have E := h.2.2.2.1 k hk
    have hpv : pv ν p.toInt w.toInt = (if w.toInt = 0 then ν 7 k else if w.toInt = 1 then ν 8 k else if w.toInt = 2 then ν 9 k else if w.toInt = 3 then ν 10 k else if w.toInt = 4 then Sh ν k else -1) := by
      unfold pv; rw [if_pos hin, ek, tn]
    simp only [hpv]
    refine wp_if (fun c0 => wp_rd k ek (by omega) (wp_ret ⟨rfl, ?_⟩)) (fun c0 => wp_if (fun c1 => wp_rd k ek (by omega) (wp_ret ⟨rfl, ?_⟩)) (fun c1 => wp_if (fun c2 => wp_rd k ek (by omega) (wp_ret ⟨rfl, ?_⟩)) (fun c2 => wp_if (fun c3 => wp_rd k ek (by omega) (wp_ret ⟨rfl, ?_⟩)) (fun c3 => wp_if (fun c4 => wp_rdf (sX1_shiftOf h hv p k ek hk) (fun r e4 => wp_ret ⟨rfl, ?_⟩)) (fun c4 => wp_ret ⟨rfl, ?_⟩)))))
    · rw [if_pos (q0.mp c0)]; exact E.1
    · rw [if_neg (mt q0.mpr c0), if_pos (q1.mp c1)]; exact E.2.1
    · rw [if_neg (mt q0.mpr c0), if_neg (mt q1.mpr c1), if_pos (q2.mp c2)]; exact E.2.2.1
    · rw [if_neg (mt q0.mpr c0), if_neg (mt q1.mpr c1), if_neg (mt q2.mpr c2), if_pos (q3.mp c3)]; exact E.2.2.2
    · rw [if_neg (mt q0.mpr c0), if_neg (mt q1.mpr c1), if_neg (mt q2.mpr c2), if_neg (mt q3.mpr c3), if_pos (q4.mp c4)]; exact e4
    · rw [if_neg (mt q0.mpr c0), if_neg (mt q1.mpr c1), if_neg (mt q2.mpr c2), if_neg (mt q3.mpr c3), if_neg (mt q4.mpr c4)]; rfl
theorem sX9_path (h0 : RN μ ν) (hv : Vd ν) (p w : Int32) : Wp (fX9_path p w μ) (fun r m => RN m ν ∧ r.toInt = pv ν p.toInt w.toInt) := by
  have hn := vd_nums hv
  have h : RN (ax_wi μ 57 0 0) ν := RN_wi57 h0
  unfold fX9_path
  refine wp_let (wp_rdf (sX9_isPath h p) (fun r e => wp_if (fun c => wp_ret ⟨h, ?_⟩) (fun c => ?_)))
  · unfold pv; rw [if_neg (not_of e c)]; rfl
  · have hin := yes_of e c
    obtain ⟨k, hk, ek⟩ := in_nat (N := nP ν) hin rfl
    have E := h.2.2.2 k hk
    have hpv : pv ν p.toInt w.toInt = (if w.toInt = 0 then ν 7 k else if w.toInt = 1 then ν 8 k else if w.toInt = 2 then ν 9 k else if w.toInt = 3 then ν 10 k else if w.toInt = 4 then Sh ν k else -1) := by
      unfold pv; rw [if_pos hin, ek, tn]
    simp only [hpv]
    refine wp_if (fun c0 => wp_rd k ek (by omega) (wp_ret ⟨h, ?_⟩)) (fun c0 => wp_if (fun c1 => wp_rd k ek (by omega) (wp_ret ⟨h, ?_⟩)) (fun c1 => wp_if (fun c2 => wp_rd (19 + k) (by simp only [t_add, ek, Int32.reduceToInt]; omega) (by omega) (wp_ret ⟨h, ?_⟩)) (fun c2 => wp_if (fun c3 => wp_rd (43 + k) (by simp only [t_add, ek, Int32.reduceToInt]; omega) (by omega) (wp_ret ⟨h, ?_⟩)) (fun c3 => wp_if (fun c4 => wp_rdf (sX9_shiftOf h hv p k ek hk) (fun r e4 => wp_ret ⟨h, ?_⟩)) (fun c4 => wp_ret ⟨h, ?_⟩)))))
    · rw [if_pos (q0.mp c0)]; exact E.1
    · rw [if_neg (mt q0.mpr c0), if_pos (q1.mp c1)]; exact E.2.1
    · rw [if_neg (mt q0.mpr c0), if_neg (mt q1.mpr c1), if_pos (q2.mp c2)]; exact E.2.2.1
    · rw [if_neg (mt q0.mpr c0), if_neg (mt q1.mpr c1), if_neg (mt q2.mpr c2), if_pos (q3.mp c3)]; exact E.2.2.2
    · rw [if_neg (mt q0.mpr c0), if_neg (mt q1.mpr c1), if_neg (mt q2.mpr c2), if_neg (mt q3.mpr c3), if_pos (q4.mp c4)]; exact e4
    · rw [if_neg (mt q0.mpr c0), if_neg (mt q1.mpr c1), if_neg (mt q2.mpr c2), if_neg (mt q3.mpr c3), if_neg (mt q4.mpr c4)]; rfl
theorem sX8_opens (h : CN μ ν) (hv : Vd ν) (p w : Int32) : Wp (fX8_opens p w μ) (fun r m => m = μ ∧ r.toInt = ov ν p.toInt w.toInt) := by
  have hn := vd_nums hv
  unfold fX8_opens fX8_opens_K45
  refine wp_rdf (sX1_hasPhase h p) (fun r e => wp_if (fun c => wp_ret ⟨rfl, ?_⟩) (fun c => ?_))
  · unfold ov; rw [if_neg (not_of e c)]; rfl
  · have hin := yes_of e c
    obtain ⟨k, hk, ek⟩ := in_nat (N := nH ν) hin rfl
    have E := h.2.1 k hk
    have hpv : ov ν p.toInt w.toInt = (if w.toInt = 0 then ν 1 k else if w.toInt = 1 then ν 2 k else -1) := by
      unfold ov; rw [if_pos hin, ek, tn]
    simp only [hpv]
    refine wp_if (fun c0 => wp_rd k ek (by omega) (wp_ret ⟨rfl, ?_⟩)) (fun c0 => wp_if (fun c1 => wp_rd k ek (by omega) (wp_ret ⟨rfl, ?_⟩)) (fun c1 => wp_ret ⟨rfl, ?_⟩))
    · rw [if_pos (q0.mp c0)]; exact E.2.1
    · rw [if_neg (mt q0.mpr c0), if_pos (q1.mp c1)]; exact E.2.2
    · rw [if_neg (mt q0.mpr c0), if_neg (mt q1.mpr c1)]; rfl
theorem sX9_opens (h0 : RN μ ν) (hv : Vd ν) (p w : Int32) : Wp (fX9_opens p w μ) (fun r m => RN m ν ∧ r.toInt = ov ν p.toInt w.toInt) := by
  have hn := vd_nums hv
  have h : RN (ax_wi μ 57 0 0) ν := RN_wi57 h0
  unfold fX9_opens fX9_opens_K41 fX9_opens_K22 fX9_opens_K35 fX9_opens_K42
  refine wp_let (wp_rdf (sX9_isPhase h p) (fun r e => wp_if (fun c => wp_ret ⟨h, ?_⟩) (fun c => ?_)))
  · unfold ov; rw [if_neg (not_of e c)]; rfl
  · have hin := yes_of e c
    obtain ⟨k, hk, ek⟩ := in_nat (N := nH ν) hin rfl
    have E := h.2.1 k hk
    have hpv : ov ν p.toInt w.toInt = (if w.toInt = 0 then ν 1 k else if w.toInt = 1 then ν 2 k else -1) := by
      unfold ov; rw [if_pos hin, ek, tn]
    simp only [hpv]
    refine wp_if (fun c0 => ?_) (fun c0 => wp_if (fun c1 => ?_) (fun c1 => wp_ret ⟨h, ?_⟩))
    · rw [if_pos c0]
      refine wp_rd (1 + k) (by simp only [t_add, ek, Int32.reduceToInt]; omega) (by omega) (wp_ret ⟨h, ?_⟩)
      rw [if_pos (q0.mp c0)]; exact E.2.1
    · rw [if_neg c0]
      refine wp_rd (5 + k) (by simp only [t_add, ek, Int32.reduceToInt]; omega) (by omega) (wp_ret ⟨h, ?_⟩)
      rw [if_neg (mt q0.mpr c0), if_pos (q1.mp c1)]; exact E.2.2
    · rw [if_neg (mt q0.mpr c0), if_neg (mt q1.mpr c1)]; rfl
theorem fb_num (hv : Vd ν) (c : Nat) (hc : c < nC ν) : ν 11 c = if Fb ν c = true then 1 else 0 := by
  have := hv.2.2.1 c hc
  unfold Fb
  by_cases e : ν 11 c = 1
  · rw [if_pos (decide_eq_true e)]; exact e
  · rw [if_neg (by simpa using e)]; omega
theorem sX8_cell (h : CN μ ν) (hv : Vd ν) (p w : Int32) : Wp (fX8_cell p w μ) (fun r m => m = μ ∧ r.1.toInt = ck ν p.toInt w.toInt ∧ (ck ν p.toInt w.toInt = 0 → r.2.toInt = cv ν p.toInt w.toInt)) := by
  have hn := vd_nums hv
  unfold fX8_cell fX8_cell_K120
  refine wp_rdf (sX1_hasCell h p) (fun r e => wp_if (fun c => wp_ret ⟨rfl, ?_, ?_⟩) (fun c => ?_))
  · unfold ck; rw [if_neg (not_of e c)]; rfl
  · unfold ck; rw [if_neg (not_of e c)]; intro h9; cases h9
  · have hin := yes_of e c
    obtain ⟨k, hk, ek⟩ := in_nat (N := nC ν) hin rfl
    have E := h.2.2.1 k hk
    have hck : ck ν p.toInt w.toInt = if 0 ≤ w.toInt ∧ w.toInt ≤ 6 then 0 else 2 := by unfold ck; rw [if_pos hin]
    have hcv : cv ν p.toInt w.toInt = (if w.toInt = 0 then ν 3 k else if w.toInt = 1 then ν 4 k else if w.toInt = 2 then ν 5 k else if w.toInt = 3 then ν 6 k else if w.toInt = 4 then ν 11 k else if w.toInt = 5 then sm (fun i => on (ν 8 i = p.toInt)) (nP ν) else sm (fun i => on (ν 7 i = p.toInt)) (nP ν)) := by
      unfold cv; rw [show p.toInt.toNat = k by rw [ek]; rfl]
    simp only [hck, hcv]
    have en : (μ.1 2 14).toInt = ν 0 2 := h.1.2.2.1
    refine wp_if (fun c0 => wp_rd k ek (by omega) (wp_ret ⟨rfl, ?_, fun _ => ?_⟩)) (fun c0 => wp_if (fun c1 => wp_rd k ek (by omega) (wp_ret ⟨rfl, ?_, fun _ => ?_⟩)) (fun c1 => wp_if (fun c2 => wp_rd k ek (by omega) (wp_ret ⟨rfl, ?_, fun _ => ?_⟩)) (fun c2 => wp_if (fun c3 => wp_rd k ek (by omega) (wp_ret ⟨rfl, ?_, fun _ => ?_⟩)) (fun c3 => wp_if (fun c4 => ?_) (fun c4 => wp_if (fun c5 => ?_) (fun c5 => wp_if (fun c6 => ?_) (fun c6 => ?_)))))))
    · rw [if_pos (by have := q0.mp c0; omega)]; rfl
    · rw [if_pos (q0.mp c0)]; exact E.2.1
    · rw [if_pos (by have := q1.mp c1; omega)]; rfl
    · rw [if_neg (mt q0.mpr c0), if_pos (q1.mp c1)]; exact E.2.2.1
    · rw [if_pos (by have := q2.mp c2; omega)]; rfl
    · rw [if_neg (mt q0.mpr c0), if_neg (mt q1.mpr c1), if_pos (q2.mp c2)]; exact E.2.2.2.1
    · rw [if_pos (by have := q3.mp c3; omega)]; rfl
    · rw [if_neg (mt q0.mpr c0), if_neg (mt q1.mpr c1), if_neg (mt q2.mpr c2), if_pos (q3.mp c3)]; exact E.2.2.2.2
    · rw [if_pos (by have := q4.mp c4; omega), if_neg (mt q0.mpr c0), if_neg (mt q1.mpr c1), if_neg (mt q2.mpr c2), if_neg (mt q3.mpr c3), if_pos (q4.mp c4)]
      refine wp_rdf (sX1_isFlop h hv p k ek hk) (fun r e4 => wp_if (fun cc => wp_ret ⟨rfl, rfl, fun _ => ?_⟩) (fun cc => wp_ret ⟨rfl, rfl, fun _ => ?_⟩))
      · rw [fb_num hv k hk, if_neg (not_of e4 cc)]; rfl
      · rw [fb_num hv k hk, if_pos (yes_of e4 cc)]; rfl
    · rw [if_pos (by have := q5.mp c5; omega), if_neg (mt q0.mpr c0), if_neg (mt q1.mpr c1), if_neg (mt q2.mpr c2), if_neg (mt q3.mpr c3), if_neg (mt q4.mpr c4), if_pos (q5.mp c5)]
      refine wp_bd (wp_mono (sX8_countOf h hv _ p en) ?_)
      rintro r m ⟨rfl, hr⟩
      exact wp_ret ⟨rfl, rfl, fun _ => hr⟩
    · rw [if_pos (by have := q6.mp c6; omega), if_neg (mt q0.mpr c0), if_neg (mt q1.mpr c1), if_neg (mt q2.mpr c2), if_neg (mt q3.mpr c3), if_neg (mt q4.mpr c4), if_neg (mt q5.mpr c5)]
      refine wp_bd (wp_mono (sX8_countOf_1 h hv _ p en) ?_)
      rintro r m ⟨rfl, hr⟩
      exact wp_ret ⟨rfl, rfl, fun _ => hr⟩
    · rw [if_neg (by
        have := mt q0.mpr c0
        have := mt q1.mpr c1
        have := mt q2.mpr c2
        have := mt q3.mpr c3
        have := mt q4.mpr c4
        have := mt q5.mpr c5
        have := mt q6.mpr c6
        omega)]
      exact wp_ret ⟨rfl, rfl, fun h9 => by cases h9⟩
theorem sX9_cell (h0 : RN μ ν) (hv : Vd ν) (p w : Int32) : Wp (fX9_cell p w μ) (fun r m => RN m ν ∧ (m.1 57 0).toInt = ck ν p.toInt w.toInt ∧ (ck ν p.toInt w.toInt = 0 → r.toInt = cv ν p.toInt w.toInt)) := by
  have hn := vd_nums hv
  have h : RN (ax_wi μ 57 0 0) ν := RN_wi57 h0
  have hz : ((ax_wi μ 57 0 0).1 57 0).toInt = 0 := by rw [wi_self]; rfl
  unfold fX9_cell
  refine wp_let (wp_rdf (sX9_isCell h p) (fun r e => wp_if (fun c => wp_let (wp_ret ⟨RN_wi57 h, ?_, ?_⟩)) (fun c => ?_)))
  · unfold ck; rw [if_neg (not_of e c), wi_self]; rfl
  · unfold ck; rw [if_neg (not_of e c)]; intro h9; cases h9
  · have hin := yes_of e c
    obtain ⟨k, hk, ek⟩ := in_nat (N := nC ν) hin rfl
    have E := h.2.2.1 k hk
    have hck : ck ν p.toInt w.toInt = if 0 ≤ w.toInt ∧ w.toInt ≤ 6 then 0 else 2 := by unfold ck; rw [if_pos hin]
    have hcv : cv ν p.toInt w.toInt = (if w.toInt = 0 then ν 3 k else if w.toInt = 1 then ν 4 k else if w.toInt = 2 then ν 5 k else if w.toInt = 3 then ν 6 k else if w.toInt = 4 then ν 11 k else if w.toInt = 5 then sm (fun i => on (ν 8 i = p.toInt)) (nP ν) else sm (fun i => on (ν 7 i = p.toInt)) (nP ν)) := by
      unfold cv; rw [show p.toInt.toNat = k by rw [ek]; rfl]
    simp only [hck, hcv]
    refine wp_if (fun c0 => wp_rd k ek (by omega) (wp_ret ⟨h, ?_, fun _ => ?_⟩)) (fun c0 => wp_if (fun c1 => wp_rd k ek (by omega) (wp_ret ⟨h, ?_, fun _ => ?_⟩)) (fun c1 => wp_if (fun c2 => wp_rd k ek (by omega) (wp_ret ⟨h, ?_, fun _ => ?_⟩)) (fun c2 => wp_if (fun c3 => wp_rd k ek (by omega) (wp_ret ⟨h, ?_, fun _ => ?_⟩)) (fun c3 => wp_if (fun c4 => wp_rd (9 + k) (by simp only [t_add, ek, Int32.reduceToInt]; omega) (by omega) (wp_ret ⟨h, ?_, fun _ => ?_⟩)) (fun c4 => wp_if (fun c5 => ?_) (fun c5 => wp_if (fun c6 => ?_) (fun c6 => ?_)))))))
    · rw [if_pos (by have := q0.mp c0; omega)]; exact hz
    · rw [if_pos (q0.mp c0)]; exact E.2.1
    · rw [if_pos (by have := q1.mp c1; omega)]; exact hz
    · rw [if_neg (mt q0.mpr c0), if_pos (q1.mp c1)]; exact E.2.2.1
    · rw [if_pos (by have := q2.mp c2; omega)]; exact hz
    · rw [if_neg (mt q0.mpr c0), if_neg (mt q1.mpr c1), if_pos (q2.mp c2)]; exact E.2.2.2.1
    · rw [if_pos (by have := q3.mp c3; omega)]; exact hz
    · rw [if_neg (mt q0.mpr c0), if_neg (mt q1.mpr c1), if_neg (mt q2.mpr c2), if_pos (q3.mp c3)]; exact E.2.2.2.2.1
    · rw [if_pos (by have := q4.mp c4; omega)]; exact hz
    · rw [if_neg (mt q0.mpr c0), if_neg (mt q1.mpr c1), if_neg (mt q2.mpr c2), if_neg (mt q3.mpr c3), if_pos (q4.mp c4)]; exact E.2.2.2.2.2
    · rw [if_pos (by have := q5.mp c5; omega), if_neg (mt q0.mpr c0), if_neg (mt q1.mpr c1), if_neg (mt q2.mpr c2), if_neg (mt q3.mpr c3), if_neg (mt q4.mpr c4), if_pos (q5.mp c5)]
      refine wp_bd (wp_mono (sX9_pathsAt h hv p) ?_)
      rintro r m ⟨rfl, hr⟩
      exact wp_ret ⟨h, hz, fun _ => hr⟩
    · rw [if_pos (by have := q6.mp c6; omega), if_neg (mt q0.mpr c0), if_neg (mt q1.mpr c1), if_neg (mt q2.mpr c2), if_neg (mt q3.mpr c3), if_neg (mt q4.mpr c4), if_neg (mt q5.mpr c5)]
      refine wp_bd (wp_mono (sX9_pathsAt_1 h hv p) ?_)
      rintro r m ⟨rfl, hr⟩
      exact wp_ret ⟨h, hz, fun _ => hr⟩
    · rw [if_neg (by
        have := mt q0.mpr c0
        have := mt q1.mpr c1
        have := mt q2.mpr c2
        have := mt q3.mpr c3
        have := mt q4.mpr c4
        have := mt q5.mpr c5
        have := mt q6.mpr c6
        omega)]
      exact wp_let (wp_ret ⟨RN_wi57 h, by rw [wi_self]; rfl, fun h9 => by cases h9⟩)
end CEL
