/-! leads: a row of them is as heavy as what it brought; a loop of them is heavier than 0 -/
/-- by leads: what left is no more than the lead brings; less, if where it comes from has risen since -/
def LdP (ν : Nv) (T : Int) (lv ld : Nat → Int) : Prop :=
  (∀ c, c < nC ν → ld c = -1 → lv c = 0) ∧ ∃ (st : Nat → Nat) (s : Nat),
    (∀ c, c < nC ν → ld c ≠ -1 → st c < s ∧ lv c ≤ lv (Fr ν (ld c).toNat) + Wt ν T (ld c).toNat ∧ ((st c < st (Fr ν (ld c).toNat) ∧ ld (Fr ν (ld c).toNat) ≠ -1) ∨ Fr ν (ld c).toNat = c → lv c < lv (Fr ν (ld c).toNat) + Wt ν T (ld c).toNat)) ∧
    ∀ c d, c < nC ν → d < nC ν → ld c ≠ -1 → ld d ≠ -1 → st c = st d → c = d
section VIO
variable {ν : Nv} {T : Int}
theorem ldp_up (hv : Vd ν) {lv ld : Nat → Int} {p : Nat} (hp : p < nP ν) (h : LdP ν T lv ld) (hl : Ldk ν ld) (hup : lv (To ν p) < lv (Fr ν p) + Wt ν T p) : LdP ν T (fun c => if c = To ν p then lv (Fr ν p) + Wt ν T p else lv c) (fun c => if c = To ν p then (p : Int) else ld c) := by
  obtain ⟨h0, st, s, h1, h2⟩ := h
  have hr := vd_rng hv p hp
  refine ⟨fun c hc e => ?_, fun c => if c = To ν p then s else st c, s + 1, fun c hc e => ?_, fun c d hc hd ec ed e => ?_⟩
  · simp only at e ⊢
    by_cases h3 : c = To ν p
    · rw [if_pos h3] at e; omega
    · rw [if_neg h3] at e ⊢; exact h0 c hc e
  · simp only at e ⊢
    by_cases h3 : c = To ν p
    · subst h3
      simp only [if_true, Int.toNat_natCast]
      refine ⟨by omega, ?_, ?_⟩
      · by_cases h4 : Fr ν p = To ν p
        · rw [if_pos h4]; rw [h4] at hup ⊢; omega
        · rw [if_neg h4]; exact Int.le_refl _
      · by_cases h4 : Fr ν p = To ν p
        · intro _
          rw [if_pos h4]; rw [h4] at hup ⊢; omega
        · rw [if_neg h4, if_neg h4, if_neg h4]
          rintro (⟨a, b⟩ | a)
          · have := (h1 _ hr.1 b).1
            omega
          · exact absurd a h4
    · simp only [if_neg h3] at e ⊢
      obtain ⟨g1, g2, g3⟩ := h1 c hc e
      refine ⟨by omega, ?_, ?_⟩
      · by_cases h4 : Fr ν (ld c).toNat = To ν p
        · rw [if_pos h4]; rw [h4] at g2; omega
        · rw [if_neg h4]; exact g2
      · by_cases h4 : Fr ν (ld c).toNat = To ν p
        · intro _
          rw [if_pos h4]; rw [h4] at g2; omega
        · rw [if_neg h4, if_neg h4, if_neg h4]; exact g3
  · simp only at ec ed e
    by_cases h3 : c = To ν p
    · by_cases h4 : d = To ν p
      · rw [h3, h4]
      · rw [if_pos h3, if_neg h4] at e
        rw [if_neg h4] at ed
        have := (h1 d hd ed).1
        omega
    · rw [if_neg h3] at e ec
      by_cases h4 : d = To ν p
      · rw [if_pos h4] at e
        have := (h1 c hc ec).1
        omega
      · rw [if_neg h4] at e ed
        exact h2 c d hc hd ec ed e
/-- a row of leads down to a cell that nothing led to -/
theorem ldp_end (hv : Vd ν) {lv ld : Nat → Int} (h : LdP ν T lv ld) (hl : Ldk ν ld) {a : Nat} (ha : a < nP ν) (n : Nat) (h1 : al ν ld a n) (h2 : ld (Fr ν (qn ν ld a n)) = -1) : lv (Fr ν a) + Wt ν T a ≤ sm (fun i => Wt ν T (qn ν ld a i)) (n + 1) := by
  obtain ⟨h0, st, s, hi, -⟩ := h
  have key : ∀ i, i ≤ n → lv (Fr ν a) + Wt ν T a ≤ lv (Fr ν (qn ν ld a i)) + sm (fun i => Wt ν T (qn ν ld a i)) (i + 1) := by
    intro i
    induction i with
    | zero => intro _; simp only [sm, qn]; omega
    | succ i ih =>
      intro hi2
      have b := ih (by omega)
      have hp := al_path hv hl ha h1 i (by omega)
      have g := (hi _ (vd_rng hv _ hp).1 (h1 i (by omega))).2.1
      have e : (ld (Fr ν (qn ν ld a i))).toNat = qn ν ld a (i + 1) := rfl
      rw [e] at g
      have e2 : sm (fun i => Wt ν T (qn ν ld a i)) (i + 1 + 1) = sm (fun i => Wt ν T (qn ν ld a i)) (i + 1) + Wt ν T (qn ν ld a (i + 1)) := rfl
      rw [e2]
      omega
  have b := key n (Nat.le_refl n)
  have hp := al_path hv hl ha h1 n (Nat.le_refl n)
  have z := h0 _ (vd_rng hv _ hp).1 h2
  omega
theorem sm_lt {f g : Nat → Int} {n : Nat} (h : ∀ i, i < n → f i ≤ g i) (k : Nat) (hk : k < n) (hs : f k < g k) : sm f n < sm g n := by
  induction n with
  | zero => omega
  | succ n ih =>
    simp only [sm]
    by_cases e : k = n
    · subst e
      have : sm f k ≤ sm g k := by
        clear ih hk hs
        have : ∀ j, j ≤ k → sm f j ≤ sm g j := by
          intro j
          induction j with
          | zero => intro _; exact Int.le_refl 0
          | succ j ih2 =>
            intro hj
            have a := ih2 (by omega)
            have b := h j (by omega)
            simp only [sm]; omega
        exact this k (Nat.le_refl k)
      omega
    · have a := ih (fun i hi => h i (by omega)) (by omega)
      have b := h n (by omega)
      omega
theorem sm_add (f g : Nat → Int) (n : Nat) : sm (fun i => f i + g i) n = sm f n + sm g n := by
  induction n with
  | zero => rfl
  | succ n ih => simp only [sm]; rw [ih]; omega
theorem sm_shift (f : Nat → Int) (n : Nat) : sm f (n + 1) = f 0 + sm (fun i => f (i + 1)) n := by
  induction n with
  | zero => simp [sm]
  | succ n ih =>
    have : sm f (n + 1 + 1) = sm f (n + 1) + f (n + 1) := rfl
    rw [this, ih]
    simp only [sm]
    omega
theorem arg_min (f : Nat → Nat) (n : Nat) : ∃ k, k < n + 1 ∧ ∀ i, i < n + 1 → f k ≤ f i := by
  induction n with
  | zero => exact ⟨0, by omega, fun i hi => by rw [show i = 0 by omega]; exact Nat.le_refl _⟩
  | succ n ih =>
    obtain ⟨k, hk, h⟩ := ih
    by_cases e : f k ≤ f (n + 1)
    · refine ⟨k, by omega, fun i hi => ?_⟩
      by_cases e2 : i = n + 1
      · rw [e2]; exact e
      · exact h i (by omega)
    · refine ⟨n + 1, by omega, fun i hi => ?_⟩
      by_cases e2 : i = n + 1
      · rw [e2]; exact Nat.le_refl _
      · have := h i (by omega)
        omega
theorem ldp_loop (hv : Vd ν) {lv ld : Nat → Int} (h : LdP ν T lv ld) (hl : Ldk ν ld) {a : Nat} (ha : a < nP ν) (n : Nat) (h1 : ∀ k, al ν ld a k) (h2 : qn ν ld a (n + 1) = a) : 0 < sm (fun i => Wt ν T (qn ν ld a i)) (n + 1) := by
  obtain ⟨h0, st, s, hi, hd⟩ := h
  have hp := fun i => al_path hv hl ha (h1 i) i (Nat.le_refl i)
  have hnx := fun i => al_next hv hl ha (h1 (i + 1)) i (by omega)
  -- the cell of the i-th: where path i + 1 leads to
  have g := fun i => hi _ (vd_rng hv _ (hp i)).1 (h1 (i + 1) i (by omega))
  have e := fun i => (show (ld (Fr ν (qn ν ld a i))).toNat = qn ν ld a (i + 1) from rfl)
  obtain ⟨k, hk, hmin⟩ := arg_min (fun i => st (Fr ν (qn ν ld a i))) n
  have hfr : Fr ν (qn ν ld a (n + 1)) = Fr ν (qn ν ld a 0) := by rw [h2]; rfl
  have hle : ∀ i, i < n + 1 → lv (Fr ν (qn ν ld a i)) ≤ lv (Fr ν (qn ν ld a (i + 1))) + Wt ν T (qn ν ld a (i + 1)) := fun i _ => by
    have := (g i).2.1
    rw [e i] at this
    exact this
  have hlt : lv (Fr ν (qn ν ld a k)) < lv (Fr ν (qn ν ld a (k + 1))) + Wt ν T (qn ν ld a (k + 1)) := by
    have g3 := (g k).2.2
    rw [e k] at g3
    apply g3
    have hm : st (Fr ν (qn ν ld a k)) ≤ st (Fr ν (qn ν ld a (k + 1))) := by
      by_cases ek : k = n
      · rw [ek, hfr, ← ek]; exact hmin 0 (by omega)
      · exact hmin (k + 1) (by omega)
    by_cases es : st (Fr ν (qn ν ld a k)) = st (Fr ν (qn ν ld a (k + 1)))
    · exact Or.inr (hd _ _ (vd_rng hv _ (hp k)).1 (vd_rng hv _ (hp (k + 1))).1 (h1 (k + 1) k (by omega)) (h1 (k + 2) (k + 1) (by omega)) es).symm
    · exact Or.inl ⟨by omega, h1 (k + 2) (k + 1) (by omega)⟩
  have hs := sm_lt (f := fun i => lv (Fr ν (qn ν ld a i))) (g := fun i => lv (Fr ν (qn ν ld a (i + 1))) + Wt ν T (qn ν ld a (i + 1))) (n := n + 1) hle k hk hlt
  rw [sm_add] at hs
  have r1 : sm (fun i => lv (Fr ν (qn ν ld a (i + 1)))) (n + 1) = sm (fun i => lv (Fr ν (qn ν ld a i))) (n + 1) := by
    have q1 := sm_shift (fun i => lv (Fr ν (qn ν ld a i))) (n + 1)
    have q2 : sm (fun i => lv (Fr ν (qn ν ld a i))) (n + 1 + 1) = sm (fun i => lv (Fr ν (qn ν ld a i))) (n + 1) + lv (Fr ν (qn ν ld a (n + 1))) := rfl
    rw [hfr] at q2
    omega
  have r2 : sm (fun i => Wt ν T (qn ν ld a (i + 1))) (n + 1) = sm (fun i => Wt ν T (qn ν ld a i)) (n + 1) := by
    have q1 := sm_shift (fun i => Wt ν T (qn ν ld a i)) (n + 1)
    have q2 : sm (fun i => Wt ν T (qn ν ld a i)) (n + 1 + 1) = sm (fun i => Wt ν T (qn ν ld a i)) (n + 1) + Wt ν T (qn ν ld a (n + 1)) := rfl
    rw [h2] at q2
    have q3 : Wt ν T (qn ν ld a 0) = Wt ν T a := rfl
    omega
  rw [r1, r2] at hs
  omega
/-- a row of leads is no heavier than what as many rounds bring -/
theorem row_hist (hv : Vd ν) {L : Nat → Nat → Int} {K : Nat} (h : Hist ν (Wt ν T) L K) {ld : Nat → Int} (hl : Ldk ν ld) {a : Nat} (ha : a < nP ν) (hf : Fb ν (To ν a) = false) (n : Nat) (h1 : al ν ld a n) (hn : n + 1 ≤ K) : sm (fun i => Wt ν T (qn ν ld a i)) (n + 1) ≤ L (n + 1) (To ν a) := by
  -- from the far end
  have key : ∀ j, j ≤ n → sm (fun i => Wt ν T (qn ν ld a (n - j + i))) (j + 1) ≤ L (j + 1) (To ν (qn ν ld a (n - j))) := by
    intro j
    induction j with
    | zero =>
      intro _
      have hp := al_path hv hl ha h1 n (Nat.le_refl n)
      have hfn : Fb ν (To ν (qn ν ld a n)) = false := by
        cases n with
        | zero => exact hf
        | succ n => exact (al_next hv hl ha h1 n (by omega)).2.2
      have b := (h.2.2 0 (by omega)).1.2.1 _ hp hfn
      have d := (h.1 _ (vd_rng hv _ hp).1).1
      simp only [sm, Nat.sub_zero, Nat.add_zero]
      omega
    | succ j ih =>
      intro hj
      have b := ih (by omega)
      have hp := al_path hv hl ha h1 (n - (j + 1)) (by omega)
      have hnx := al_next hv hl ha h1 (n - (j + 1)) (by omega)
      have hfn : Fb ν (To ν (qn ν ld a (n - (j + 1)))) = false := by
        by_cases e : n - (j + 1) = 0
        · rw [e]; exact hf
        · have := (al_next hv hl ha h1 (n - (j + 1) - 1) (by omega)).2.2
          rw [show n - (j + 1) - 1 + 1 = n - (j + 1) by omega] at this
          exact this
      have d := (h.2.2 (j + 1) (by omega)).1.2.1 _ hp hfn
      rw [show n - (j + 1) + 1 = n - j by omega] at hnx
      rw [hnx.2.1] at b
      rw [sm_shift]
      have e2 : sm (fun i => Wt ν T (qn ν ld a (n - (j + 1) + (i + 1)))) (j + 1) = sm (fun i => Wt ν T (qn ν ld a (n - j + i))) (j + 1) := sm_congr (fun i _ => by rw [show n - (j + 1) + (i + 1) = n - j + i by omega])
      rw [e2]
      simp only [Nat.add_zero]
      omega
  have b := key n (Nat.le_refl n)
  rw [Nat.sub_self] at b
  have e2 : sm (fun i => Wt ν T (qn ν ld a (0 + i))) (n + 1) = sm (fun i => Wt ν T (qn ν ld a i)) (n + 1) := sm_congr (fun i _ => by rw [Nat.zero_add])
  rw [e2] at b
  exact b
/-- how a cut tells that it isn't good at a period -/
theorem vio_sum {n : Nat} {q : Nat → Nat} {g N w x : Int} (hN : N = sm (fun i => Dl ν (q i)) n + g) (h : x < sm (fun i => Wt ν T (q i)) n) (hw : x = T * w - g) : T * (w + sm (fun i => Sh ν (q i)) n) < N := by
  rw [sm_wt] at h
  rw [Int.mul_add]
  omega
end VIO
