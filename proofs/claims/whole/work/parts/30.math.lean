/-! numbers alone: what is least above a row of paths -/
/-- nothing rises above U: each cell's bound holds over every path -/
def Pst (nC nP : Nat) (fr to : Nat → Nat) (w : Nat → Int) (fl : Nat → Bool) (U : Nat → Int) : Prop :=
  (∀ c, c < nC → 0 ≤ U c ∧ (fl c = true → U c = 0)) ∧ ∀ p, p < nP → fl (to p) = false → U (fr p) + w p ≤ U (to p)
def Lf (nC nP : Nat) (fr to : Nat → Nat) (w : Nat → Int) (fl : Nat → Bool) (M : Nat → Int) : Prop :=
  Pst nC nP fr to w fl M ∧ ∀ U, Pst nC nP fr to w fl U → ∀ c, c < nC → M c ≤ U c
def Rng (nC nP : Nat) (fr to : Nat → Nat) : Prop := ∀ p, p < nP → fr p < nC ∧ to p < nC
section MATH
variable {nC nP : Nat} {fr to : Nat → Nat} {w : Nat → Int} {fl : Nat → Bool}
theorem pst_min {U : Nat → Int} (c : Nat) (hc : c < nC) (hU : Pst nC nP fr to w fl U) : ∃ m, (∃ V, Pst nC nP fr to w fl V ∧ V c = m) ∧ ∀ V, Pst nC nP fr to w fl V → m ≤ V c := by
  have key : ∀ n : Nat, ∀ V, Pst nC nP fr to w fl V → (V c).toNat = n → ∃ m, (∃ V, Pst nC nP fr to w fl V ∧ V c = m) ∧ ∀ V, Pst nC nP fr to w fl V → m ≤ V c := by
    intro n
    induction n using Nat.strongRecOn with
    | ind n ih =>
      intro V hV hn
      by_cases h : ∃ X, Pst nC nP fr to w fl X ∧ X c < V c
      · obtain ⟨X, hX, hlt⟩ := h
        have h1 := (hX.1 c hc).1
        exact ih (X c).toNat (by omega) X hX rfl
      · exact ⟨V c, ⟨V, hV, rfl⟩, fun X hX => by
          by_cases h2 : X c < V c
          · exact absurd ⟨X, hX, h2⟩ h
          · omega⟩
  exact key _ U hU rfl
theorem lf_exists (hr : Rng nC nP fr to) {U : Nat → Int} (hU : Pst nC nP fr to w fl U) : ∃ M, Lf nC nP fr to w fl M := by
  have h0 : ∀ c : Nat, ∃ m : Int, c < nC → (∃ V, Pst nC nP fr to w fl V ∧ V c = m) ∧ ∀ V, Pst nC nP fr to w fl V → m ≤ V c := by
    intro c
    by_cases hc : c < nC
    · obtain ⟨m, hm⟩ := pst_min c hc hU
      exact ⟨m, fun _ => hm⟩
    · exact ⟨0, fun h => absurd h hc⟩
  obtain ⟨M, hM⟩ := Classical.axiomOfChoice h0
  refine ⟨M, ⟨fun c hc => ?_, fun p hp hfl => ?_⟩, fun V hV c hc => (hM c hc).2 V hV⟩
  · obtain ⟨⟨V, hV, e⟩, -⟩ := hM c hc
    have := hV.1 c hc
    exact ⟨by omega, fun h => by have := this.2 h; omega⟩
  · obtain ⟨⟨V, hV, e⟩, -⟩ := hM (to p) (hr p hp).2
    have h1 := hV.2 p hp hfl
    have h2 := (hM (fr p) (hr p hp).1).2 V hV
    omega
theorem lf_unique {M M2 : Nat → Int} (h : Lf nC nP fr to w fl M) (h2 : Lf nC nP fr to w fl M2) (c : Nat) (hc : c < nC) : M c = M2 c := by
  have a := h.2 M2 h2.1 c hc
  have b := h2.2 M h.1 c hc
  omega
/-- how many below n -/
def cnt (f : Nat → Bool) : Nat → Nat
  | 0 => 0
  | n + 1 => cnt f n + (if f n = true then 1 else 0)
theorem cnt_le (f : Nat → Bool) (n : Nat) : cnt f n ≤ n := by
  induction n with
  | zero => exact Nat.le_refl 0
  | succ n ih => simp only [cnt]; split <;> omega
theorem cnt_all {f : Nat → Bool} {n : Nat} (h : n ≤ cnt f n) : ∀ c, c < n → f c = true := by
  induction n with
  | zero => intro c hc; omega
  | succ n ih =>
    intro c hc
    simp only [cnt] at h
    have h1 := cnt_le f n
    by_cases hf : f n = true
    · rw [if_pos hf] at h
      by_cases e : c = n
      · rw [e]; exact hf
      · exact ih (by omega) c (by omega)
    · rw [if_neg hf] at h
      omega
theorem cnt_mono {f g : Nat → Bool} {n : Nat} (h : ∀ c, c < n → f c = true → g c = true) : cnt f n ≤ cnt g n := by
  induction n with
  | zero => exact Nat.le_refl 0
  | succ n ih =>
    have h1 := ih (fun c hc => h c (by omega))
    have h2 := h n (by omega)
    simp only [cnt]
    by_cases hf : f n = true
    · rw [if_pos hf, if_pos (h2 hf)]; omega
    · rw [if_neg hf]; omega
theorem cnt_lt {f g : Nat → Bool} {n : Nat} (h : ∀ c, c < n → f c = true → g c = true) (c0 : Nat) (hc : c0 < n) (hf : f c0 = false) (hg : g c0 = true) : cnt f n < cnt g n := by
  induction n with
  | zero => omega
  | succ n ih =>
    simp only [cnt]
    by_cases e : c0 = n
    · subst e
      have h1 := cnt_mono (f := f) (g := g) (n := c0) (fun c hc => h c (by omega))
      rw [if_pos hg, if_neg (by rw [hf]; decide)]
      omega
    · have h1 := ih (fun c hc => h c (by omega)) (by omega)
      have h2 := h n (by omega)
      by_cases hf2 : f n = true
      · rw [if_pos hf2, if_pos (h2 hf2)]; omega
      · rw [if_neg hf2]; omega
/-- below the least there is always a cell that the next round brings there -/
theorem lf_step (hr : Rng nC nP fr to) {M L : Nat → Int} (hM : Lf nC nP fr to w fl M) (h0 : ∀ c, c < nC → 0 ≤ L c) (h1 : ∀ c, c < nC → L c ≤ M c) (c0 : Nat) (hc0 : c0 < nC) (hne : L c0 ≠ M c0) :
    ∃ p, p < nP ∧ fl (to p) = false ∧ L (fr p) = M (fr p) ∧ L (to p) ≠ M (to p) ∧ M (fr p) + w p = M (to p) := by
  by_cases hx : ∃ p, p < nP ∧ fl (to p) = false ∧ L (fr p) = M (fr p) ∧ L (to p) ≠ M (to p) ∧ M (fr p) + w p = M (to p)
  · exact hx
  · exfalso
    have hP : Pst nC nP fr to w fl (fun c => if L c = M c then M c else M c - 1) := by
      refine ⟨fun c hc => ?_, fun p hp hfl => ?_⟩
      · have a := hM.1.1 c hc
        have b := h0 c hc
        have d := h1 c hc
        by_cases e : L c = M c
        · simp only [if_pos e]; exact a
        · simp only [if_neg e]
          refine ⟨by omega, fun hf => ?_⟩
          have := a.2 hf
          omega
      · have a := hM.1.2 p hp hfl
        have hp2 := hr p hp
        by_cases e1 : L (fr p) = M (fr p)
        · by_cases e2 : L (to p) = M (to p)
          · simp only [if_pos e1, if_pos e2]; exact a
          · simp only [if_pos e1, if_neg e2]
            by_cases e3 : M (fr p) + w p = M (to p)
            · exact absurd ⟨p, hp, hfl, e1, e2, e3⟩ hx
            · omega
        · by_cases e2 : L (to p) = M (to p)
          · simp only [if_neg e1, if_pos e2]; omega
          · simp only [if_neg e1, if_neg e2]; omega
    have h2 := hM.2 _ hP c0 hc0
    simp only [if_neg hne] at h2
    omega
/-- rounds that bring each path's end at least so far, from rest, are at the least one after as many as there are cells -/
theorem lf_conv (hr : Rng nC nP fr to) {M : Nat → Int} (hM : Lf nC nP fr to w fl M) (L : Nat → Nat → Int) (K : Nat) (h0 : ∀ k, k ≤ K → ∀ c, c < nC → 0 ≤ L k c) (h1 : ∀ k, k ≤ K → ∀ c, c < nC → L k c ≤ M c) (hm : ∀ k, k < K → ∀ c, c < nC → L k c ≤ L (k + 1) c)
    (hs : ∀ k, k < K → ∀ p, p < nP → fl (to p) = false → L k (fr p) + w p ≤ L (k + 1) (to p)) : ∀ k, k ≤ K → (∀ c, c < nC → L k c = M c) ∨ k ≤ cnt (fun c => decide (L k c = M c)) nC := by
  intro k
  induction k with
  | zero => intro _; exact Or.inr (Nat.zero_le _)
  | succ k ih =>
    intro hk
    rcases ih (by omega) with h | h
    · left
      intro c hc
      have a := hm k (by omega) c hc
      have b := h1 (k + 1) hk c hc
      have d := h c hc
      omega
    · by_cases hall : ∀ c, c < nC → L k c = M c
      · left
        intro c hc
        have a := hm k (by omega) c hc
        have b := h1 (k + 1) hk c hc
        have d := hall c hc
        omega
      · right
        have ⟨c0, hc0⟩ := Classical.not_forall.mp hall
        have hc1 : c0 < nC ∧ L k c0 ≠ M c0 := by
          by_cases e : c0 < nC
          · exact ⟨e, fun h => hc0 (fun _ => h)⟩
          · exact absurd (fun h => absurd h e) hc0
        obtain ⟨p, hp, hfl, e1, e2, e3⟩ := lf_step hr hM (h0 k (by omega)) (h1 k (by omega)) c0 hc1.1 hc1.2
        have hp2 := hr p hp
        have e4 := hs k (by omega) p hp hfl
        have e5 := h1 (k + 1) hk (to p) hp2.2
        have hlt := cnt_lt (f := fun c => decide (L k c = M c)) (g := fun c => decide (L (k + 1) c = M c)) (n := nC) (fun c hc hf => by
          have a := hm k (by omega) c hc
          have b := h1 (k + 1) hk c hc
          have d := of_decide_eq_true hf
          exact decide_eq_true (by omega)) (to p) hp2.2 (decide_eq_false e2) (decide_eq_true (by omega))
        omega
theorem lf_done (hr : Rng nC nP fr to) {M : Nat → Int} (hM : Lf nC nP fr to w fl M) (L : Nat → Nat → Int) (K : Nat) (h0 : ∀ k, k ≤ K → ∀ c, c < nC → 0 ≤ L k c) (h1 : ∀ k, k ≤ K → ∀ c, c < nC → L k c ≤ M c) (hm : ∀ k, k < K → ∀ c, c < nC → L k c ≤ L (k + 1) c)
    (hs : ∀ k, k < K → ∀ p, p < nP → fl (to p) = false → L k (fr p) + w p ≤ L (k + 1) (to p)) (hK : nC ≤ K) : ∀ c, c < nC → L nC c = M c := by
  rcases lf_conv hr hM L K h0 h1 hm hs nC hK with h | h
  · exact h
  · intro c hc
    exact of_decide_eq_true (cnt_all h c hc)
/-- good: a bound that also keeps each limit -/
def Gd (nC nP : Nat) (fr to : Nat → Nat) (w : Nat → Int) (fl : Nat → Bool) (lim : Nat → Int) : Prop :=
  ∃ U, Pst nC nP fr to w fl U ∧ (∀ c, c < nC → fl c = false → U c ≤ lim c) ∧ ∀ p, p < nP → fl (to p) = true → U (fr p) + w p ≤ lim (to p)
theorem gd_lf (hr : Rng nC nP fr to) {lim M : Nat → Int} (hM : Lf nC nP fr to w fl M) : Gd nC nP fr to w fl lim ↔ (∀ c, c < nC → fl c = false → M c ≤ lim c) ∧ ∀ p, p < nP → fl (to p) = true → M (fr p) + w p ≤ lim (to p) := by
  constructor
  · rintro ⟨U, hU, h1, h2⟩
    refine ⟨fun c hc hf => ?_, fun p hp hf => ?_⟩
    · have := hM.2 U hU c hc
      have := h1 c hc hf
      omega
    · have := hM.2 U hU (fr p) (hr p hp).1
      have := h2 p hp hf
      omega
  · rintro ⟨h1, h2⟩
    exact ⟨M, hM.1, h1, h2⟩
theorem gd_none {lim : Nat → Int} (h : ¬ ∃ U, Pst nC nP fr to w fl U) : ¬ Gd nC nP fr to w fl lim := fun ⟨U, hU, _⟩ => h ⟨U, hU⟩
theorem pst_le {w2 : Nat → Int} {U : Nat → Int} (h : ∀ p, p < nP → w2 p ≤ w p) (hU : Pst nC nP fr to w fl U) : Pst nC nP fr to w2 fl U := by
  refine ⟨hU.1, fun p hp hf => ?_⟩
  have := hU.2 p hp hf
  have := h p hp
  omega
theorem gd_mono {w2 lim lim2 : Nat → Int} (hr : Rng nC nP fr to) (h : ∀ p, p < nP → w2 p ≤ w p) (h2 : ∀ c, c < nC → lim c ≤ lim2 c) (hg : Gd nC nP fr to w fl lim) : Gd nC nP fr to w2 fl lim2 := by
  obtain ⟨U, hU, h3, h4⟩ := hg
  refine ⟨U, pst_le h hU, fun c hc hf => ?_, fun p hp hf => ?_⟩
  · have := h3 c hc hf
    have := h2 c hc
    omega
  · have := h4 p hp hf
    have := h p hp
    have := h2 (to p) (hr p hp).2
    omega
end MATH
/-! what comes to a cell: the greatest over the paths to it -/
def cmo (v : Nat → Int) (to : Nat → Nat) (c : Nat) : Nat → Option Int
  | 0 => none
  | n + 1 => if to n = c then (match cmo v to c n with | none => some (v n) | some x => some (if x < v n then v n else x)) else cmo v to c n
theorem cmo_none {v : Nat → Int} {to : Nat → Nat} {c n : Nat} : cmo v to c n = none ↔ ∀ p, p < n → to p ≠ c := by
  induction n with
  | zero => exact ⟨fun _ p hp => by omega, fun _ => rfl⟩
  | succ n ih =>
    simp only [cmo]
    by_cases h : to n = c
    · rw [if_pos h]
      constructor
      · intro h2
        cases e : cmo v to c n <;> rw [e] at h2 <;> cases h2
      · intro h2
        exact absurd h (h2 n (by omega))
    · rw [if_neg h, ih]
      constructor
      · intro h2 p hp
        by_cases e : p = n
        · rw [e]; exact h
        · exact h2 p (by omega)
      · intro h2 p hp
        exact h2 p (by omega)
theorem cmo_some {v : Nat → Int} {to : Nat → Nat} {c n : Nat} {x : Int} : cmo v to c n = some x ↔ (∃ p, p < n ∧ to p = c ∧ v p = x) ∧ ∀ p, p < n → to p = c → v p ≤ x := by
  induction n generalizing x with
  | zero =>
    constructor
    · intro h; cases h
    · rintro ⟨⟨p, hp, _⟩, _⟩; omega
  | succ n ih =>
    simp only [cmo]
    by_cases h : to n = c
    · rw [if_pos h]
      cases e : cmo v to c n with
      | none =>
        have e2 := cmo_none.mp e
        constructor
        · intro h2
          cases h2
          refine ⟨⟨n, by omega, h, rfl⟩, fun p hp ht => ?_⟩
          by_cases e3 : p = n
          · rw [e3]; omega
          · exact absurd ht (e2 p (by omega))
        · rintro ⟨⟨p, hp, ht, hv⟩, -⟩
          by_cases e3 : p = n
          · show some (v n) = some x
            rw [← e3, hv]
          · exact absurd ht (e2 p (by omega))
      | some y =>
        obtain ⟨⟨q, hq, hqt, hqv⟩, hmax⟩ := ih.mp e
        constructor
        · intro h2
          have h3 : (if y < v n then v n else y) = x := Option.some.inj h2
          refine ⟨?_, fun p hp ht => ?_⟩
          · by_cases e4 : y < v n
            · rw [if_pos e4] at h3; exact ⟨n, by omega, h, h3⟩
            · rw [if_neg e4] at h3; exact ⟨q, by omega, hqt, by omega⟩
          · by_cases e3 : p = n
            · rw [e3]; split at h3 <;> omega
            · have := hmax p (by omega) ht
              split at h3 <;> omega
        · rintro ⟨⟨p, hp, ht, hv⟩, hm⟩
          show some (if y < v n then v n else y) = some x
          congr 1
          have a := hm n (by omega) h
          have b := hm q (by omega) hqt
          by_cases e3 : p = n
          · rw [e3] at hv; split <;> omega
          · have := hmax p (by omega) ht
            split <;> omega
    · rw [if_neg h, ih]
      constructor
      · rintro ⟨⟨p, hp, ht, hv⟩, hm⟩
        refine ⟨⟨p, by omega, ht, hv⟩, fun q hq hqt => ?_⟩
        by_cases e3 : q = n
        · rw [e3] at hqt; exact absurd hqt h
        · exact hm q (by omega) hqt
      · rintro ⟨⟨p, hp, ht, hv⟩, hm⟩
        refine ⟨⟨p, ?_, ht, hv⟩, fun q hq hqt => hm q (by omega) hqt⟩
        by_cases e3 : p = n
        · rw [e3] at ht; exact absurd ht h
        · omega
