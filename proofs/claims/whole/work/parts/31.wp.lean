/-! Int32 and Int64 as whole numbers -/
theorem t_bmod (x : Int) : x.bmod (2 ^ 32) = (x + 2147483648) % 4294967296 - 2147483648 := by
  unfold Int.bmod
  simp only [show ((2 ^ 32 : Nat) : Int) = 4294967296 from rfl]
  split <;> omega
theorem t_bmod64 (x : Int) : x.bmod (2 ^ 64) = (x + 9223372036854775808) % 18446744073709551616 - 9223372036854775808 := by
  unfold Int.bmod
  simp only [show ((2 ^ 64 : Nat) : Int) = 18446744073709551616 from rfl]
  split <;> omega
theorem t_add (a b : Int32) : (a + b).toInt = (a.toInt + b.toInt + 2147483648) % 4294967296 - 2147483648 := by rw [Int32.toInt_add, t_bmod]
theorem t_sub (a b : Int32) : (a - b).toInt = (a.toInt - b.toInt + 2147483648) % 4294967296 - 2147483648 := by rw [Int32.toInt_sub, t_bmod]
theorem t_mul (a b : Int32) : (a * b).toInt = (a.toInt * b.toInt + 2147483648) % 4294967296 - 2147483648 := by rw [Int32.toInt_mul, t_bmod]
theorem t_neg (a : Int32) : (-a).toInt = (-a.toInt + 2147483648) % 4294967296 - 2147483648 := by rw [Int32.toInt_neg, t_bmod]
theorem t_add64 (a b : Int64) : (a + b).toInt = (a.toInt + b.toInt + 9223372036854775808) % 18446744073709551616 - 9223372036854775808 := by rw [Int64.toInt_add, t_bmod64]
theorem t_sub64 (a b : Int64) : (a - b).toInt = (a.toInt - b.toInt + 9223372036854775808) % 18446744073709551616 - 9223372036854775808 := by rw [Int64.toInt_sub, t_bmod64]
theorem t_mul64 (a b : Int64) : (a * b).toInt = (a.toInt * b.toInt + 9223372036854775808) % 18446744073709551616 - 9223372036854775808 := by rw [Int64.toInt_mul, t_bmod64]
theorem t_neg64 (a : Int64) : (-a).toInt = (-a.toInt + 9223372036854775808) % 18446744073709551616 - 9223372036854775808 := by rw [Int64.toInt_neg, t_bmod64]
theorem t_lo (a : Int32) : -2147483648 ≤ a.toInt := Int32.le_toInt a
theorem t_hi (a : Int32) : a.toInt < 2147483648 := Int32.toInt_lt a
theorem t_lo64 (a : Int64) : -9223372036854775808 ≤ a.toInt := Int64.le_toInt a
theorem t_hi64 (a : Int64) : a.toInt < 9223372036854775808 := Int64.toInt_lt a
theorem t_le {a b : Int32} : a ≤ b ↔ a.toInt ≤ b.toInt := Int32.le_iff_toInt_le
theorem t_lt {a b : Int32} : a < b ↔ a.toInt < b.toInt := Int32.lt_iff_toInt_lt
theorem t_eq {a b : Int32} : a = b ↔ a.toInt = b.toInt := Int32.toInt_inj.symm
theorem t_le64 {a b : Int64} : a ≤ b ↔ a.toInt ≤ b.toInt := Int64.le_iff_toInt_le
theorem t_lt64 {a b : Int64} : a < b ↔ a.toInt < b.toInt := Int64.lt_iff_toInt_lt
theorem t_eq64 {a b : Int64} : a = b ↔ a.toInt = b.toInt := Int64.toInt_inj.symm
theorem t_test (a b : Int32) (h1 : 0 ≤ a.toInt) (h2 : a.toInt < 100) (h3 : b.toInt = 3) : (64 * (a + b) - 1).toInt = 64 * a.toInt + 191 := by
  simp only [t_add, t_sub, t_mul, Int32.reduceToInt]
  omega
theorem t_clamp (a : Int32) : a.toNatClampNeg = a.toInt.toNat := rfl
theorem t_nat {a : Int32} (h : 0 ≤ a.toInt) : (a.toNatClampNeg : Int) = a.toInt := by
  rw [t_clamp]
  omega
/-! what a function surely answers -/
def Wp {α : Type} (t : Option (α × ax_M)) (Q : α → ax_M → Prop) : Prop := ∃ r μ, t = some (r, μ) ∧ Q r μ
theorem wp_ret {α : Type} {Q : α → ax_M → Prop} {r : α} {μ : ax_M} (h : Q r μ) : Wp (some (r, μ)) Q := ⟨r, μ, rfl, h⟩
theorem wp_bd {α β : Type} {Q : β → ax_M → Prop} {t : Option (α × ax_M)} {f : α → ax_M → Option (β × ax_M)} (h : Wp t (fun a m => Wp (f a m) Q)) : Wp (ax_bd t f) Q := by
  obtain ⟨r, μ, e, h⟩ := h
  rw [e]
  exact h
theorem wp_mono {α : Type} {Q R : α → ax_M → Prop} {t : Option (α × ax_M)} (h : Wp t R) (hq : ∀ r μ, R r μ → Q r μ) : Wp t Q := by
  obtain ⟨r, μ, e, h⟩ := h
  exact ⟨r, μ, e, hq r μ h⟩
theorem wp_if {α : Type} {Q : α → ax_M → Prop} {c : Prop} [Decidable c] {t e : Option (α × ax_M)} (h1 : c → Wp t Q) (h2 : ¬ c → Wp e Q) : Wp (if c then t else e) Q := by
  by_cases h : c
  · rw [if_pos h]; exact h1 h
  · rw [if_neg h]; exact h2 h
theorem ax_in_iff {i : Int32} {n : Nat} : ax_in i n = true ↔ 0 ≤ i.toInt ∧ i.toInt < n := by
  unfold ax_in
  simp only [Bool.not_eq_true', Bool.or_eq_false_iff, decide_eq_false_iff_not, t_lt, Nat.not_le, t_clamp, Int32.reduceToInt]
  omega
theorem rd_ok {μ : ax_M} {a n : Nat} {i : Int32} {k : Nat} (h : i.toInt = k) (hk : k < n) : ax_rd μ a n i = some (μ.1 a k) := by
  have h1 : ax_in i n = true := ax_in_iff.mpr ⟨by omega, by omega⟩
  rw [ax_rd, if_pos h1, t_clamp, h]
  rfl
theorem rl_ok {μ : ax_M} {a n : Nat} {i : Int32} {k : Nat} (h : i.toInt = k) (hk : k < n) : ax_rl μ a n i = some (μ.2 a k) := by
  have h1 : ax_in i n = true := ax_in_iff.mpr ⟨by omega, by omega⟩
  rw [ax_rl, if_pos h1, t_clamp, h]
  rfl
theorem wr_ok {μ : ax_M} {a n : Nat} {i v : Int32} {k : Nat} (h : i.toInt = k) (hk : k < n) : ax_wr μ a n i v = some (ax_wi μ a k v) := by
  have h1 : ax_in i n = true := ax_in_iff.mpr ⟨by omega, by omega⟩
  rw [ax_wr, if_pos h1, t_clamp, h]
  rfl
theorem wrl_ok {μ : ax_M} {a n : Nat} {i : Int32} {v : Int64} {k : Nat} (h : i.toInt = k) (hk : k < n) : ax_wrl μ a n i v = some (ax_wl μ a k v) := by
  have h1 : ax_in i n = true := ax_in_iff.mpr ⟨by omega, by omega⟩
  rw [ax_wrl, if_pos h1, t_clamp, h]
  rfl
theorem wz_ok {μ : ax_M} {a n : Nat} {i v : Int32} {k : Nat} (h : i.toInt = k) (hk : k < n) : ax_wz μ a n i v = some (ax_wi μ a k (vp_nar .boolean v)) := by
  have h1 : ax_in i n = true := ax_in_iff.mpr ⟨by omega, by omega⟩
  rw [ax_wz, if_pos h1, t_clamp, h]
  rfl
section WPR
variable {α : Type} {Q : α → ax_M → Prop} {μ : ax_M} {a n : Nat} {i v : Int32} {v6 : Int64}
theorem wp_rd {f : Int32 → Option (α × ax_M)} (k : Nat) (h : i.toInt = k) (hk : k < n) (hf : Wp (f (μ.1 a k)) Q) : Wp (Option.bind (ax_rd μ a n i) f) Q := by
  rw [rd_ok h hk]; exact hf
theorem wp_rl {f : Int64 → Option (α × ax_M)} (k : Nat) (h : i.toInt = k) (hk : k < n) (hf : Wp (f (μ.2 a k)) Q) : Wp (Option.bind (ax_rl μ a n i) f) Q := by
  rw [rl_ok h hk]; exact hf
theorem wp_wr {f : ax_M → Option (α × ax_M)} (k : Nat) (h : i.toInt = k) (hk : k < n) (hf : Wp (f (ax_wi μ a k v)) Q) : Wp (Option.bind (ax_wr μ a n i v) f) Q := by
  rw [wr_ok h hk]; exact hf
theorem wp_wrl {f : ax_M → Option (α × ax_M)} (k : Nat) (h : i.toInt = k) (hk : k < n) (hf : Wp (f (ax_wl μ a k v6)) Q) : Wp (Option.bind (ax_wrl μ a n i v6) f) Q := by
  rw [wrl_ok h hk]; exact hf
theorem wp_wz {f : ax_M → Option (α × ax_M)} (k : Nat) (h : i.toInt = k) (hk : k < n) (hf : Wp (f (ax_wi μ a k (vp_nar .boolean v))) Q) : Wp (Option.bind (ax_wz μ a n i v) f) Q := by
  rw [wz_ok h hk]; exact hf
theorem wp_let {γ : Type} {e : γ} {f : γ → Option (α × ax_M)} (h : Wp (f e) Q) : Wp (ax_let e f) Q := h
/-- a loop: the invariant's number falls with each round -/
theorem wp_lp0 {B : (ax_M → Option (α × ax_M)) → ax_M → Option (α × ax_M)} (I : Nat → ax_M → Prop) (N : Nat) (h : ∀ k (rc : ax_M → Option (α × ax_M)), (∀ j μ, j < k → I j μ → Wp (rc μ) Q) → ∀ μ, I k μ → Wp (B rc μ) Q) (k : Nat) (hk : k < N) (hI : I k μ) : Wp (ax_lp0 B N μ) Q := by
  induction N generalizing k μ with
  | zero => omega
  | succ N ih => exact h k _ (fun j μ hj hI => ih j (by omega) hI) μ hI
theorem wp_lp1 {τ : Type} {B : (τ → ax_M → Option (α × ax_M)) → τ → ax_M → Option (α × ax_M)} (I : Nat → τ → ax_M → Prop) (N : Nat) (h : ∀ k (rc : τ → ax_M → Option (α × ax_M)), (∀ j x μ, j < k → I j x μ → Wp (rc x μ) Q) → ∀ x μ, I k x μ → Wp (B rc x μ) Q) {x : τ} (k : Nat) (hk : k < N) (hI : I k x μ) : Wp (ax_lp1 B N x μ) Q := by
  induction N generalizing k x μ with
  | zero => omega
  | succ N ih => exact h k _ (fun j x μ hj hI => ih j (by omega) hI) x μ hI
theorem wp_lp2 {τ1 τ2 : Type} {B : (τ1 → τ2 → ax_M → Option (α × ax_M)) → τ1 → τ2 → ax_M → Option (α × ax_M)} (I : Nat → τ1 → τ2 → ax_M → Prop) (N : Nat) (h : ∀ k (rc : τ1 → τ2 → ax_M → Option (α × ax_M)), (∀ j x y μ, j < k → I j x y μ → Wp (rc x y μ) Q) → ∀ x y μ, I k x y μ → Wp (B rc x y μ) Q) {x : τ1} {y : τ2} (k : Nat) (hk : k < N) (hI : I k x y μ) : Wp (ax_lp2 B N x y μ) Q := by
  induction N generalizing k x y μ with
  | zero => omega
  | succ N ih => exact h k _ (fun j x y μ hj hI => ih j (by omega) hI) x y μ hI
theorem wp_lp3 {τ1 τ2 τ3 : Type} {B : (τ1 → τ2 → τ3 → ax_M → Option (α × ax_M)) → τ1 → τ2 → τ3 → ax_M → Option (α × ax_M)} (I : Nat → τ1 → τ2 → τ3 → ax_M → Prop) (N : Nat) (h : ∀ k (rc : τ1 → τ2 → τ3 → ax_M → Option (α × ax_M)), (∀ j x y z μ, j < k → I j x y z μ → Wp (rc x y z μ) Q) → ∀ x y z μ, I k x y z μ → Wp (B rc x y z μ) Q) {x : τ1} {y : τ2} {z : τ3} (k : Nat) (hk : k < N) (hI : I k x y z μ) : Wp (ax_lp3 B N x y z μ) Q := by
  induction N generalizing k x y z μ with
  | zero => omega
  | succ N ih => exact h k _ (fun j x y z μ hj hI => ih j (by omega) hI) x y z μ hI
theorem wp_lp4 {τ1 τ2 τ3 τ4 : Type} {B : (τ1 → τ2 → τ3 → τ4 → ax_M → Option (α × ax_M)) → τ1 → τ2 → τ3 → τ4 → ax_M → Option (α × ax_M)} (I : Nat → τ1 → τ2 → τ3 → τ4 → ax_M → Prop) (N : Nat) (h : ∀ k (rc : τ1 → τ2 → τ3 → τ4 → ax_M → Option (α × ax_M)), (∀ j x y z u μ, j < k → I j x y z u μ → Wp (rc x y z u μ) Q) → ∀ x y z u μ, I k x y z u μ → Wp (B rc x y z u μ) Q) {x : τ1} {y : τ2} {z : τ3} {u : τ4} (k : Nat) (hk : k < N) (hI : I k x y z u μ) : Wp (ax_lp4 B N x y z u μ) Q := by
  induction N generalizing k x y z u μ with
  | zero => omega
  | succ N ih => exact h k _ (fun j x y z u μ hj hI => ih j (by omega) hI) x y z u μ hI
end WPR
/-! what a function leaves as it was: all cells but some -/
def Kp {α : Type} (S : List Nat) (t : Option (α × ax_M)) (μ : ax_M) : Prop := ∀ r μ2, t = some (r, μ2) → ∀ a, a ∉ S → μ2.1 a = μ.1 a ∧ μ2.2 a = μ.2 a
section KP
variable {α β : Type} {S : List Nat} {μ : ax_M}
theorem kp_ret {r : α} : Kp S (some (r, μ)) μ := by
  intro r2 μ2 h a _
  cases h
  exact ⟨rfl, rfl⟩
theorem kp_none : Kp S (none : Option (α × ax_M)) μ := by
  intro r2 μ2 h
  cases h
theorem kp_if {c : Prop} [Decidable c] {t e : Option (α × ax_M)} (h1 : Kp S t μ) (h2 : Kp S e μ) : Kp S (if c then t else e) μ := by
  split
  · exact h1
  · exact h2
theorem kp_sub {S2 : List Nat} {t : Option (α × ax_M)} (h : Kp S2 t μ) (hs : S2.all (fun a => S.elem a) = true) : Kp S t μ := by
  intro r μ2 e a ha
  refine h r μ2 e a (fun h2 => ha ?_)
  have := List.all_eq_true.mp hs a h2
  exact List.elem_iff.mp this
theorem kp_bd {S2 : List Nat} {t : Option (α × ax_M)} {f : α → ax_M → Option (β × ax_M)} (h : Kp S2 t μ) (hs : S2.all (fun a => S.elem a) = true) (hf : ∀ r m, Kp S (f r m) m) : Kp S (ax_bd t f) μ := by
  intro r μ2 e a ha
  cases ht : t with
  | none => rw [ht] at e; cases e
  | some q =>
    rw [ht] at e
    have h1 := kp_sub h hs q.1 q.2 ht a ha
    have h2 := hf q.1 q.2 r μ2 e a ha
    exact ⟨h2.1.trans h1.1, h2.2.trans h1.2⟩
theorem kp_bind {γ : Type} {o : Option γ} {f : γ → Option (α × ax_M)} (h : ∀ v, Kp S (f v) μ) : Kp S (Option.bind o f) μ := by
  cases o with
  | none => exact kp_none
  | some v => exact h v
theorem kp_let {γ : Type} {e : γ} {f : γ → Option (α × ax_M)} (h : ∀ v, Kp S (f v) μ) : Kp S (ax_let e f) μ := h e
theorem kp_wi {i j : Nat} {v : Int32} {f : ax_M → Option (α × ax_M)} (hs : S.elem i = true) (h : ∀ m, Kp S (f m) m) : Kp S (ax_let (ax_wi μ i j v) f) μ := by
  intro r μ2 e a ha
  have h1 := h _ r μ2 e a ha
  have hne : a ≠ i := fun h => ha (h ▸ List.elem_iff.mp hs)
  refine ⟨h1.1.trans ?_, h1.2⟩
  funext b
  show (if a = i ∧ b = j then v else μ.1 a b) = μ.1 a b
  rw [if_neg (fun h => hne h.1)]
theorem kp_wl {i j : Nat} {v : Int64} {f : ax_M → Option (α × ax_M)} (hs : S.elem i = true) (h : ∀ m, Kp S (f m) m) : Kp S (ax_let (ax_wl μ i j v) f) μ := by
  intro r μ2 e a ha
  have h1 := h _ r μ2 e a ha
  have hne : a ≠ i := fun h => ha (h ▸ List.elem_iff.mp hs)
  refine ⟨h1.1, h1.2.trans ?_⟩
  funext b
  show (if a = i ∧ b = j then v else μ.2 a b) = μ.2 a b
  rw [if_neg (fun h => hne h.1)]
theorem kp_wr {i n : Nat} {x v : Int32} {f : ax_M → Option (α × ax_M)} (hs : S.elem i = true) (h : ∀ m, Kp S (f m) m) : Kp S (Option.bind (ax_wr μ i n x v) f) μ := by
  unfold ax_wr
  split
  · exact kp_wi (v := v) hs h
  · exact kp_none
theorem kp_wz {i n : Nat} {x v : Int32} {f : ax_M → Option (α × ax_M)} (hs : S.elem i = true) (h : ∀ m, Kp S (f m) m) : Kp S (Option.bind (ax_wz μ i n x v) f) μ := by
  unfold ax_wz
  split
  · exact kp_wi hs h
  · exact kp_none
theorem kp_wrl {i n : Nat} {x : Int32} {v : Int64} {f : ax_M → Option (α × ax_M)} (hs : S.elem i = true) (h : ∀ m, Kp S (f m) m) : Kp S (Option.bind (ax_wrl μ i n x v) f) μ := by
  unfold ax_wrl
  split
  · exact kp_wl hs h
  · exact kp_none
theorem kp_cp {i j n0 n1 : Nat} {x y z : Int32} {f : ax_M → Option (α × ax_M)} (hs : S.elem j = true) (h : ∀ m, Kp S (f m) m) : Kp S (Option.bind (ax_cp μ i n0 x j n1 y z) f) μ := by
  unfold ax_cp
  split
  · exact kp_none
  · intro r μ2 e a ha
    have h1 := h _ r μ2 e a ha
    have hne : a ≠ j := fun h => ha (h ▸ List.elem_iff.mp hs)
    refine ⟨h1.1.trans ?_, h1.2⟩
    show (if a = j then _ else μ.1 a) = μ.1 a
    rw [if_neg hne]
theorem wp_keep {Q : α → ax_M → Prop} {t : Option (α × ax_M)} (h : Wp t Q) (hk : Kp S t μ) : Wp t (fun r m => Q r m ∧ ∀ a, a ∉ S → m.1 a = μ.1 a ∧ m.2 a = μ.2 a) := by
  obtain ⟨r, m, e, h⟩ := h
  exact ⟨r, m, e, h, hk r m e⟩
end KP
