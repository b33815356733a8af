/-! what can be undone, both sides -/
def KR (m : ax_M) (k : Nat) (ν : Nv) : Prop := (m.1 75 (68 * k)).toInt = ν 0 3 ∧ (m.1 75 (68 * k + 67)).toInt = ν 0 4 ∧ (∀ i, i < nH ν → (m.1 75 (68 * k + (1 + i))).toInt = ν 1 i ∧ (m.1 75 (68 * k + (5 + i))).toInt = ν 2 i) ∧ (∀ c, c < nC ν → (m.1 75 (68 * k + (9 + c))).toInt = ν 11 c) ∧ ∀ p, p < nP ν → (m.1 75 (68 * k + (19 + p))).toInt = ν 9 p ∧ (m.1 75 (68 * k + (43 + p))).toInt = ν 10 p
def psh (H : Nat → Nv) (c : Nat) (ν : Nv) : Nat → Nv := fun j => if c = 20 then (if j = 19 then ν else H (j + 1)) else (if j = c then ν else H j)
def pcn (c : Nat) : Nat := if c = 20 then 20 else c + 1
def rix (nxt c j : Nat) : Nat := (nxt + 20 - (c - j)) % 20
def CPI (m : ax_M) (H : Nat → Nv) (c : Nat) (b : Bool) (I : Nv) : Prop := ∃ nxt : Nat, nxt < 20 ∧ (m.1 29 2).toInt = (nxt : Int) ∧ (m.1 29 3).toInt = (c : Int) ∧ (m.1 29 4).toInt = (if b = true then 1 else 0) ∧ (∀ j, j < c → HR m 30 (59 * rix nxt c j) (H j)) ∧ (b = true → HR m 31 0 I)
def RPI (m : ax_M) (H : Nat → Nv) (c : Nat) (b : Bool) (I : Nv) : Prop := (m.1 57 30).toInt = (c : Int) ∧ (m.1 57 31).toInt = (if b = true then 1 else 0) ∧ (∀ j, j < c → KR m j (H j)) ∧ (b = true → KR m 20 I)
/-- what is kept is right -/
def HV (ν : Nv) (H : Nat → Nv) (c : Nat) (b : Bool) (I : Nv) : Prop := c ≤ 20 ∧ (∀ j, j < c → Vd (H j) ∧ St ν (H j)) ∧ (b = true → Vd I ∧ St ν I)
section PAS
variable {μ : ax_M} {ν : Nv} {H : Nat → Nv} {c : Nat} {b : Bool} {I : Nv}
theorem KR_keep {m m2 : ax_M} {k : Nat} {ν : Nv} (hv : Vd ν) (h : KR m k ν) (hk : ∀ x, x < 68 → m2.1 75 (68 * k + x) = m.1 75 (68 * k + x)) : KR m2 k ν := by
  have hn := vd_nums hv
  obtain ⟨a1, a2, a3, a4, a5⟩ := h
  have h0 := hk 0 (by omega)
  rw [Nat.add_zero] at h0
  refine ⟨by rw [h0]; exact a1, by rw [hk 67 (by omega)]; exact a2, fun i hi => ?_, fun c hc => ?_, fun p hp => ?_⟩
  · rw [hk _ (by omega), hk _ (by omega)]; exact a3 i hi
  · rw [hk _ (by omega)]; exact a4 c hc
  · rw [hk _ (by omega), hk _ (by omega)]; exact a5 p hp
theorem hv_push (hv : Vd ν) (h : HV ν H c b I) : HV ν (psh H c ν) (pcn c) b I := by
  obtain ⟨h1, h2, h3⟩ := h
  unfold HV psh pcn
  refine ⟨by split <;> omega, fun j hj => ?_, h3⟩
  by_cases e : c = 20
  · rw [if_pos e] at hj
    simp only [if_pos e]
    by_cases e2 : j = 19
    · simp only [if_pos e2]; exact ⟨hv, st_refl ν⟩
    · simp only [if_neg e2]; exact h2 (j + 1) (by omega)
  · rw [if_neg e] at hj
    simp only [if_neg e]
    by_cases e2 : j = c
    · simp only [if_pos e2]; exact ⟨hv, st_refl ν⟩
    · simp only [if_neg e2]; exact h2 j (by omega)
theorem hv_to {ν2 : Nv} (hs : St ν2 ν) (h : HV ν H c b I) : HV ν2 H c b I := ⟨h.1, fun j hj => ⟨(h.2.1 j hj).1, st_trans hs (h.2.1 j hj).2⟩, fun hb => ⟨(h.2.2 hb).1, st_trans hs (h.2.2 hb).2⟩⟩
theorem sX2_push (h : CN μ ν) (hv : Vd ν) (hp : CPI μ H c b I) (hh : HV ν H c b I) : Wp (fX2_push μ) (fun _ m => CPI m (psh H c ν) (pcn c) b I ∧ ∀ a, a ≠ 29 → a ≠ 30 → m.1 a = μ.1 a) := by
  obtain ⟨nxt, n1, n2, n3, n4, n5, n6⟩ := hp
  obtain ⟨v1, v2, v3⟩ := hh
  unfold fX2_push
  have ib : (μ.1 29 2 * 59).toInt = ((59 * nxt : Nat) : Int) := by rw [t_mul, n2, show Int32.toInt 59 = 59 from rfl]; omega
  refine wp_bd (wp_mono (sX1_writeTo h hv _ (59 * nxt) ib (by omega)) ?_)
  rintro _ m2 ⟨w1, w2, w3⟩
  have e2 : (m2.1 29 2).toInt = (nxt : Int) := by rw [w2 29 (by omega)]; exact n2
  have e2b : (m2.1 29 2 + 1).toInt = (nxt : Int) + 1 := by rw [t_add, e2, show Int32.toInt 1 = 1 from rfl]; omega
  refine wp_rm (by omega) (by decide) (fun v3' e3 => wp_let (wp_let (wp_ret ⟨?_, fun a h1 h2 => ?_⟩)))
  · rw [e2b, show Int32.toInt 20 = 20 from rfl] at e3
    have e29 : (ax_wi m2 29 2 v3').1 29 3 = μ.1 29 3 := by rw [wi_other (by omega), w2 29 (by omega)]
    rw [e29]
    have hmn : (ax_mn (μ.1 29 3 + 1) 20).toInt = ((pcn c : Nat) : Int) := by
      rw [mn_toInt, t_add, n3]
      simp only [Int32.reduceToInt]
      unfold pcn
      split <;> split <;> omega
    have row : ∀ x, (ax_wi (ax_wi m2 29 2 v3') 29 3 (ax_mn (μ.1 29 3 + 1) 20)).1 30 x = m2.1 30 x := fun x => by rw [wi_ne (by omega), wi_ne (by omega)]
    refine ⟨(nxt + 1) % 20, by omega, by rw [wi_other (by omega), wi_self, e3]; omega, by rw [wi_self]; exact hmn, ?_, fun j hj => ?_, fun hb => ?_⟩
    · rw [wi_other (by omega), wi_other (by omega), w2 29 (by omega)]; exact n4
    · have old : ∀ i, i < c → (c < 20 ∨ 0 < i) → HR (ax_wi (ax_wi m2 29 2 v3') 29 3 (ax_mn (μ.1 29 3 + 1) 20)) 30 (59 * rix nxt c i) (H i) := by
        intro i hi hc
        refine HR_keep (v2 i hi).1 (n5 i hi) (fun x h1 h2 => ?_)
        rw [row x]
        have : rix nxt c i ≠ nxt := by unfold rix; omega
        exact w3 x (by omega)
      have new : HR (ax_wi (ax_wi m2 29 2 v3') 29 3 (ax_mn (μ.1 29 3 + 1) 20)) 30 (59 * nxt) ν := HR_keep hv w1 (fun x _ _ => row x)
      unfold pcn at hj
      unfold psh pcn
      by_cases e : c = 20
      · rw [if_pos e] at hj
        simp only [if_pos e]
        by_cases e4 : j = 19
        · simp only [if_pos e4]
          have : rix ((nxt + 1) % 20) 20 j = nxt := by unfold rix; omega
          rw [this]; exact new
        · simp only [if_neg e4]
          have : rix ((nxt + 1) % 20) 20 j = rix nxt c (j + 1) := by unfold rix; omega
          rw [this]; exact old (j + 1) (by omega) (by omega)
      · rw [if_neg e] at hj
        simp only [if_neg e]
        by_cases e4 : j = c
        · simp only [if_pos e4]
          have : rix ((nxt + 1) % 20) (c + 1) j = nxt := by unfold rix; omega
          rw [this]; exact new
        · simp only [if_neg e4]
          have : rix ((nxt + 1) % 20) (c + 1) j = rix nxt c j := by unfold rix; omega
          rw [this]; exact old j (by omega) (by omega)
    · refine HR_keep (v3 hb).1 (n6 hb) (fun x _ _ => ?_)
      rw [wi_ne (by omega), wi_ne (by omega), w2 31 (by omega)]
  · rw [wi_ne h1, wi_ne h1]; exact w2 a h2
theorem sX2_pop (h : CN μ ν) (hp : CPI μ H (c + 1) b I) (hh : HV ν H (c + 1) b I) : Wp (fX2_pop μ) (fun _ m => CN m (H c) ∧ CPI m H c b I) := by
  obtain ⟨nxt, n1, n2, n3, n4, n5, n6⟩ := hp
  obtain ⟨v1, v2, v3⟩ := hh
  have k := v2 c (by omega)
  unfold fX2_pop
  have e2b : (μ.1 29 2 + 20 - 1).toInt = (nxt : Int) + 19 := by
    have : (μ.1 29 2 + 20).toInt = (nxt : Int) + 20 := by rw [t_add, n2, show Int32.toInt 20 = 20 from rfl]; omega
    rw [t_sub, this, show Int32.toInt 1 = 1 from rfl]; omega
  refine wp_rm (by omega) (by decide) (fun v1' e1 => wp_let ?_)
  rw [e2b, show Int32.toInt 20 = 20 from rfl] at e1
  have hix : rix nxt (c + 1) c = (nxt + 19) % 20 := by unfold rix; omega
  have e1 : v1'.toInt = (((nxt + 19) % 20 : Nat) : Int) := by rw [e1]; omega
  have hix20 : (nxt + 19) % 20 < 20 := by omega
  have ib : ((ax_wi μ 29 2 v1').1 29 2 * 59).toInt = ((59 * rix nxt (c + 1) c : Nat) : Int) := by
    rw [wi_self, t_mul, e1, show Int32.toInt 59 = 59 from rfl, hix]
    generalize (nxt + 19) % 20 = y at hix20
    omega
  have hr : HR (ax_wi μ 29 2 v1') 30 (59 * rix nxt (c + 1) c) (H c) := HR_keep k.1 (n5 c (by omega)) (fun x _ _ => by rw [wi_ne (by omega)])
  refine wp_bd (wp_mono (wp_keep (sX1_readFrom (CN_wi h (by omega)) k.2 k.1 _ _ ib (by rw [hix]; omega) hr) (kf_X1_readFrom _ _)) ?_)
  rintro _ m4 ⟨w1, w2⟩
  have e29 : m4.1 29 = (ax_wi μ 29 2 v1').1 29 := (w2 29 (by decide)).1
  have e30 : m4.1 30 = (ax_wi μ 29 2 v1').1 30 := (w2 30 (by decide)).1
  have e31 : m4.1 31 = (ax_wi μ 29 2 v1').1 31 := (w2 31 (by decide)).1
  refine wp_let (wp_ret ⟨CN_wi w1 (by omega), (nxt + 19) % 20, by omega, ?_, ?_, ?_, fun j hj => ?_, fun hb => ?_⟩)
  · rw [wi_other (by omega), e29, wi_self, e1]
  · rw [wi_self, e29, wi_other (by omega), t_sub, n3, show Int32.toInt 1 = 1 from rfl]; omega
  · rw [wi_other (by omega), e29, wi_other (by omega)]; exact n4
  · have : rix ((nxt + 19) % 20) c j = rix nxt (c + 1) j := by unfold rix; omega
    rw [this]
    refine HR_keep (v2 j (by omega)).1 (n5 j (by omega)) (fun x _ _ => ?_)
    rw [wi_ne (by omega), e30, wi_ne (by omega)]
  · refine HR_keep (v3 hb).1 (n6 hb) (fun x _ _ => ?_)
    rw [wi_ne (by omega), e31, wi_ne (by omega)]
/-! the reference -/
theorem i68 {p l : Int32} {k i : Nat} (hp : p.toInt = (k : Int)) (hk : k ≤ 20) (hl : l.toInt = (i : Int)) (hi : i < 68) : (68 * p + l).toInt = ((68 * k + i : Nat) : Int) := by
  have : (68 * p).toInt = 68 * (k : Int) := by rw [t_mul, hp, show Int32.toInt 68 = 68 from rfl]; omega
  rw [t_add, this, hl]
  omega
theorem sX9_lays (p : Int32) (k : Nat) (hp : p.toInt = (k : Int)) (hk : k ≤ 20) : Wp (fX9_lays p μ) (fun _ m => (∀ a, a ≠ 75 → m.1 a = μ.1 a) ∧ (∀ x, x < 68 → m.1 75 (68 * k + x) = μ.1 74 x) ∧ ∀ x, (x < 68 * k ∨ 68 * k + 68 ≤ x) → m.1 75 x = μ.1 75 x) := by
  have z : Int32.toInt 68 = 68 := rfl
  unfold fX9_lays
  refine wp_lp1 (fun j (l : Int32) m => ∃ i : Nat, l.toInt = (i : Int) ∧ i ≤ 68 ∧ j = 68 - i ∧ (∀ a, a ≠ 75 → m.1 a = μ.1 a) ∧ (∀ x, x < i → m.1 75 (68 * k + x) = μ.1 74 x) ∧ ∀ x, (x < 68 * k ∨ 68 * k + 68 ≤ x) → m.1 75 x = μ.1 75 x) ax_FU ?_ 68 (by decide) ⟨0, rfl, by omega, rfl, fun _ _ => rfl, fun x hx => by omega, fun _ _ => rfl⟩
  rintro j rc hrc l m ⟨i, hl, hi, hj, k1, k2, k3⟩
  unfold fX9_lays_B2
  refine wp_if (fun c => wp_ret ⟨k1, fun x hx => k2 x ?_, k3⟩) (fun c => ?_)
  · rw [t_le, z, hl] at c; omega
  · rw [t_le, z, hl] at c
    have hi2 : i < 68 := by omega
    refine wp_rd i hl hi2 (wp_wr (68 * k + i) (i68 hp hk hl hi2) (by omega) (hrc (68 - (i + 1)) _ _ (by omega) ⟨i + 1, inc hl (by omega), by omega, rfl, fun a ha => by rw [wi_ne ha]; exact k1 a ha, fun x hx => ?_, fun x hx => by rw [wi_other (by omega)]; exact k3 x hx⟩))
    by_cases e : x = i
    · rw [e, wi_self, k1 74 (by omega)]
    · rw [wi_other (by omega)]; exact k2 x (by omega)
theorem sX9_laysBack (p : Int32) (k : Nat) (hp : p.toInt = (k : Int)) (hk : k ≤ 20) : Wp (fX9_laysBack p μ) (fun _ m => (∀ a, a ≠ 74 → m.1 a = μ.1 a) ∧ ∀ x, x < 68 → m.1 74 x = μ.1 75 (68 * k + x)) := by
  have z : Int32.toInt 68 = 68 := rfl
  unfold fX9_laysBack
  refine wp_lp1 (fun j (l : Int32) m => ∃ i : Nat, l.toInt = (i : Int) ∧ i ≤ 68 ∧ j = 68 - i ∧ (∀ a, a ≠ 74 → m.1 a = μ.1 a) ∧ ∀ x, x < i → m.1 74 x = μ.1 75 (68 * k + x)) ax_FU ?_ 68 (by decide) ⟨0, rfl, by omega, rfl, fun _ _ => rfl, fun x hx => by omega⟩
  rintro j rc hrc l m ⟨i, hl, hi, hj, k1, k2⟩
  unfold fX9_laysBack_B2
  refine wp_if (fun c => wp_ret ⟨k1, fun x hx => k2 x ?_⟩) (fun c => ?_)
  · rw [t_le, z, hl] at c; omega
  · rw [t_le, z, hl] at c
    have hi2 : i < 68 := by omega
    refine wp_rd (68 * k + i) (i68 hp hk hl hi2) (by omega) (wp_wr i hl hi2 (hrc (68 - (i + 1)) _ _ (by omega) ⟨i + 1, inc hl (by omega), by omega, rfl, fun a ha => by rw [wi_ne ha]; exact k1 a ha, fun x hx => ?_⟩))
    by_cases e : x = i
    · rw [e, wi_self, k1 75 (by omega)]
    · rw [wi_other e]; exact k2 x (by omega)
theorem KR_of (h : RN μ ν) (hv : Vd ν) {m : ax_M} {k : Nat} (hk : ∀ x, x < 68 → m.1 75 (68 * k + x) = μ.1 74 x) : KR m k ν := by
  have hn := vd_nums hv
  have h0 := hk 0 (by omega)
  rw [Nat.add_zero] at h0
  refine ⟨by rw [h0]; exact h.1.2.2.2.1, by rw [hk 67 (by omega)]; exact h.1.2.2.2.2.1, fun i hi => ?_, fun c hc => ?_, fun p hp => ?_⟩
  · rw [hk _ (by omega), hk _ (by omega)]; exact (h.2.1 i hi).2
  · rw [hk _ (by omega)]; exact (h.2.2.1 c hc).2.2.2.2.2
  · rw [hk _ (by omega), hk _ (by omega)]; exact (h.2.2.2 p hp).2.2
theorem RN_of {ν2 : Nv} (h : RN μ ν) (hs : St ν ν2) (hv : Vd ν2) {k : Nat} (hr : KR μ k ν2) {m : ax_M} (h1 : ∀ a, a ≠ 74 → m.1 a = μ.1 a) (h2 : ∀ x, x < 68 → m.1 74 x = μ.1 75 (68 * k + x)) : RN m ν2 := by
  have hn := vd_nums hv
  obtain ⟨n1, n2, n3⟩ := st_nums hs
  obtain ⟨⟨a1, a2, a3, a4, a5, a6⟩, hb, hc, hd⟩ := h
  obtain ⟨r1, r2, r3, r4, r5⟩ := hr
  have z0 := h2 0 (by omega)
  rw [Nat.add_zero] at z0
  refine ⟨⟨?_, ?_, ?_, ?_, ?_, ?_⟩, fun i hi => ?_, fun c hc2 => ?_, fun p hp => ?_⟩
  · rw [h1 59 (by omega), ← hs.1 0 (by omega) (by omega)]; exact a1
  · rw [h1 59 (by omega), ← hs.1 1 (by omega) (by omega)]; exact a2
  · rw [h1 59 (by omega), ← hs.1 2 (by omega) (by omega)]; exact a3
  · rw [z0]; exact r1
  · rw [h2 67 (by omega)]; exact r2
  · rw [h1 59 (by omega), ← hs.1 5 (by omega) (by omega)]; exact a6
  · rw [h1 61 (by omega), h2 _ (by omega), h2 _ (by omega), ← hs.2 12 i (by omega) (by omega) (by omega) (by omega) (by omega) (by omega)]
    exact ⟨(hb i (by omega)).1, r3 i hi⟩
  · rw [h1 64 (by omega), h1 65 (by omega), h1 66 (by omega), h1 67 (by omega), h1 68 (by omega), h2 _ (by omega), ← hs.2 13 c (by omega) (by omega) (by omega) (by omega) (by omega) (by omega), ← hs.2 3 c (by omega) (by omega) (by omega) (by omega) (by omega) (by omega), ← hs.2 4 c (by omega) (by omega) (by omega) (by omega) (by omega) (by omega), ← hs.2 5 c (by omega) (by omega) (by omega) (by omega) (by omega) (by omega), ← hs.2 6 c (by omega) (by omega) (by omega) (by omega) (by omega) (by omega)]
    have := hc c (by omega)
    exact ⟨this.1, this.2.1, this.2.2.1, this.2.2.2.1, this.2.2.2.2.1, r4 c hc2⟩
  · rw [h1 70 (by omega), h1 71 (by omega), h2 _ (by omega), h2 _ (by omega), ← hs.2 7 p (by omega) (by omega) (by omega) (by omega) (by omega) (by omega), ← hs.2 8 p (by omega) (by omega) (by omega) (by omega) (by omega) (by omega)]
    have := hd p (by omega)
    exact ⟨this.1, this.2.1, r5 p hp⟩
theorem sX9_remembers (h : RN μ ν) (hv : Vd ν) (hp : RPI μ H c b I) (hh : HV ν H c b I) : Wp (fX9_remembers μ) (fun _ m => RPI m (psh H c ν) (pcn c) b I ∧ (∀ a, a ≠ 57 → a ≠ 75 → m.1 a = μ.1 a) ∧ ∀ j, j ≠ 30 → m.1 57 j = μ.1 57 j) := by
  obtain ⟨n1, n2, n3, n4⟩ := hp
  obtain ⟨v1, v2, v3⟩ := hh
  -- the laying, from a shifted state
  have fin : ∀ (m : ax_M) (d : Nat) (G : Nat → Nv), d < 20 → (m.1 57 30).toInt = (d : Int) → (∀ a, a ≠ 57 → a ≠ 75 → m.1 a = μ.1 a) → (∀ j, j ≠ 30 → m.1 57 j = μ.1 57 j) → (∀ j, j < d → Vd (G j) ∧ KR m j (G j)) → (b = true → KR m 20 I) → (∀ j, j < d + 1 → psh H c ν j = if j = d then ν else G j) → pcn c = d + 1 → Wp (fX9_remembers_K49 m) (fun _ m => RPI m (psh H c ν) (pcn c) b I ∧ (∀ a, a ≠ 57 → a ≠ 75 → m.1 a = μ.1 a) ∧ ∀ j, j ≠ 30 → m.1 57 j = μ.1 57 j) := by
    intro m d G hd h30 hk hj hG hI hps hpc
    unfold fX9_remembers_K49
    have hm : RN m ν := RN_keep h (fun a h1 h2 => hk a (by omega) (by omega))
    refine wp_bd (wp_mono (sX9_lays _ d h30 (by omega)) ?_)
    rintro _ m2 ⟨w1, w2, w3⟩
    have e30 : (m2.1 57 30).toInt = (d : Int) := by rw [w1 57 (by omega)]; exact h30
    refine wp_let (wp_ret ⟨⟨?_, ?_, fun j hj2 => ?_, fun hb => ?_⟩, fun a h1 h2 => ?_, fun j hj2 => ?_⟩)
    · rw [wi_self, inc e30 (by omega), hpc]
    · rw [wi_other (by omega), w1 57 (by omega), hj 31 (by omega)]; exact n2
    · rw [hpc] at hj2
      rw [hps j hj2]
      by_cases e : j = d
      · rw [if_pos e, e]
        exact KR_keep hv (KR_of hm hv w2) (fun x _ => by rw [wi_ne (by omega)])
      · rw [if_neg e]
        have g := hG j (by omega)
        refine KR_keep g.1 g.2 (fun x hx => ?_)
        rw [wi_ne (by omega)]
        exact w3 _ (by omega)
    · refine KR_keep (v3 hb).1 (hI hb) (fun x hx => ?_)
      rw [wi_ne (by omega)]
      exact w3 _ (by omega)
    · rw [wi_ne h1, w1 a h2]; exact hk a h1 h2
    · rw [wi_other hj2, w1 57 (by omega)]; exact hj j hj2
  unfold fX9_remembers
  refine wp_if (fun c1 => ?_) (fun c1 => ?_)
  · rw [t_eq, n1] at c1
    have c1 : (c : Int) = 20 := c1
    have ec : c = 20 := by omega
    refine wp_lp1 (fun j (l : Int32) m => ∃ i : Nat, l.toInt = (i : Int) ∧ i ≤ 1292 ∧ j = 1292 - i ∧ (∀ a, a ≠ 75 → m.1 a = μ.1 a) ∧ (∀ x, x < i → m.1 75 x = μ.1 75 (68 + x)) ∧ ∀ x, i ≤ x → m.1 75 x = μ.1 75 x) ax_FU ?_ 1292 (by decide) ⟨0, rfl, by omega, rfl, fun _ _ => rfl, fun x hx => by omega, fun _ _ => rfl⟩
    rintro j rc hrc l m ⟨i, hl, hi, hj, k1, k2, k3⟩
    unfold fX9_remembers_B11
    refine wp_if (fun c2 => wp_let ?_) (fun c2 => ?_)
    · rw [t_le, hl, show Int32.toInt 1292 = 1292 from rfl] at c2
      have hi2 : i = 1292 := by omega
      subst hi2
      have e30 : (m.1 57 30).toInt = 20 := by rw [k1 57 (by omega)]; omega
      refine fin _ 19 (fun j => H (j + 1)) (by omega) (by rw [wi_self, t_sub, e30]; rfl) (fun a h1 h2 => by rw [wi_ne h1]; exact k1 a h2) (fun j hj => by rw [wi_other hj, k1 57 (by omega)]) (fun j hj => ⟨(v2 (j + 1) (by omega)).1, ?_⟩) (fun hb => ?_) (fun j hj => ?_) (by unfold pcn; rw [if_pos ec])
      · have g := n3 (j + 1) (by omega)
        have gv := (v2 (j + 1) (by omega)).1
        have hsh : ∀ x, x < 68 → (ax_wi m 57 30 (m.1 57 30 - 1)).1 75 (68 * j + x) = μ.1 75 (68 * (j + 1) + x) := fun x hx => by
          rw [wi_ne (by omega), k2 _ (by omega), show 68 + (68 * j + x) = 68 * (j + 1) + x by omega]
        have hnn := vd_nums gv
        obtain ⟨g1, g2, g3, g4, g5⟩ := g
        have s0 := hsh 0 (by omega)
        rw [Nat.add_zero, Nat.add_zero] at s0
        refine ⟨by rw [s0]; exact g1, by rw [hsh 67 (by omega)]; exact g2, fun i hi => ?_, fun c hc => ?_, fun p hp => ?_⟩
        · rw [hsh _ (by omega), hsh _ (by omega)]; exact g3 i hi
        · rw [hsh _ (by omega)]; exact g4 c hc
        · rw [hsh _ (by omega), hsh _ (by omega)]; exact g5 p hp
      · refine KR_keep (v3 hb).1 (n4 hb) (fun x hx => ?_)
        rw [wi_ne (by omega), k3 _ (by omega)]
      · unfold psh
        rw [if_pos ec]
    · rw [t_le, hl, show Int32.toInt 1292 = 1292 from rfl] at c2
      have hi2 : i < 1292 := by omega
      have ix : ((68 : Int32) + l).toInt = ((68 + i : Nat) : Int) := by rw [t_add, hl, show Int32.toInt 68 = 68 from rfl]; omega
      refine wp_rd (68 + i) ix (by omega) (wp_wr i hl (by omega) (hrc (1292 - (i + 1)) _ _ (by omega) ⟨i + 1, inc hl (by omega), by omega, rfl, fun a ha => by rw [wi_ne ha]; exact k1 a ha, fun x hx => ?_, fun x hx => by rw [wi_other (by omega)]; exact k3 x (by omega)⟩))
      by_cases e : x = i
      · rw [e, wi_self, k3 _ (by omega)]
      · rw [wi_other e]; exact k2 x (by omega)
  · rw [t_eq, n1] at c1
    have c1 : ¬ (c : Int) = 20 := c1
    have ec : c ≠ 20 := by omega
    exact fin μ c H (by omega) n1 (fun _ _ _ => rfl) (fun _ _ => rfl) (fun j hj => ⟨(v2 j hj).1, n3 j hj⟩) n4 (fun j hj => by unfold psh; rw [if_neg ec]) (by unfold pcn; rw [if_neg ec])
end PAS
