/-- a method, from its entry -/
theorem ax_startF {α : Type} {M : ax_Mi} {d : Nat} {J : α → Option Value} {vs : List Value} {μ : ax_M} {t : Option (α × ax_M)} (n : Nat) {lc : List (Option Value)} (hy : plainFor M.1 = true) (hlc : ax_ent vs ++ List.replicate n none = lc) (hlen : (lg_sl vs).length ≤ M.2.2.1)
    (body : ∀ (x : ax_X) (G : ax_G), ax_ok G → ax_Rf M d x (ax_Z J x G) G 0 0 0 lc [] μ t) : ax_Ok M d J vs μ t := by
  intro l G hG r μ2 ht
  refine va_MetF (cc := M.2.1) (maxL := M.2.2.1) (ret := M.2.2.2) hy rfl ?_
  intro p e s m args below meth c s₁ B hml hv
  obtain ⟨rfl, hR, hK, hb⟩ := hv
  have hts := atoms_spec (ws := ax_mw M) B.pre
  have hl := lv_entry (vs.map (ax_sh G)) (n := M.2.2.1) (by rw [ax_sl_len]; exact hlen)
  rw [lg_entry_eq]
  refine body (p, l, e, _, s, m, _, below, meth, c) G hG r μ2 ht ⟨B.exec, B.bytes, hml, findClass_of_methodNamed B.named, fun w hw => hts w (List.mem_cons_of_mem _ hw), B.returns, B.notSynchronized, hK, Nat.le_refl _, Nat.le_refl _, hb, (name_of_methodNamed B.named B.method).1⟩ (Nat.zero_le _) (Nat.zero_le _) s.heap [] _ hR va_S.rf ⟨hl.1, hl.2.1, fun i v hv => ?_⟩
  subst hlc
  exact hl.2.2 (i, ax_sh G v) (by simpa using ax_ent_mem G vs 0 i v n hv)
