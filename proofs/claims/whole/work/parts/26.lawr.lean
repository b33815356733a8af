/-! the law's own rows -/
abbrev mL_law : ax_Mi := (yL_law, cL_law, 7, some .boolean)
def ax_sc (xs : Nat → Int32) (L : Nat) (i : Int32) : Option Int32 := if ax_in i L = true then some (xs i.toNatClampNeg) else none
def ax_Sc (G : ax_G) (x : ax_X) (L : Nat) (xs : Nat → Int32) : Prop := va_X (ax_gx G 1000001) L xs (ax_xs x) (ax_xs x).heap ∧ ax_gx G 1000001 < (ax_xs x).heap.size ∧ ¬ ax_A G (ax_gx G 1000001)
section AXLW
variable {β : Type} {M : ax_Mi} {d : Nat} {x : ax_X} {Z : β → ax_M → State → Prop} {G : ax_G} {n1 n2 pc n : Nat} {lc : List (Option Value)} {st : List Value} {μ : ax_M} {t : Option (β × ax_M)}
theorem rf_scl {L : Nat} {xs : Nat → Int32} (hX : ax_Sc G x L xs) (hd : decode M.2.1 pc = .ok (.arraylength, 1)) (hn : pc + 1 = n) (k : ax_Rf M d x Z G n1 n2 n lc (.int (Int32.ofNat L) :: st) μ t) : ax_Rf M d x Z G n1 n2 pc lc (.ref 1000001 :: st) μ t := by
  subst hn
  intro r μ2 ht hC h1 h2 H locs ls hR hS hl
  have s1 : ax_sh G (.ref 1000001) = .ref (ax_gx G 1000001) := rfl
  rw [List.map_cons, s1]
  exact va_slen hC.1 hC.2.1 hX.1 hX.2.1 hX.2.2 hS hd (k r μ2 ht hC h1 h2 H locs ls hR hS hl)
theorem rf_scd {L : Nat} {xs : Nat → Int32} {i : Int32} {f : Int32 → Option (β × ax_M)} (hX : ax_Sc G x L xs) (hd : decode M.2.1 pc = .ok (.iaload, 1)) (hn : pc + 1 = n) (k : ∀ v, ax_Rf M d x Z G n1 n2 n lc (.int v :: st) μ (f v)) : ax_Rf M d x Z G n1 n2 pc lc (.int i :: .ref 1000001 :: st) μ (Option.bind (ax_sc xs L i) f) := by
  subst hn
  intro r μ2 ht hC h1 h2 H locs ls hR hS hl
  by_cases hz : ax_in i L = true
  · simp only [ax_sc, if_pos hz, Option.bind_some] at ht
    have s1 : ax_sh G (.ref 1000001) = .ref (ax_gx G 1000001) := rfl
    rw [List.map_cons, List.map_cons, s1]
    exact va_sld hC.1 hC.2.1 hX.1 hX.2.1 hX.2.2 hS (ax_in_vp hz) hd (k _ r μ2 ht hC h1 h2 H locs ls hR hS hl)
  · simp [ax_sc, hz] at ht
theorem rf_widen {k1 k2 : Nat} (h1 : n1 ≤ k1) (h2 : n2 ≤ k2) (h3 : k1 ≤ (ax_xR x).cells) (h4 : k2 ≤ (ax_xR x).slots) (k : ax_Rf M d x Z G k1 k2 pc lc st μ t) : ax_Rf M d x Z G n1 n2 pc lc st μ t := by
  intro r μ2 ht hC _ _ H locs ls hR hS hl
  exact W.widen h1 h2 (k r μ2 ht hC h3 h4 H locs ls hR hS hl)
end AXLW
theorem lSL_65 : Cond.methodLink RL 65 yL_cell ∈ ax_tbl ∧ Cond.static yL_cell ∈ ax_tbl ∧ Cond.initialized RL ∈ ax_tbl ∧ Cond.codeWith yL_cell cL_cell 5 (some .int) ax_hs ∈ ax_tbl := ⟨ax_tbl_of 1081 (by decide +kernel) rfl, ax_tbl_of 1082 (by decide +kernel) rfl, ax_tbl_of 0 (by decide +kernel) rfl, ax_tbl_of 1083 (by decide +kernel) rfl⟩
theorem ax_mwW_good : GoodIn ax_tbl (va_wsS RL 65 yL_cell ax_mwW) := by
  intro w hw
  unfold va_wsS ax_mwW at hw
  simp only [List.mem_append, List.mem_cons, List.not_mem_nil, or_false] at hw
  rcases hw with (rfl | rfl | rfl) | rfl | hw
  · exact ax_goodw lSL_65.1
  · exact ax_goodw lSL_65.2.1
  · exact ax_goodw lSL_65.2.2.1
  · exact ax_goodw lSL_65.2.2.2
  · exact ax_goodw hw
theorem rf_lc {β : Type} {d : Nat} {x : ax_X} {Z : β → ax_M → State → Prop} {G : ax_G} {n1 n2 pc n : Nat} {lc : List (Option Value)} {st : List Value} {μ : ax_M} {p1 p2 : Int32} {f : Int32 → ax_M → Option (β × ax_M)} (hG : ax_ok G) (hk : 84 < ax_gk G) (hst : x.2.1.stackTraces = false) (hE : ax_Xe G (ax_xs x)) (hdd : 10 ≤ d) (hcat : (st.map fun v => v.category).sum ≤ 8) (hc : n1 + 1 ≤ (ax_xR x).cells) (hs : n2 + 6 ≤ (ax_xR x).slots) (hd : decode cL_law pc = .ok (.invokestatic 65, 3)) (hn : pc + 3 = n)
    (k : ∀ v μ3, ax_Rf mL_law d x Z G (n1 + 1) (n2 + 6) n lc (.int v :: st) μ3 (f v μ3)) : ax_Rf mL_law d x Z G n1 n2 pc lc (.ref 84 :: .int p2 :: .int p1 :: .ref 0 :: st) μ (ax_bd (fL_cell p1 p2 μ) f) := by
  subst hn
  intro r μ2 ht hC h1 h2 H locs ls hR hS hl
  cases hτ : fL_cell p1 p2 μ with
  | none => rw [hτ] at ht; cases ht
  | some y =>
    obtain ⟨v, μ3⟩ := y
    rw [hτ] at ht
    have r1 := hC.2.2.2.2.2.2.2.2.1
    have r2 := hC.2.2.2.2.2.2.2.2.2.1
    have hcw := vx_cwSW (R := ax_xR x) (s := ax_xs x) (args := ax_xa x) (own := RL) (index := 65) (y := yL_cell) (bytes := cL_cell) (maxL := 5) (ret := some .int) (hh := ax_hs) (ws := ax_mwW) (rm := ax_room9) (mc := 1) (ms := 6) 4 hC.2.2.2.2.1 ax_mwW_good rfl rfl rfl (by decide +kernel) ⟨by show 9 + 1 ≤ _; omega, by show 8 + (5 + 11) + 576 ≤ _; omega⟩
    have s0 : ax_sh G (.ref 0) = .ref (ax_gb G + 0) := ax_sh_ref2 (by decide)
    have s84 : ax_sh G (.ref 84) = .ref (ax_gb G + 84) := ax_sh_ref2 (by decide)
    have e4 : ([.ref 0, .int p1, .int p2, .ref 84] : List Value).map (ax_sh G) = [.ref (ax_gb G + 0), .int p1, .int p2, .ref (ax_gb G + 84)] := by simp only [List.map_cons, List.map_nil, s0, s84]; rfl
    have e5 : (.ref 84 :: .int p2 :: .int p1 :: .ref 0 :: st : List Value).map (ax_sh G) = ([.ref (ax_gb G + 0), .int p1, .int p2, .ref (ax_gb G + 84)] : List Value).reverse ++ st.map (ax_sh G) := by simp only [List.map_cons, s0, s84]; rfl
    have hrun := vx_runSW (p := x.1) (l := x.2.1) (e := x.2.2.1) (m := ax_xm x) (below := ax_xb x) (meth := ax_xh x) (c := ax_xc x) (H := H) (locs := locs) (cells := n1) (slots := n2) (As := [.ref (ax_gb G + 0), .int p1, .int p2, .ref (ax_gb G + 84)]) (rest := st.map (ax_sh G)) (g := F0 (ax_xm x) pc ls ((.ref 84 :: .int p2 :: .int p1 :: .ref 0 :: st : List Value).map (ax_sh G))) ⟨hC.1, hC.2.1, hC.2.2.1, hC.2.2.2.1, hC.2.2.2.2.1⟩ (okL_cell hst hG hk p1 p2 μ v μ3 hτ) hcw
      ⟨ax_blindE G μ _, fun U hU hW => ⟨by rw [e4], ax_pre (M2 := mL_cell) hC hR hS U hU hW, ax_Xe_moved hW (fun a g1 g2 => by rw [hU]; exact hS.2.1 a g1 g2) hE⟩⟩ rfl rfl hl.1 e5 (lv_room (by rw [ax_catsum]; exact hcat)) hd ⟨hc, hs⟩
    intro T hT X
    obtain ⟨v2, st₀, t, T', L, h0, X', hL, e1, e2, ⟨hv, hb, hz, hk⟩, stp⟩ := hrun T hT X
    cases hv
    rw [h0] at hz hk
    obtain ⟨t2, a1, b1⟩ := k v μ3 r μ2 ht hC hc hs T'.heap (locs ++ L) ls (by rw [e1]; exact hb)
      ⟨Nat.le_trans hS.1 (by rw [e1]; exact hz), fun q h1 h2 => by rw [e1, hk q (Nat.lt_of_lt_of_le h1 hS.1) h2]; exact hS.2.1 q h1 h2, fun q hq => by
        rcases List.mem_append.mp hq with h | h
        · exact hS.2.2 q h
        · exact hL q h⟩ hl T' rfl X'
    exact ⟨t2, stp t2 a1, b1⟩
theorem lVL_21 : ax_lV RL 21 mX8_feed := ⟨ax_tbl_of 415 (by decide +kernel) rfl, ax_tbl_of 416 (by decide +kernel) rfl, ax_tbl_of 417 (by decide +kernel) rfl⟩
theorem lVL_25 : ax_lV RL 25 mX9_feed := ⟨ax_tbl_of 1359 (by decide +kernel) rfl, ax_tbl_of 1360 (by decide +kernel) rfl, ax_tbl_of 1361 (by decide +kernel) rfl⟩
theorem lVL_26 : ax_lV RL 26 mX8_text := ⟨ax_tbl_of 423 (by decide +kernel) rfl, ax_tbl_of 424 (by decide +kernel) rfl, ax_tbl_of 425 (by decide +kernel) rfl⟩
theorem lVL_30 : ax_lV RL 30 mX9_text := ⟨ax_tbl_of 1363 (by decide +kernel) rfl, ax_tbl_of 1364 (by decide +kernel) rfl, ax_tbl_of 1365 (by decide +kernel) rfl⟩
theorem lVL_31 : ax_lV RL 31 mX8_fault := ⟨ax_tbl_of 538 (by decide +kernel) rfl, ax_tbl_of 539 (by decide +kernel) rfl, ax_tbl_of 540 (by decide +kernel) rfl⟩
theorem lVL_34 : ax_lV RL 34 mX9_fault := ⟨ax_tbl_of 1490 (by decide +kernel) rfl, ax_tbl_of 1491 (by decide +kernel) rfl, ax_tbl_of 1492 (by decide +kernel) rfl⟩
theorem lVL_35 : ax_lV RL 35 mX8_named := ⟨ax_tbl_of 542 (by decide +kernel) rfl, ax_tbl_of 543 (by decide +kernel) rfl, ax_tbl_of 544 (by decide +kernel) rfl⟩
theorem lVL_38 : ax_lV RL 38 mX9_named := ⟨ax_tbl_of 1494 (by decide +kernel) rfl, ax_tbl_of 1495 (by decide +kernel) rfl, ax_tbl_of 1496 (by decide +kernel) rfl⟩
theorem lVL_39 : ax_lV RL 39 mX8_period := ⟨ax_tbl_of 547 (by decide +kernel) rfl, ax_tbl_of 548 (by decide +kernel) rfl, ax_tbl_of 549 (by decide +kernel) rfl⟩
theorem lVL_42 : ax_lV RL 42 mX9_period := ⟨ax_tbl_of 1518 (by decide +kernel) rfl, ax_tbl_of 1519 (by decide +kernel) rfl, ax_tbl_of 1520 (by decide +kernel) rfl⟩
theorem lVL_43 : ax_lV RL 43 mX8_phase := ⟨ax_tbl_of 564 (by decide +kernel) rfl, ax_tbl_of 565 (by decide +kernel) rfl, ax_tbl_of 566 (by decide +kernel) rfl⟩
theorem lVL_47 : ax_lV RL 47 mX9_phase := ⟨ax_tbl_of 1550 (by decide +kernel) rfl, ax_tbl_of 1551 (by decide +kernel) rfl, ax_tbl_of 1552 (by decide +kernel) rfl⟩
theorem lVL_48 : ax_lV RL 48 mX8_delay := ⟨ax_tbl_of 572 (by decide +kernel) rfl, ax_tbl_of 573 (by decide +kernel) rfl, ax_tbl_of 574 (by decide +kernel) rfl⟩
theorem lVL_51 : ax_lV RL 51 mX9_delay := ⟨ax_tbl_of 1558 (by decide +kernel) rfl, ax_tbl_of 1559 (by decide +kernel) rfl, ax_tbl_of 1560 (by decide +kernel) rfl⟩
theorem lVL_52 : ax_lV RL 52 mX8_flop := ⟨ax_tbl_of 580 (by decide +kernel) rfl, ax_tbl_of 581 (by decide +kernel) rfl, ax_tbl_of 582 (by decide +kernel) rfl⟩
theorem lVL_55 : ax_lV RL 55 mX9_flop := ⟨ax_tbl_of 1566 (by decide +kernel) rfl, ax_tbl_of 1567 (by decide +kernel) rfl, ax_tbl_of 1568 (by decide +kernel) rfl⟩
theorem lVL_56 : ax_lV RL 56 mX8_skew := ⟨ax_tbl_of 592 (by decide +kernel) rfl, ax_tbl_of 593 (by decide +kernel) rfl, ax_tbl_of 594 (by decide +kernel) rfl⟩
theorem lVL_59 : ax_lV RL 59 mX9_skew := ⟨ax_tbl_of 1526 (by decide +kernel) rfl, ax_tbl_of 1527 (by decide +kernel) rfl, ax_tbl_of 1528 (by decide +kernel) rfl⟩
theorem lVL_60 : ax_lV RL 60 mX8_move := ⟨ax_tbl_of 596 (by decide +kernel) rfl, ax_tbl_of 597 (by decide +kernel) rfl, ax_tbl_of 598 (by decide +kernel) rfl⟩
theorem lVL_64 : ax_lV RL 64 mX9_move := ⟨ax_tbl_of 1530 (by decide +kernel) rfl, ax_tbl_of 1531 (by decide +kernel) rfl, ax_tbl_of 1532 (by decide +kernel) rfl⟩
theorem lVL_70 : ax_lV RL 70 mX9_cell := ⟨ax_tbl_of 1570 (by decide +kernel) rfl, ax_tbl_of 1571 (by decide +kernel) rfl, ax_tbl_of 1572 (by decide +kernel) rfl⟩
theorem lVL_71 : ax_lV RL 71 mX9_thrown := ⟨ax_tbl_of 1355 (by decide +kernel) rfl, ax_tbl_of 1356 (by decide +kernel) rfl, ax_tbl_of 1357 (by decide +kernel) rfl⟩
theorem lVL_75 : ax_lV RL 75 mX8_path := ⟨ax_tbl_of 616 (by decide +kernel) rfl, ax_tbl_of 617 (by decide +kernel) rfl, ax_tbl_of 618 (by decide +kernel) rfl⟩
theorem lVL_78 : ax_lV RL 78 mX9_path := ⟨ax_tbl_of 1578 (by decide +kernel) rfl, ax_tbl_of 1579 (by decide +kernel) rfl, ax_tbl_of 1580 (by decide +kernel) rfl⟩
theorem lVL_79 : ax_lV RL 79 mX8_opens := ⟨ax_tbl_of 624 (by decide +kernel) rfl, ax_tbl_of 625 (by decide +kernel) rfl, ax_tbl_of 626 (by decide +kernel) rfl⟩
theorem lVL_82 : ax_lV RL 82 mX9_opens := ⟨ax_tbl_of 1586 (by decide +kernel) rfl, ax_tbl_of 1587 (by decide +kernel) rfl, ax_tbl_of 1588 (by decide +kernel) rfl⟩
theorem lVL_83 : ax_lV RL 83 mX8_leaves := ⟨ax_tbl_of 628 (by decide +kernel) rfl, ax_tbl_of 629 (by decide +kernel) rfl, ax_tbl_of 630 (by decide +kernel) rfl⟩
theorem lVL_87 : ax_lV RL 87 mX9_leaves := ⟨ax_tbl_of 1590 (by decide +kernel) rfl, ax_tbl_of 1591 (by decide +kernel) rfl, ax_tbl_of 1592 (by decide +kernel) rfl⟩
theorem lVL_88 : ax_lV RL 88 mX8_comes := ⟨ax_tbl_of 665 (by decide +kernel) rfl, ax_tbl_of 666 (by decide +kernel) rfl, ax_tbl_of 667 (by decide +kernel) rfl⟩
theorem lVL_91 : ax_lV RL 91 mX9_comes := ⟨ax_tbl_of 1630 (by decide +kernel) rfl, ax_tbl_of 1631 (by decide +kernel) rfl, ax_tbl_of 1632 (by decide +kernel) rfl⟩
theorem lVL_92 : ax_lV RL 92 mX8_room := ⟨ax_tbl_of 670 (by decide +kernel) rfl, ax_tbl_of 671 (by decide +kernel) rfl, ax_tbl_of 672 (by decide +kernel) rfl⟩
theorem lVL_95 : ax_lV RL 95 mX9_room := ⟨ax_tbl_of 1635 (by decide +kernel) rfl, ax_tbl_of 1636 (by decide +kernel) rfl, ax_tbl_of 1637 (by decide +kernel) rfl⟩
theorem lVL_96 : ax_lV RL 96 mX8_from := ⟨ax_tbl_of 686 (by decide +kernel) rfl, ax_tbl_of 687 (by decide +kernel) rfl, ax_tbl_of 688 (by decide +kernel) rfl⟩
theorem lVL_99 : ax_lV RL 99 mX9_from := ⟨ax_tbl_of 1643 (by decide +kernel) rfl, ax_tbl_of 1644 (by decide +kernel) rfl, ax_tbl_of 1645 (by decide +kernel) rfl⟩
theorem lVL_100 : ax_lV RL 100 mX8_chain := ⟨ax_tbl_of 698 (by decide +kernel) rfl, ax_tbl_of 699 (by decide +kernel) rfl, ax_tbl_of 700 (by decide +kernel) rfl⟩
theorem lVL_103 : ax_lV RL 103 mX9_chain := ⟨ax_tbl_of 1651 (by decide +kernel) rfl, ax_tbl_of 1652 (by decide +kernel) rfl, ax_tbl_of 1653 (by decide +kernel) rfl⟩
theorem lVL_104 : ax_lV RL 104 mX8_which := ⟨ax_tbl_of 707 (by decide +kernel) rfl, ax_tbl_of 708 (by decide +kernel) rfl, ax_tbl_of 709 (by decide +kernel) rfl⟩
theorem lVL_107 : ax_lV RL 107 mX9_which := ⟨ax_tbl_of 1659 (by decide +kernel) rfl, ax_tbl_of 1660 (by decide +kernel) rfl, ax_tbl_of 1661 (by decide +kernel) rfl⟩
theorem lVL_108 : ax_lV RL 108 mX8_good := ⟨ax_tbl_of 720 (by decide +kernel) rfl, ax_tbl_of 721 (by decide +kernel) rfl, ax_tbl_of 722 (by decide +kernel) rfl⟩
theorem lVL_111 : ax_lV RL 111 mX9_good := ⟨ax_tbl_of 1663 (by decide +kernel) rfl, ax_tbl_of 1664 (by decide +kernel) rfl, ax_tbl_of 1665 (by decide +kernel) rfl⟩
theorem lVL_112 : ax_lV RL 112 mX8_gap := ⟨ax_tbl_of 724 (by decide +kernel) rfl, ax_tbl_of 725 (by decide +kernel) rfl, ax_tbl_of 726 (by decide +kernel) rfl⟩
theorem lVL_115 : ax_lV RL 115 mX9_gap := ⟨ax_tbl_of 1671 (by decide +kernel) rfl, ax_tbl_of 1672 (by decide +kernel) rfl, ax_tbl_of 1673 (by decide +kernel) rfl⟩
theorem lVL_116 : ax_lV RL 116 mX8_pad := ⟨ax_tbl_of 732 (by decide +kernel) rfl, ax_tbl_of 733 (by decide +kernel) rfl, ax_tbl_of 734 (by decide +kernel) rfl⟩
theorem lVL_119 : ax_lV RL 119 mX9_pad := ⟨ax_tbl_of 1679 (by decide +kernel) rfl, ax_tbl_of 1680 (by decide +kernel) rfl, ax_tbl_of 1681 (by decide +kernel) rfl⟩
theorem lVL_120 : ax_lV RL 120 mX8_pads := ⟨ax_tbl_of 748 (by decide +kernel) rfl, ax_tbl_of 749 (by decide +kernel) rfl, ax_tbl_of 750 (by decide +kernel) rfl⟩
theorem lVL_123 : ax_lV RL 123 mX9_pads := ⟨ax_tbl_of 1688 (by decide +kernel) rfl, ax_tbl_of 1689 (by decide +kernel) rfl, ax_tbl_of 1690 (by decide +kernel) rfl⟩
theorem lVL_124 : ax_lV RL 124 mX8_wave := ⟨ax_tbl_of 752 (by decide +kernel) rfl, ax_tbl_of 753 (by decide +kernel) rfl, ax_tbl_of 754 (by decide +kernel) rfl⟩
theorem lVL_128 : ax_lV RL 128 mX9_wave := ⟨ax_tbl_of 1692 (by decide +kernel) rfl, ax_tbl_of 1693 (by decide +kernel) rfl, ax_tbl_of 1694 (by decide +kernel) rfl⟩
theorem lVL_129 : ax_lV RL 129 mX8_fails := ⟨ax_tbl_of 772 (by decide +kernel) rfl, ax_tbl_of 773 (by decide +kernel) rfl, ax_tbl_of 774 (by decide +kernel) rfl⟩
theorem lVL_132 : ax_lV RL 132 mX9_fails := ⟨ax_tbl_of 1696 (by decide +kernel) rfl, ax_tbl_of 1697 (by decide +kernel) rfl, ax_tbl_of 1698 (by decide +kernel) rfl⟩
theorem lVL_133 : ax_lV RL 133 mX8_ratio := ⟨ax_tbl_of 781 (by decide +kernel) rfl, ax_tbl_of 782 (by decide +kernel) rfl, ax_tbl_of 783 (by decide +kernel) rfl⟩
theorem lVL_137 : ax_lV RL 137 mX9_ratio := ⟨ax_tbl_of 1700 (by decide +kernel) rfl, ax_tbl_of 1701 (by decide +kernel) rfl, ax_tbl_of 1702 (by decide +kernel) rfl⟩
theorem lVL_138 : ax_lV RL 138 mX8_loop := ⟨ax_tbl_of 810 (by decide +kernel) rfl, ax_tbl_of 811 (by decide +kernel) rfl, ax_tbl_of 812 (by decide +kernel) rfl⟩
theorem lVL_141 : ax_lV RL 141 mX9_loop := ⟨ax_tbl_of 1723 (by decide +kernel) rfl, ax_tbl_of 1724 (by decide +kernel) rfl, ax_tbl_of 1725 (by decide +kernel) rfl⟩
theorem lVL_142 : ax_lV RL 142 mX8_leastPeriod := ⟨ax_tbl_of 814 (by decide +kernel) rfl, ax_tbl_of 815 (by decide +kernel) rfl, ax_tbl_of 816 (by decide +kernel) rfl⟩
theorem lVL_145 : ax_lV RL 145 mX9_leastPeriod := ⟨ax_tbl_of 1727 (by decide +kernel) rfl, ax_tbl_of 1728 (by decide +kernel) rfl, ax_tbl_of 1729 (by decide +kernel) rfl⟩
theorem lVL_146 : ax_lV RL 146 mX8_slower := ⟨ax_tbl_of 868 (by decide +kernel) rfl, ax_tbl_of 869 (by decide +kernel) rfl, ax_tbl_of 870 (by decide +kernel) rfl⟩
theorem lVL_149 : ax_lV RL 149 mX9_slower := ⟨ax_tbl_of 1735 (by decide +kernel) rfl, ax_tbl_of 1736 (by decide +kernel) rfl, ax_tbl_of 1737 (by decide +kernel) rfl⟩
theorem lVL_150 : ax_lV RL 150 mX8_bestOpens := ⟨ax_tbl_of 887 (by decide +kernel) rfl, ax_tbl_of 888 (by decide +kernel) rfl, ax_tbl_of 889 (by decide +kernel) rfl⟩
theorem lVL_153 : ax_lV RL 153 mX9_bestOpens := ⟨ax_tbl_of 1739 (by decide +kernel) rfl, ax_tbl_of 1740 (by decide +kernel) rfl, ax_tbl_of 1741 (by decide +kernel) rfl⟩
theorem lVL_154 : ax_lV RL 154 mX8_bestTwo := ⟨ax_tbl_of 906 (by decide +kernel) rfl, ax_tbl_of 907 (by decide +kernel) rfl, ax_tbl_of 908 (by decide +kernel) rfl⟩
theorem lVL_157 : ax_lV RL 157 mX9_bestTwo := ⟨ax_tbl_of 1743 (by decide +kernel) rfl, ax_tbl_of 1744 (by decide +kernel) rfl, ax_tbl_of 1745 (by decide +kernel) rfl⟩
theorem lVL_158 : ax_lV RL 158 mX8_gain := ⟨ax_tbl_of 910 (by decide +kernel) rfl, ax_tbl_of 911 (by decide +kernel) rfl, ax_tbl_of 912 (by decide +kernel) rfl⟩
theorem lVL_161 : ax_lV RL 161 mX9_gain := ⟨ax_tbl_of 1747 (by decide +kernel) rfl, ax_tbl_of 1748 (by decide +kernel) rfl, ax_tbl_of 1749 (by decide +kernel) rfl⟩
theorem lVL_162 : ax_lV RL 162 mX8_breaks := ⟨ax_tbl_of 919 (by decide +kernel) rfl, ax_tbl_of 920 (by decide +kernel) rfl, ax_tbl_of 921 (by decide +kernel) rfl⟩
theorem lVL_165 : ax_lV RL 165 mX9_breaks := ⟨ax_tbl_of 1755 (by decide +kernel) rfl, ax_tbl_of 1756 (by decide +kernel) rfl, ax_tbl_of 1757 (by decide +kernel) rfl⟩
theorem lVL_166 : ax_lV RL 166 mX8_bestMove := ⟨ax_tbl_of 941 (by decide +kernel) rfl, ax_tbl_of 942 (by decide +kernel) rfl, ax_tbl_of 943 (by decide +kernel) rfl⟩
theorem lVL_169 : ax_lV RL 169 mX9_bestMove := ⟨ax_tbl_of 1751 (by decide +kernel) rfl, ax_tbl_of 1752 (by decide +kernel) rfl, ax_tbl_of 1753 (by decide +kernel) rfl⟩
theorem lVL_170 : ax_lV RL 170 mX8_leastWidth := ⟨ax_tbl_of 961 (by decide +kernel) rfl, ax_tbl_of 962 (by decide +kernel) rfl, ax_tbl_of 963 (by decide +kernel) rfl⟩
theorem lVL_173 : ax_lV RL 173 mX9_leastWidth := ⟨ax_tbl_of 1770 (by decide +kernel) rfl, ax_tbl_of 1771 (by decide +kernel) rfl, ax_tbl_of 1772 (by decide +kernel) rfl⟩
theorem lVL_174 : ax_lV RL 174 mX8_flops := ⟨ax_tbl_of 972 (by decide +kernel) rfl, ax_tbl_of 973 (by decide +kernel) rfl, ax_tbl_of 974 (by decide +kernel) rfl⟩
theorem lVL_177 : ax_lV RL 177 mX9_flops := ⟨ax_tbl_of 1774 (by decide +kernel) rfl, ax_tbl_of 1775 (by decide +kernel) rfl, ax_tbl_of 1776 (by decide +kernel) rfl⟩
theorem lVL_178 : ax_lV RL 178 mX8_near := ⟨ax_tbl_of 980 (by decide +kernel) rfl, ax_tbl_of 981 (by decide +kernel) rfl, ax_tbl_of 982 (by decide +kernel) rfl⟩
theorem lVL_181 : ax_lV RL 181 mX9_near := ⟨ax_tbl_of 1778 (by decide +kernel) rfl, ax_tbl_of 1779 (by decide +kernel) rfl, ax_tbl_of 1780 (by decide +kernel) rfl⟩
theorem lVL_182 : ax_lV RL 182 mX8_nearest := ⟨ax_tbl_of 988 (by decide +kernel) rfl, ax_tbl_of 989 (by decide +kernel) rfl, ax_tbl_of 990 (by decide +kernel) rfl⟩
theorem lVL_185 : ax_lV RL 185 mX9_nearest := ⟨ax_tbl_of 1786 (by decide +kernel) rfl, ax_tbl_of 1787 (by decide +kernel) rfl, ax_tbl_of 1788 (by decide +kernel) rfl⟩
theorem lVL_186 : ax_lV RL 186 mX8_event := ⟨ax_tbl_of 997 (by decide +kernel) rfl, ax_tbl_of 998 (by decide +kernel) rfl, ax_tbl_of 999 (by decide +kernel) rfl⟩
theorem lVL_189 : ax_lV RL 189 mX9_event := ⟨ax_tbl_of 1790 (by decide +kernel) rfl, ax_tbl_of 1791 (by decide +kernel) rfl, ax_tbl_of 1792 (by decide +kernel) rfl⟩
theorem lVL_190 : ax_lV RL 190 mX8_open := ⟨ax_tbl_of 1009 (by decide +kernel) rfl, ax_tbl_of 1010 (by decide +kernel) rfl, ax_tbl_of 1011 (by decide +kernel) rfl⟩
theorem lVL_193 : ax_lV RL 193 mX9_open := ⟨ax_tbl_of 1798 (by decide +kernel) rfl, ax_tbl_of 1799 (by decide +kernel) rfl, ax_tbl_of 1800 (by decide +kernel) rfl⟩
theorem lVL_194 : ax_lV RL 194 mX8_chance := ⟨ax_tbl_of 1020 (by decide +kernel) rfl, ax_tbl_of 1021 (by decide +kernel) rfl, ax_tbl_of 1022 (by decide +kernel) rfl⟩
theorem lVL_198 : ax_lV RL 198 mX9_chance := ⟨ax_tbl_of 1802 (by decide +kernel) rfl, ax_tbl_of 1803 (by decide +kernel) rfl, ax_tbl_of 1804 (by decide +kernel) rfl⟩
theorem lVL_199 : ax_lV RL 199 mX8_undo := ⟨ax_tbl_of 1047 (by decide +kernel) rfl, ax_tbl_of 1048 (by decide +kernel) rfl, ax_tbl_of 1049 (by decide +kernel) rfl⟩
theorem lVL_202 : ax_lV RL 202 mX9_undo := ⟨ax_tbl_of 1498 (by decide +kernel) rfl, ax_tbl_of 1499 (by decide +kernel) rfl, ax_tbl_of 1500 (by decide +kernel) rfl⟩
theorem lVL_203 : ax_lV RL 203 mX8_keep := ⟨ax_tbl_of 1059 (by decide +kernel) rfl, ax_tbl_of 1060 (by decide +kernel) rfl, ax_tbl_of 1061 (by decide +kernel) rfl⟩
theorem lVL_206 : ax_lV RL 206 mX9_keep := ⟨ax_tbl_of 1506 (by decide +kernel) rfl, ax_tbl_of 1507 (by decide +kernel) rfl, ax_tbl_of 1508 (by decide +kernel) rfl⟩
theorem lVL_207 : ax_lV RL 207 mX8_back := ⟨ax_tbl_of 1067 (by decide +kernel) rfl, ax_tbl_of 1068 (by decide +kernel) rfl, ax_tbl_of 1069 (by decide +kernel) rfl⟩
theorem lVL_210 : ax_lV RL 210 mX9_back := ⟨ax_tbl_of 1514 (by decide +kernel) rfl, ax_tbl_of 1515 (by decide +kernel) rfl, ax_tbl_of 1516 (by decide +kernel) rfl⟩
theorem lVL_211 : ax_lV RL 211 mX8_count := ⟨ax_tbl_of 1075 (by decide +kernel) rfl, ax_tbl_of 1076 (by decide +kernel) rfl, ax_tbl_of 1077 (by decide +kernel) rfl⟩
theorem lVL_214 : ax_lV RL 214 mX9_count := ⟨ax_tbl_of 1812 (by decide +kernel) rfl, ax_tbl_of 1813 (by decide +kernel) rfl, ax_tbl_of 1814 (by decide +kernel) rfl⟩
