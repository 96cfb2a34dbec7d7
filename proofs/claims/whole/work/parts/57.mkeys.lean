/-! THE MODEL'S PROGRAMS: a key taken -/
theorem fup_id {g : Nat → Int} {k : Nat} {v : Int} (e : g k = v) : fup g k v = g := by
  funext j
  unfold fup
  by_cases q : j = k
  · rw [if_pos q, q, e]
  · rw [if_neg q]
theorem fup_two {g : Nat → Int} {k : Nat} {v w : Int} : fup (fup g k v) k w = fup g k w := by
  funext j
  unfold fup
  by_cases q : j = k
  · rw [if_pos q, if_pos q]
  · rw [if_neg q, if_neg q, if_neg q]
theorem s_step_1 {X : sC} (hin : s_in X) : s_step (-1) 0 X = if X.2.1 ≤ 0 then X else (X.1, X.2.1 - 1, X.2.2) := by
  obtain ⟨i1, i2, i3, i4⟩ := hin
  unfold s_step
  by_cases g : X.2.1 ≤ 0
  · rw [if_pos g, if_neg (by omega)]
  · rw [if_neg g, if_pos (by omega), Int.add_zero]; rfl
theorem s_step_2 {X : sC} (hin : s_in X) : s_step 1 0 X = if 7 ≤ X.2.1 then X else (X.1, X.2.1 + 1, X.2.2) := by
  obtain ⟨i1, i2, i3, i4⟩ := hin
  unfold s_step
  by_cases g : 7 ≤ X.2.1
  · rw [if_pos g, if_neg (by omega)]
  · rw [if_neg g, if_pos (by omega), Int.add_zero]
theorem s_step_3 {X : sC} (hin : s_in X) : s_step 0 1 X = if 23 ≤ X.2.2 then X else (X.1, X.2.1, X.2.2 + 1) := by
  obtain ⟨i1, i2, i3, i4⟩ := hin
  unfold s_step
  by_cases g : 23 ≤ X.2.2
  · rw [if_pos g, if_neg (by omega)]
  · rw [if_neg g, if_pos (by omega), Int.add_zero]
theorem s_step_4 {X : sC} (hin : s_in X) : s_step 0 (-1) X = if X.2.2 ≤ 0 then X else (X.1, X.2.1, X.2.2 - 1) := by
  obtain ⟨i1, i2, i3, i4⟩ := hin
  unfold s_step
  by_cases g : X.2.2 ≤ 0
  · rw [if_pos g, if_neg (by omega)]
  · rw [if_neg g, if_pos (by omega), Int.add_zero]; rfl
section mKeys
variable {h : zH} {I : Nat → Int} {A : Nat → Nat → Int} {X : sC} {Q : Option zV → zH → Prop} {pen k p prog : Int}
theorem m_isLetter {k : Int} (hQ : Q (some (.inl (if 32 ≤ k ∧ k ≤ 126 then 1 else 0))) h) : zE 113 0 [some (.inl k)] [] h Q := by
  simp only [xX11_isLetter_0, xX11_isLetter_6, xX11_isLetter_12, xX11_isLetter_16, xX11_isLetter_17]
  by_cases hi : 32 ≤ k ∧ k ≤ 126
  · rw [if_neg (by omega), if_neg (by omega)]
    rw [if_pos hi] at hQ
    exact ⟨Or.inr trivial, hQ⟩
  · rw [if_neg hi] at hQ
    (repeat' split) <;> first | exact ⟨Or.inl trivial, hQ⟩ | omega
theorem m_newLine (hm : mOK h) (hr : 0 ≤ X.2.1 ∧ X.2.1 < 8) (hQ : Q none (zM h I (mW A 0 (s_nl X)))) : zE 110 0 [some (.inr 29)] [] (zM h I (mW A 0 X)) Q := by
  rw [yX11_newLine_0 hm, mW_col, yX11_newLine_7 hm, mW_32]
  dsimp only
  unfold s_nl at hQ
  by_cases h7 : X.2.1 < 7
  · rw [if_pos h7] at hQ
    rw [if_neg (by omega), yX11_newLine_18 hm, mW_32, mW_row]
    dsimp only
    rw [yX11_newLine_28 hm, yX11_newLine_37 hm, zw_eq (by omega) (by omega)]
    exact hQ
  · rw [if_neg h7] at hQ
    rw [if_pos (by omega), yX11_newLine_31 hm]
    refine m_scrolls (s := 0) (n := 1) hm (by omega) (by omega) ?_
    simp only [Option.toList_none, List.nil_append]
    rw [yX11_newLine_37 hm]
    exact hQ
theorem m_puts {l : Int} (hm : mOK h) (hin : s_in X) (hl : 0 ≤ l ∧ l < 128) (hp : I 646 = pen) (hQ : Q none (zM h I (mW A 0 (s_put (128 * pen + l) X)))) {l2 : Option zV} : zE 111 0 [some (.inr 29), some (.inl l), l2] [] (zM h I (mW A 0 X)) Q := by
  obtain ⟨i1, i2, i3, i4⟩ := id hin
  have ei : zw (zw (24 * X.2.1) + X.2.2) = ((24 * X.2.1 + X.2.2).toNat : Int) := by
    rw [zw_eq (x := 24 * X.2.1) (by omega) (by omega), zw_eq (by omega) (by omega)]
    omega
  have e := mW_cell0 (A := A) (X := X) (k := (24 * X.2.1 + X.2.2).toNat) (v := 128 * pen + l) (by omega)
  rw [show (128 * pen + l) % 128 = l by omega, show (128 * pen + l) / 128 = pen by omega] at e
  rw [yX11_puts_0 hm, mW_32, mW_33, ei, Int.toNat_natCast, yX11_puts_24 hm, Int.toNat_natCast, hp, e, yX11_puts_34 hm, mW_33]
  dsimp only
  unfold s_put at hQ
  refine ⟨⟨by omega, by omega⟩, ⟨by omega, by omega⟩, ?_⟩
  by_cases h23 : X.2.2 < 23
  · rw [if_pos h23] at hQ
    rw [if_pos (by omega), yX11_puts_52 hm, mW_33, mW_col, yX11_puts_62 hm]
    dsimp only
    rw [zw_eq (by omega) (by omega)]
    exact hQ
  · rw [if_neg h23] at hQ
    rw [if_neg (by omega), yX11_puts_45 hm]
    refine m_newLine hm ⟨i1, i2⟩ ?_
    simp only [Option.toList_none, List.nil_append]
    rw [yX11_puts_49 hm, yX11_puts_62 hm]
    exact hQ
theorem m_back (hm : mOK h) (hin : s_in X) (hQ : Q none (zM h I (mW A 0 (s_rub X)))) {l1 : Option zV} : zE 112 0 [some (.inr 29), l1] [] (zM h I (mW A 0 X)) Q := by
  obtain ⟨i1, i2, i3, i4⟩ := id hin
  rw [yX11_back_0 hm, mW_33]
  unfold s_rub at hQ
  by_cases h0 : X.2.2 ≤ 0
  · rw [if_pos h0] at hQ
    rw [if_neg (by omega), yX11_back_9 hm]
    exact hQ
  · rw [if_neg h0] at hQ
    rw [if_pos (by omega), yX11_back_10 hm, mW_33, mW_col, yX11_back_20 hm, mW_32, mW_33]
    dsimp only
    rw [zw_eq (x := X.2.2 - 1) (by omega) (by omega), zw_eq (x := 24 * X.2.1) (by omega) (by omega), zw_eq (x := 24 * X.2.1 + (X.2.2 - 1)) (by omega) (by omega), zw_eq (by omega) (by omega)]
    have ea : (24 * X.2.1 + (X.2.2 - 1) : Int) = (((24 * X.2.1 + (X.2.2 - 1)).toNat : Nat) : Int) := by omega
    have eb : (24 * X.2.1 + (X.2.2 - 1) + 1 : Int) = (((24 * X.2.1 + (X.2.2 - 1)).toNat + 1 : Nat) : Int) := by omega
    have key := m_blank (h := h) (I := I) (A := A) (s := 0) (X := (X.1, X.2.1, X.2.2 - 1)) (fr := (24 * X.2.1 + (X.2.2 - 1)).toNat) (to := (24 * X.2.1 + (X.2.2 - 1)).toNat + 1) (l4 := none) (Q := fun r h' => zE 112 46 [some (.inr 29), some (.inl (24 * X.2.1 + (X.2.2 - 1)))] (r.toList ++ []) h' Q) hm (by omega) (by omega) (by omega) ?_
    · rw [← ea, ← eb] at key
      exact key
    · simp only [Option.toList_none, List.nil_append]
      rw [yX11_back_46 hm]
      have e4 : (fun j => if (24 * X.2.1 + (X.2.2 - 1)).toNat ≤ j ∧ j < (24 * X.2.1 + (X.2.2 - 1)).toNat + 1 then (32 : Int) else X.1 j) = fup X.1 (24 * X.2.1 + (X.2.2 - 1)).toNat 32 := by
        funext j
        unfold fup
        by_cases q : j = (24 * X.2.1 + (X.2.2 - 1)).toNat
        · rw [if_pos q, if_pos (by omega)]
        · rw [if_neg q, if_neg (by omega)]
      rw [e4]
      exact hQ
theorem m_echo (hm : mOK h) (hin : s_in X) (hp : I 646 = pen) (hQ : Q none (zM h I (mW A 0 (s_echo pen k X)))) : zE 114 0 [some (.inr 29), some (.inl k)] [] (zM h I (mW A 0 X)) Q := by
  obtain ⟨i1, i2, i3, i4⟩ := id hin
  unfold s_echo at hQ
  rw [yX11_echo_0 hm]
  refine m_isLetter ?_
  simp only [Option.toList_some, List.cons_append, List.nil_append]
  rw [yX11_echo_4 hm]
  by_cases hl : 32 ≤ k ∧ k ≤ 126
  · rw [if_pos hl] at hQ ⊢
    rw [if_neg (by decide), yX11_echo_7 hm]
    refine m_puts hm hin (by omega) hp ?_
    simp only [Option.toList_none, List.nil_append]
    rw [yX11_echo_12 hm, if_pos (by omega), yX11_echo_22 hm, if_pos (by omega), yX11_echo_32 hm, if_pos (by omega), yX11_echo_56 hm, if_pos (by omega), yX11_echo_82 hm, if_pos (by omega), yX11_echo_108 hm, if_pos (by omega), yX11_echo_132 hm]
    exact hQ
  · rw [if_neg hl] at hQ ⊢
    rw [if_pos rfl, yX11_echo_12 hm]
    by_cases e13 : k = 13
    · rw [if_pos e13] at hQ
      rw [if_neg (by omega), yX11_echo_18 hm]
      refine m_newLine hm ⟨i1, i2⟩ ?_
      simp only [Option.toList_none, List.nil_append]
      rw [yX11_echo_22 hm, if_pos (by omega), yX11_echo_32 hm, if_pos (by omega), yX11_echo_56 hm, if_pos (by omega), yX11_echo_82 hm, if_pos (by omega), yX11_echo_108 hm, if_pos (by omega), yX11_echo_132 hm]
      exact hQ
    · rw [if_neg e13] at hQ
      rw [if_pos e13, yX11_echo_22 hm]
      by_cases e8 : k = 8
      · rw [if_pos e8] at hQ
        rw [if_neg (by omega), yX11_echo_28 hm]
        refine m_back hm hin ?_
        simp only [Option.toList_none, List.nil_append]
        rw [yX11_echo_32 hm, if_pos (by omega), yX11_echo_56 hm, if_pos (by omega), yX11_echo_82 hm, if_pos (by omega), yX11_echo_108 hm, if_pos (by omega), yX11_echo_132 hm]
        exact hQ
      · rw [if_neg e8] at hQ
        rw [if_pos e8, yX11_echo_32 hm]
        by_cases e1 : k = 1
        · rw [if_pos e1, s_step_1 hin] at hQ
          rw [if_neg (by omega), yX11_echo_37 hm, mW_32]
          by_cases g : X.2.1 ≤ 0
          · rw [if_pos g] at hQ ⊢
            rw [yX11_echo_56 hm, if_pos (by omega), yX11_echo_82 hm, if_pos (by omega), yX11_echo_108 hm, if_pos (by omega), yX11_echo_132 hm]
            exact hQ
          · rw [if_neg g] at hQ ⊢
            rw [yX11_echo_46 hm, mW_32, mW_row, yX11_echo_56 hm, if_pos (by omega), yX11_echo_82 hm, if_pos (by omega), yX11_echo_108 hm, if_pos (by omega), yX11_echo_132 hm, zw_eq (by omega) (by omega)]
            exact hQ
        · rw [if_neg e1] at hQ
          rw [if_pos e1, yX11_echo_56 hm]
          by_cases e2 : k = 2
          · rw [if_pos e2, s_step_2 hin] at hQ
            rw [if_neg (by omega), yX11_echo_61 hm, mW_32]
            by_cases g : 7 ≤ X.2.1
            · rw [if_pos g] at hQ ⊢
              rw [yX11_echo_82 hm, if_pos (by omega), yX11_echo_108 hm, if_pos (by omega), yX11_echo_132 hm]
              exact hQ
            · rw [if_neg g] at hQ ⊢
              rw [yX11_echo_72 hm, mW_32, mW_row, yX11_echo_82 hm, if_pos (by omega), yX11_echo_108 hm, if_pos (by omega), yX11_echo_132 hm, zw_eq (by omega) (by omega)]
              exact hQ
          · rw [if_neg e2] at hQ
            rw [if_pos e2, yX11_echo_82 hm]
            by_cases e3 : k = 3
            · rw [if_pos e3, s_step_3 hin] at hQ
              rw [if_neg (by omega), yX11_echo_87 hm, mW_33]
              by_cases g : 23 ≤ X.2.2
              · rw [if_pos g] at hQ ⊢
                rw [yX11_echo_108 hm, if_pos (by omega), yX11_echo_132 hm]
                exact hQ
              · rw [if_neg g] at hQ ⊢
                rw [yX11_echo_98 hm, mW_33, mW_col, yX11_echo_108 hm, if_pos (by omega), yX11_echo_132 hm, zw_eq (by omega) (by omega)]
                exact hQ
            · rw [if_neg e3] at hQ
              rw [if_pos e3, yX11_echo_108 hm]
              by_cases e4 : k = 4
              · rw [if_pos e4, s_step_4 hin] at hQ
                rw [if_neg (by omega), yX11_echo_113 hm, mW_33]
                by_cases g : X.2.2 ≤ 0
                · rw [if_pos g] at hQ ⊢
                  rw [yX11_echo_132 hm]
                  exact hQ
                · rw [if_neg g] at hQ ⊢
                  rw [yX11_echo_122 hm, mW_33, mW_col, yX11_echo_132 hm, zw_eq (by omega) (by omega)]
                  exact hQ
              · rw [if_neg e4] at hQ
                rw [if_pos e4, yX11_echo_132 hm]
                exact hQ
theorem m_lines (hm : mOK h) (hin : s_in X) (hp : I 646 = pen) (hQ : Q none (zM h I (mW A 0 (if k = 13 then s_put (128 * pen + 62) (s_nl X) else if s_left k X then X else s_echo pen k X)))) : zE 115 0 [some (.inr 29), some (.inl k)] [] (zM h I (mW A 0 X)) Q := by
  obtain ⟨i1, i2, i3, i4⟩ := id hin
  have e50 : ¬ s_left k X → zE 115 50 [some (.inr 29), some (.inl k)] [] (zM h I (mW A 0 X)) Q := by
    intro no
    rw [yX11_lines_50 hm]
    refine m_echo (pen := pen) hm hin hp ?_
    simp only [Option.toList_none, List.nil_append]
    rw [yX11_lines_55 hm]
    by_cases e13 : k = 13
    · rw [if_pos e13] at hQ
      have es : s_echo pen k X = s_nl X := by
        unfold s_echo
        rw [if_neg (by omega), if_pos e13]
      rw [if_neg (by omega), yX11_lines_61 hm, es]
      refine m_puts (pen := pen) hm (s_nl_in hin) (by omega) hp ?_
      simp only [Option.toList_none, List.nil_append]
      rw [yX11_lines_67 hm]
      exact hQ
    · rw [if_neg e13, if_neg no] at hQ
      rw [if_pos e13, yX11_lines_67 hm]
      exact hQ
  have e49 : s_left k X → k ≠ 13 → zE 115 49 [some (.inr 29), some (.inl k)] [] (zM h I (mW A 0 X)) Q := by
    intro le e13
    rw [if_neg e13, if_pos le] at hQ
    rw [yX11_lines_49 hm]
    exact hQ
  have e18 : ¬ ((32 ≤ k ∧ k ≤ 126) ∧ 23 ≤ X.2.2) → zE 115 18 [some (.inr 29), some (.inl k)] [] (zM h I (mW A 0 X)) Q := by
    intro nl
    rw [yX11_lines_18 hm]
    by_cases e1 : k = 1
    · rw [if_pos e1]
      exact e49 (by unfold s_left; omega) (by omega)
    · rw [if_neg e1, yX11_lines_23 hm]
      by_cases e2 : k = 2
      · rw [if_pos e2]
        exact e49 (by unfold s_left; omega) (by omega)
      · rw [if_neg e2, yX11_lines_28 hm]
        have e39 : (k = 8 ∨ k = 4) → zE 115 39 [some (.inr 29), some (.inl k)] [] (zM h I (mW A 0 X)) Q := by
          intro q
          rw [yX11_lines_39 hm, mW_33]
          by_cases g : 2 ≤ X.2.2
          · rw [if_pos g]
            exact e50 (by unfold s_left; omega)
          · rw [if_neg g]
            exact e49 (by unfold s_left; omega) (by omega)
        by_cases e8 : k = 8
        · rw [if_pos e8]
          exact e39 (Or.inl e8)
        · rw [if_neg e8, yX11_lines_34 hm]
          by_cases e4 : k = 4
          · rw [if_neg (by omega)]
            exact e39 (Or.inr e4)
          · rw [if_pos e4]
            exact e50 (by unfold s_left; omega)
  rw [yX11_lines_0 hm]
  refine m_isLetter ?_
  simp only [Option.toList_some, List.cons_append, List.nil_append]
  rw [yX11_lines_4 hm]
  by_cases hl : 32 ≤ k ∧ k ≤ 126
  · rw [if_pos hl, if_neg (by decide), yX11_lines_7 hm, mW_33]
    by_cases g : X.2.2 = 23
    · rw [if_pos g]
      exact e49 (by unfold s_left; omega) (by omega)
    · rw [if_neg g]
      exact e18 (by omega)
  · rw [if_neg hl, if_pos rfl]
    exact e18 (by omega)
theorem m_pass_l (hm : mOK h) (hp : I 646 = pen) (hq : I 648 = p) (hq2 : p ≤ 20) {l1 : Option zV} : ∀ (d : Nat) (i : Int) (X : sC), i + d = p → 0 ≤ i → s_in X → Q none (zM h (fup I 648 0) (mW A 0 (s_nl (s_star pen d X)))) → zE 116 58 [some (.inr 29), l1, some (.inl i)] [] (zM h I (mW A 0 X)) Q := by
  intro d
  induction d with
  | zero =>
    intro i X hi h0 hin hQ
    rw [yX11_pass_58 hm, hq, if_pos (by omega), yX11_pass_78 hm]
    refine m_newLine hm ⟨hin.1, hin.2.1⟩ ?_
    simp only [Option.toList_none, List.nil_append]
    rw [yX11_pass_82 hm, yX11_pass_87 hm]
    exact hQ
  | succ d ih =>
    intro i X hi h0 hin hQ
    rw [yX11_pass_58 hm, hq, if_neg (by omega), yX11_pass_66 hm]
    refine m_puts (pen := pen) hm hin (by omega) hp ?_
    simp only [Option.toList_none, List.nil_append]
    rw [yX11_pass_72 hm, zw_eq (by omega) (by omega)]
    exact ih (i + 1) _ (by omega) (by omega) (s_put_in hin) hQ
theorem m_pass (hm : mOK h) (hin : s_in X) (hp : I 646 = pen) (hq : I 648 = p) (hq2 : 0 ≤ p ∧ p ≤ 20) (hQ : Q none (zM h (fup I 648 (s_pass pen k X p).2) (mW A 0 (s_pass pen k X p).1))) {l2 : Option zV} : zE 116 0 [some (.inr 29), some (.inl k), l2] [] (zM h I (mW A 0 X)) Q := by
  rw [yX11_pass_0 hm]
  refine m_isLetter ?_
  simp only [Option.toList_some, List.cons_append, List.nil_append]
  rw [yX11_pass_4 hm]
  unfold s_pass at hQ
  by_cases hl : 32 ≤ k ∧ k ≤ 126
  · rw [if_pos hl] at hQ ⊢
    rw [if_neg (by decide), yX11_pass_7 hm, hq]
    by_cases g : 20 ≤ p
    · have e : min (p + 1) 20 = p := by omega
      dsimp only at hQ
      rw [e, fup_id hq] at hQ
      rw [if_pos g, yX11_pass_26 hm, if_pos (by omega), yX11_pass_49 hm, if_neg (by omega), yX11_pass_55 hm]
      exact hQ
    · have e : min (p + 1) 20 = p + 1 := by omega
      dsimp only at hQ
      rw [e] at hQ
      rw [if_neg g, yX11_pass_16 hm, hq, zw_eq (by omega) (by omega), yX11_pass_26 hm, if_pos (by omega), yX11_pass_49 hm, if_neg (by omega), yX11_pass_55 hm]
      exact hQ
  · rw [if_neg hl] at hQ ⊢
    rw [if_pos rfl, yX11_pass_26 hm]
    by_cases e8 : k = 8
    · rw [if_pos e8] at hQ
      rw [if_neg (by omega), yX11_pass_32 hm, hq]
      dsimp only at hQ
      by_cases g : p ≤ 0
      · rw [show max (p - 1) 0 = p by omega, fup_id hq] at hQ
        rw [if_pos g, yX11_pass_49 hm, if_neg (by omega), yX11_pass_55 hm]
        exact hQ
      · rw [show max (p - 1) 0 = p - 1 by omega] at hQ
        rw [if_neg g, yX11_pass_39 hm, hq, zw_eq (by omega) (by omega), yX11_pass_49 hm, if_neg (by omega), yX11_pass_55 hm]
        exact hQ
    · rw [if_neg e8] at hQ
      rw [if_pos e8, yX11_pass_49 hm]
      by_cases e13 : k = 13
      · rw [if_pos e13] at hQ ⊢
        rw [yX11_pass_56 hm]
        exact m_pass_l hm hp hq hq2.2 p.toNat 0 X (by omega) (by omega) hin hQ
      · rw [if_neg e13] at hQ ⊢
        rw [yX11_pass_55 hm]
        dsimp only at hQ
        rw [fup_id hq] at hQ
        exact hQ
theorem m_pages_l (hm : mOK h) (hp : I 646 = pen) (hk : 0 ≤ k ∧ k < 128) {C : Nat → Int} {r c : Int} (hQ : Q none (zM h I (mW A 0 (s_row 7 (128 * pen + k) C, 7, 0)))) : ∀ (d i : Nat), i + d = 192 → 168 ≤ i → zE 117 18 [some (.inr 29), some (.inl k), some (.inl (i : Int))] [] (zM h I (mW A 0 (fun j => if 168 ≤ j ∧ j < i then 128 * pen + k else C j, r, c))) Q := by
  intro d
  induction d with
  | zero =>
    intro i hi h1
    have e : i = 192 := by omega
    subst e
    have e4 : (fun j : Nat => if 168 ≤ j ∧ j < 192 then 128 * pen + k else C j) = s_row 7 (128 * pen + k) C := by
      funext j
      unfold s_row
      by_cases q : 168 ≤ j ∧ j < 192
      · rw [if_pos q, if_pos (by omega)]
      · rw [if_neg q, if_neg (by omega)]
    rw [e4, yX11_pages_18 hm, if_pos (by omega), yX11_pages_48 hm, mW_row, yX11_pages_56 hm, mW_col, yX11_pages_63 hm]
    exact hQ
  | succ d ih =>
    intro i hi h1
    have e := mW_cell0 (A := A) (X := (fun j => if 168 ≤ j ∧ j < i then 128 * pen + k else C j, r, c)) (k := i) (v := 128 * pen + k) (by omega)
    rw [show (128 * pen + k) % 128 = k by omega, show (128 * pen + k) / 128 = pen by omega] at e
    have e4 : fup (fun j => if 168 ≤ j ∧ j < i then 128 * pen + k else C j) i (128 * pen + k) = fun j => if 168 ≤ j ∧ j < i + 1 then 128 * pen + k else C j := by
      funext j
      unfold fup
      by_cases q : j = i
      · rw [if_pos q, if_pos (by omega)]
      · rw [if_neg q]
        dsimp only
        by_cases q2 : 168 ≤ j ∧ j < i
        · rw [if_pos q2, if_pos (by omega)]
        · rw [if_neg q2, if_neg (by omega)]
    dsimp only at e
    rw [e4] at e
    rw [yX11_pages_18 hm, if_neg (by omega), yX11_pages_25 hm, Int.toNat_natCast, yX11_pages_32 hm, Int.toNat_natCast, hp, e, yX11_pages_42 hm, zw_eq (by omega) (by omega)]
    exact ⟨⟨by omega, by omega⟩, ⟨by omega, by omega⟩, ih (i + 1) (by omega) (by omega)⟩
theorem m_pages (hm : mOK h) (hp : I 646 = pen) (hQ : Q none (zM h I (mW A 0 (s_page pen k X)))) {l2 : Option zV} : zE 117 0 [some (.inr 29), some (.inl k), l2] [] (zM h I (mW A 0 X)) Q := by
  rw [yX11_pages_0 hm]
  refine m_isLetter ?_
  simp only [Option.toList_some, List.cons_append, List.nil_append]
  rw [yX11_pages_4 hm]
  unfold s_page at hQ
  by_cases hl : 32 ≤ k ∧ k ≤ 126
  · rw [if_pos hl] at hQ ⊢
    rw [if_pos (by decide), yX11_pages_8 hm]
    refine m_scrolls (s := 0) (n := 1) hm (by omega) (by omega) ?_
    simp only [Option.toList_none, List.nil_append]
    rw [yX11_pages_14 hm]
    have key := m_pages_l (A := A) (C := scr 1 X.1) (r := X.2.1) (c := X.2.2) hm hp (by omega) hQ 24 168 (by omega) (by omega)
    have e : (fun j => if 168 ≤ j ∧ j < 168 then 128 * pen + k else scr 1 X.1 j) = scr 1 X.1 := by
      funext j
      rw [if_neg (by omega)]
    rw [e] at key
    exact key
  · rw [if_neg hl] at hQ ⊢
    rw [if_neg (fun q => q rfl), yX11_pages_7 hm]
    exact hQ
theorem m_takesKey (hm : mOK h) (hin : s_in X) (hp : I 646 = pen) (hg : I 647 = prog) (hg2 : 0 ≤ prog ∧ prog ≤ 3) (hq : I 648 = p) (hq2 : 0 ≤ p ∧ p ≤ 20) (hQ : Q none (zM h (fup I 648 (s_press prog pen k X p).2) (mW A 0 (s_press prog pen k X p).1))) : zE 118 0 [some (.inr 29), some (.inl k)] [] (zM h I (mW A 0 X)) Q := by
  rw [yX11_takesKey_0 hm, hg]
  unfold s_press at hQ
  by_cases g0 : prog = 0
  · rw [if_neg (by omega), if_neg (by omega), if_neg (by omega), if_neg (by omega)] at hQ
    dsimp only at hQ
    rw [fup_id hq] at hQ
    rw [if_neg (fun q => q g0), yX11_takesKey_7 hm]
    refine m_echo (pen := pen) hm hin hp ?_
    simp only [Option.toList_none, List.nil_append]
    rw [yX11_takesKey_12 hm, yX11_takesKey_52 hm]
    exact hQ
  · rw [if_pos g0, yX11_takesKey_15 hm, hg]
    by_cases g1 : prog = 1
    · rw [if_neg (by omega), if_neg (by omega)] at hQ
      rw [if_neg (fun q => q g1), yX11_takesKey_23 hm]
      refine m_lines (pen := pen) hm hin hp ?_
      simp only [Option.toList_none, List.nil_append]
      rw [yX11_takesKey_28 hm, yX11_takesKey_52 hm]
      by_cases e13 : k = 13
      · rw [if_pos ⟨g1, e13⟩] at hQ
        rw [if_pos e13]
        dsimp only at hQ
        rw [fup_id hq] at hQ
        exact hQ
      · rw [if_neg (fun q => e13 q.2)] at hQ
        rw [if_neg e13]
        by_cases le : s_left k X
        · rw [if_pos ⟨g1, le⟩] at hQ
          rw [if_pos le]
          dsimp only at hQ
          rw [fup_id hq] at hQ
          exact hQ
        · rw [if_neg (fun q => le q.2)] at hQ
          rw [if_neg le]
          dsimp only at hQ
          rw [fup_id hq] at hQ
          exact hQ
    · rw [if_pos g1, yX11_takesKey_31 hm, hg]
      by_cases g2 : prog = 2
      · rw [if_pos g2] at hQ
        rw [if_neg (fun q => q g2), yX11_takesKey_39 hm]
        refine m_pass (pen := pen) (p := p) hm hin hp hq hq2 ?_
        simp only [Option.toList_none, List.nil_append]
        rw [yX11_takesKey_44 hm, yX11_takesKey_52 hm]
        exact hQ
      · rw [if_neg g2, if_pos (by omega)] at hQ
        rw [if_pos g2, yX11_takesKey_47 hm]
        refine m_pages (pen := pen) hm hp ?_
        simp only [Option.toList_none, List.nil_append]
        rw [yX11_takesKey_52 hm]
        dsimp only at hQ
        rw [fup_id hq] at hQ
        exact hQ
end mKeys
