/-! THE CLASS'S GUESSES (the object at 10, its rows at 11) -/
/-- the last of the first n with p -/
def lst (p : Nat → Bool) : Nat → Option Nat
  | 0 => none
  | n + 1 => if p n then some n else lst p n
theorem lst_s (p : Nat → Bool) (n : Nat) : lst p (n + 1) = if p n then some n else lst p n := rfl
theorem lst_some {p : Nat → Bool} : ∀ {n j : Nat}, lst p n = some j → j < n ∧ p j = true ∧ ∀ k, j < k → k < n → p k = false
  | 0, j, h => by cases h
  | n + 1, j, h => by
    rw [lst_s] at h
    by_cases hp : p n = true
    · rw [if_pos hp] at h
      cases h
      exact ⟨by omega, hp, fun k h1 h2 => by omega⟩
    · rw [if_neg hp] at h
      obtain ⟨h1, h2, h3⟩ := lst_some h
      refine ⟨by omega, h2, fun k k1 k2 => ?_⟩
      by_cases hk : k = n
      · subst hk; simpa using hp
      · exact h3 k k1 (by omega)
theorem lst_none {p : Nat → Bool} : ∀ {n : Nat}, lst p n = none → ∀ k, k < n → p k = false
  | 0, h => fun k hk => by omega
  | n + 1, h => by
    rw [lst_s] at h
    by_cases hp : p n = true
    · rw [if_pos hp] at h; cases h
    · rw [if_neg hp] at h
      intro k hk
      by_cases hkn : k = n
      · subst hkn; simpa using hp
      · exact lst_none h k (by omega)
/-- a guess: key, age, cell, letter, row and column behind it -/
def gIs (h : zH) (o : Nat) (q : Nat → Int) : Prop := (zK h o).1 = 11 ∧ zI h 64 o = q 0 ∧ zI h 65 o = q 1 ∧ zI h 66 o = (if q 2 < 0 then -1 else q 2 / 24) ∧ zI h 67 o = (if q 2 < 0 then -1 else q 2 % 24) ∧ zI h 68 o = q 3 ∧ zI h 69 o = q 4 ∧ zI h 70 o = q 5
/-- the rows: each guess there, or nothing, or a used one; no row twice -/
def gRows (h : zH) : Prop := (zK h 10).1 = 12 ∧ zR h 128 10 = 11 ∧ zK h 11 = (4, 60) ∧ (zK h 0).1 = 0 ∧ (∀ i, i < 60 → zB h 11 i ≠ 0 → (zK h (zB h 11 i)).1 = 11) ∧ ∀ i j, i < 60 → j < 60 → zB h 11 i ≠ 0 → zB h 11 i = zB h 11 j → i = j
def rG (h : zH) (n : Nat) (g : Nat → Nat → Int) : Prop := gRows h ∧ zI h 129 10 = n ∧ n ≤ 60 ∧ ∀ i, i < n → gIs h (zB h 11 i) (g i)
section zGsM
variable {h : zH} {n : Nat} {g : Nat → Nat → Int} {Q : Option zV → zH → Prop}
theorem rG.nz (hG : rG h n g) {i : Nat} (hi : i < n) : zB h 11 i ≠ 0 := by
  intro e
  have h1 := (hG.2.2.2 i hi).1
  rw [e, hG.1.2.2.2.1] at h1
  cases h1
theorem c_GFind {i : Int} (hG : rG h n g) (hQ : Q (some (.inr (if 0 ≤ i ∧ i < n then zB h 11 i.toNat else 0))) h) : zE 25 0 [some (.inr 10), some (.inl i)] [] h Q := by
  obtain ⟨⟨r1, r2, r3, r4, r5, r6⟩, s1, s2, s3⟩ := hG
  simp only [xX3_find_0, xX3_find_4, xX3_find_12, xX3_find_18, xX3_find_27, xX3_find_28, r1, r2, r3, s1, true_and]
  by_cases hi : 0 ≤ i ∧ i < (n : Int)
  · rw [if_neg (by omega), if_neg (by omega), if_neg (by omega)]
    rw [if_pos hi] at hQ
    exact ⟨⟨by omega, by omega⟩, ⟨by omega, by omega⟩, hQ⟩
  · rw [if_neg hi] at hQ
    by_cases h0 : i < 0
    · rw [if_pos h0]; exact hQ
    · rw [if_neg h0, if_pos (by omega)]; exact hQ
/-- whether a guess is laid on: all of them, or those that are shown -/
def laid (only : Int) (conf : Int) (q : Nat → Int) : Bool := decide (only = 0 ∨ q 1 ≤ conf)
theorem c_GLaid {only : Int} {i : Nat} (hG : rG h n g) (hi : i < n) (hQ : Q (some (.inl (if laid only (zI h 131 10) (g i) = true then 1 else 0))) h) : zE 26 0 [some (.inr 10), some (.inr (zB h 11 i)), some (.inl only)] [] h Q := by
  have hnz := hG.nz hi
  obtain ⟨⟨r1, r2, r3, r4, r5, r6⟩, s1, s2, s3⟩ := hG
  obtain ⟨g1, g2, g3, g4, g5, g6, g7, g8⟩ := s3 i hi
  simp only [xX3_isLaid_0, xX3_isLaid_4, xX3_isLaid_8, xX3_isLaid_19, xX3_isLaid_23, xX3_isLaid_24, r1, g1, g3, true_and]
  rw [if_neg hnz]
  unfold laid at hQ
  by_cases h0 : only = 0
  · rw [if_pos (decide_eq_true (Or.inl h0))] at hQ
    rw [if_pos h0]
    exact ⟨Or.inr trivial, hQ⟩
  · rw [if_neg h0]
    by_cases h1 : g i 1 ≤ zI h 131 10
    · rw [if_pos (decide_eq_true (Or.inr h1))] at hQ
      rw [if_neg (by omega)]
      exact ⟨Or.inr trivial, hQ⟩
    · rw [if_neg (by rw [decide_eq_true_eq]; omega)] at hQ
      rw [if_pos (by omega)]
      exact ⟨Or.inl trivial, hQ⟩
theorem c_GLast_l {only : Int} (hG : rG h n g) : ∀ (d : Nat) (l3 : Option zV), d ≤ n → Q (some (.inr (match lst (fun i => laid only (zI h 131 10) (g i)) d with | some j => zB h 11 j | none => 0))) h → zE 27 7 [some (.inr 10), some (.inl only), some (.inl ((d : Int) - 1)), l3] [] h Q := by
  obtain ⟨⟨r1, r2, r3, r4, r5, r6⟩, s1, s2, s3⟩ := id hG
  intro d
  induction d with
  | zero =>
    intro l3 hd hQ
    rw [xX3_lastLaid_7, if_pos (by omega), xX3_lastLaid_34]
    exact hQ
  | succ d ih =>
    intro l3 hd hQ
    rw [show ((d + 1 : Nat) : Int) - 1 = (d : Int) by omega, xX3_lastLaid_7, if_neg (by omega), xX3_lastLaid_11]
    refine ⟨r1, c_GFind hG ?_⟩
    rw [if_pos (by omega), Int.toNat_natCast]
    simp only [Option.toList_some, List.cons_append, List.nil_append]
    rw [xX3_lastLaid_16]
    refine ⟨r1, c_GLaid hG (by omega) ?_⟩
    simp only [Option.toList_some, List.cons_append, List.nil_append]
    rw [xX3_lastLaid_23]
    rw [lst_s] at hQ
    by_cases hp : laid only (zI h 131 10) (g d) = true
    · rw [if_pos hp] at hQ
      rw [if_pos hp, if_neg (by decide), xX3_lastLaid_26]
      exact hQ
    · rw [if_neg hp] at hQ
      rw [if_neg hp, if_pos rfl, xX3_lastLaid_28, zw_eq (by omega) (by omega)]
      have := ih (some (.inr (zB h 11 d))) (by omega) hQ
      rw [show (d : Int) + -1 = (d : Int) - 1 by omega]
      exact this
theorem c_GLast {only : Int} (hG : rG h n g) (hQ : Q (some (.inr (match lst (fun i => laid only (zI h 131 10) (g i)) n with | some j => zB h 11 j | none => 0))) h) : zE 27 0 [some (.inr 10), some (.inl only), none, none] [] h Q := by
  obtain ⟨⟨r1, r2, r3, r4, r5, r6⟩, s1, s2, s3⟩ := id hG
  rw [xX3_lastLaid_0, s1, zw_eq (by omega) (by omega)]
  exact ⟨r1, c_GLast_l hG n none (Nat.le_refl _) hQ⟩
theorem c_GSign_l {only row col : Int} (hG : rG h n g) (hrc : 0 ≤ row ∧ row < 8 ∧ 0 ≤ col ∧ col < 24) : ∀ (d : Nat) (l5 : Option zV), d ≤ n → Q (some (.inl (match lst (fun i => laid only (zI h 131 10) (g i) && decide (g i 2 = 24 * row + col)) d with | some j => g j 3 | none => -1))) h → zE 28 8 [some (.inr 10), some (.inl row), some (.inl col), some (.inl only), some (.inl ((d : Int) - 1)), l5] [] h Q := by
  obtain ⟨⟨r1, r2, r3, r4, r5, r6⟩, s1, s2, s3⟩ := id hG
  intro d
  induction d with
  | zero =>
    intro l5 hd hQ
    rw [xX3_signAt_8, if_pos (by omega), xX3_signAt_61]
    exact hQ
  | succ d ih =>
    intro l5 hd hQ
    obtain ⟨g1, g2, g3, g4, g5, g6, g7, g8⟩ := s3 d (by omega)
    rw [show ((d + 1 : Nat) : Int) - 1 = (d : Int) by omega, xX3_signAt_8, if_neg (by omega), xX3_signAt_13]
    refine ⟨r1, c_GFind hG ?_⟩
    rw [if_pos (by omega), Int.toNat_natCast]
    simp only [Option.toList_some, List.cons_append, List.nil_append]
    rw [xX3_signAt_19]
    refine ⟨r1, c_GLaid hG (by omega) ?_⟩
    simp only [Option.toList_some, List.cons_append, List.nil_append]
    rw [xX3_signAt_28]
    rw [lst_s] at hQ
    have hno : (laid only (zI h 131 10) (g d) && decide (g d 2 = 24 * row + col)) = false → zE 28 55 [some (.inr 10), some (.inl row), some (.inl col), some (.inl only), some (.inl (d : Int)), some (.inr (zB h 11 d))] [] h Q := by
      intro hp
      rw [hp, if_neg (by decide)] at hQ
      rw [xX3_signAt_55, zw_eq (by omega) (by omega), show (d : Int) + -1 = (d : Int) - 1 by omega]
      exact ih (some (.inr (zB h 11 d))) (by omega) hQ
    by_cases hp : laid only (zI h 131 10) (g d) = true
    · rw [if_pos hp, if_neg (by decide), xX3_signAt_31, g1, g4]
      refine ⟨rfl, ?_⟩
      by_cases hr : (if g d 2 < 0 then -1 else g d 2 / 24) = row
      · rw [if_neg (fun q => q hr), xX3_signAt_40, g1, g5]
        refine ⟨rfl, ?_⟩
        have h02 : ¬ g d 2 < 0 := by
          intro q
          rw [if_pos q] at hr
          omega
        rw [if_neg h02] at hr ⊢
        by_cases hc : g d 2 % 24 = col
        · rw [if_neg (fun q => q hc), xX3_signAt_49, g1, g6]
          have hq : (laid only (zI h 131 10) (g d) && decide (g d 2 = 24 * row + col)) = true := by
            rw [hp, Bool.true_and, decide_eq_true_eq]
            omega
          rw [hq, if_pos rfl] at hQ
          exact ⟨rfl, hQ⟩
        · rw [if_pos hc]
          refine hno ?_
          rw [hp, Bool.true_and, decide_eq_false_iff_not]
          omega
      · rw [if_pos hr]
        refine hno ?_
        rw [hp, Bool.true_and, decide_eq_false_iff_not]
        intro q
        apply hr
        rw [if_neg (by omega)]
        omega
    · rw [if_neg hp, if_pos rfl]
      refine hno ?_
      rw [Bool.eq_false_iff.mpr hp, Bool.false_and]
theorem c_GSign {only row col : Int} (hG : rG h n g) (hrc : 0 ≤ row ∧ row < 8 ∧ 0 ≤ col ∧ col < 24) (hQ : Q (some (.inl (match lst (fun i => laid only (zI h 131 10) (g i) && decide (g i 2 = 24 * row + col)) n with | some j => g j 3 | none => -1))) h) : zE 28 0 [some (.inr 10), some (.inl row), some (.inl col), some (.inl only), none, none] [] h Q := by
  obtain ⟨⟨r1, r2, r3, r4, r5, r6⟩, s1, s2, s3⟩ := id hG
  rw [xX3_signAt_0, s1, zw_eq (by omega) (by omega)]
  exact ⟨r1, c_GSign_l hG hrc n none (Nat.le_refl _) hQ⟩
/-- what a guess tells -/
def gRep (conf : Int) (q : Nat → Int) (what : Int) : Int :=
  if what = 0 then q 0 else if what = 1 then q 1 else if what = 2 then (if q 2 < 0 then -1 else q 2 / 24) else if what = 3 then (if q 2 < 0 then -1 else q 2 % 24) else if what = 4 then q 3 else if what = 5 then (if q 1 ≤ conf then 1 else 0) else if what = 6 then q 4 else if what = 7 then q 5 else -2
theorem c_GReport {i what : Int} (hG : rG h n g) (hQ : Q (some (.inl (if 0 ≤ i ∧ i < n then gRep (zI h 131 10) (g i.toNat) what else -2))) h) : zE 29 0 [some (.inr 10), some (.inl i), some (.inl what), none] [] h Q := by
  obtain ⟨⟨r1, r2, r3, r4, r5, r6⟩, s1, s2, s3⟩ := id hG
  rw [xX3_report_0]
  refine ⟨r1, c_GFind hG ?_⟩
  simp only [Option.toList_some, List.cons_append, List.nil_append]
  rw [xX3_report_5]
  by_cases hi : 0 ≤ i ∧ i < (n : Int)
  · rw [if_pos hi] at hQ ⊢
    have hnz := hG.nz (i := i.toNat) (by omega)
    obtain ⟨g1, g2, g3, g4, g5, g6, g7, g8⟩ := s3 i.toNat (by omega)
    rw [if_pos hnz, xX3_report_13]
    unfold gRep at hQ
    by_cases hw : what < 0 ∨ 7 < what
    · rw [if_pos hw, xX3_report_110]
      rw [if_neg (by omega), if_neg (by omega), if_neg (by omega), if_neg (by omega), if_neg (by omega), if_neg (by omega), if_neg (by omega), if_neg (by omega)] at hQ
      exact hQ
    · rw [if_neg hw]
      have : what = 0 ∨ what = 1 ∨ what = 2 ∨ what = 3 ∨ what = 4 ∨ what = 5 ∨ what = 6 ∨ what = 7 := by omega
      rcases this with rfl | rfl | rfl | rfl | rfl | rfl | rfl | rfl
      · show zE 29 60 _ _ _ _
        rw [xX3_report_60, g2]; exact ⟨g1, hQ⟩
      · show zE 29 65 _ _ _ _
        rw [xX3_report_65, g3]; exact ⟨g1, hQ⟩
      · show zE 29 70 _ _ _ _
        rw [xX3_report_70, g4]; exact ⟨g1, hQ⟩
      · show zE 29 75 _ _ _ _
        rw [xX3_report_75, g5]; exact ⟨g1, hQ⟩
      · show zE 29 80 _ _ _ _
        rw [xX3_report_80, g6]; exact ⟨g1, hQ⟩
      · show zE 29 85 _ _ _ _
        rw [xX3_report_85]
        refine ⟨r1, c_GLaid hG (by omega) ?_⟩
        simp only [Option.toList_some, List.cons_append, List.nil_append]
        simp only [xX3_report_91, xX3_report_94, xX3_report_98, xX3_report_99]
        by_cases hc : g i.toNat 1 ≤ zI h 131 10
        · have e : laid 1 (zI h 131 10) (g i.toNat) = true := decide_eq_true (Or.inr hc)
          rw [if_pos e, if_neg (by decide)]
          have hQ : Q (some (.inl (if g i.toNat 1 ≤ zI h 131 10 then 1 else 0))) h := hQ
          rw [if_pos hc] at hQ
          exact hQ
        · have e : ¬ laid 1 (zI h 131 10) (g i.toNat) = true := by
            unfold laid
            rw [decide_eq_true_eq]
            omega
          rw [if_neg e, if_pos rfl]
          have hQ : Q (some (.inl (if g i.toNat 1 ≤ zI h 131 10 then 1 else 0))) h := hQ
          rw [if_neg hc] at hQ
          exact hQ
      · show zE 29 100 _ _ _ _
        rw [xX3_report_100, g7]; exact ⟨g1, hQ⟩
      · show zE 29 105 _ _ _ _
        rw [xX3_report_105, g8]; exact ⟨g1, hQ⟩
  · rw [if_neg hi] at hQ ⊢
    rw [if_neg (fun q => q rfl), xX3_report_10]
    exact hQ
end zGsM
