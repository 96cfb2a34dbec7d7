/-! THE CLASS'S DIFF: the whole of it laid -/
def lStep (xs : List Int) (i : Nat) : Nat := if bt xs (i + 1) = 1 then 6 else 4 + 2 * (max (bt xs (i + 3) - bt xs (i + 2) + 1) 1).toNat
theorem lStep_ge (xs : List Int) (i : Nat) : 6 ≤ lStep xs i := by
  unfold lStep
  split <;> omega
theorem lStep_le {xs : List Int} (hb : byteL xs) (i : Nat) : lStep xs i ≤ 1000 := by
  have b2 := bt_r hb (i + 2)
  have b3 := bt_r hb (i + 3)
  unfold lStep
  split <;> omega
def lLoop (xs : List Int) : Nat → Nat → (Nat → Int) → (Nat → Int)
  | 0, _, C => C
  | d + 1, i, C => if xs.length < i + 8 then C else lLoop xs d (i + lStep xs i) (lR xs i C)
def lLay (xs : List Int) (x : sC) : sC :=
  (lLoop xs xs.length 11 (scr (bt xs 10).toNat x.1),
   if 0 ≤ bt xs 8 ∧ bt xs 8 < 8 ∧ 0 ≤ bt xs 9 ∧ bt xs 9 < 24 then (bt xs 8, bt xs 9) else x.2)
section zLay2
variable {h : zH} {s l m : Nat} {xs : List Int} {C : Nat → Int} {r c : Int} {Q : Option zV → zH → Prop}
theorem c_lay_e {l2 l3 l4 l5 : Option zV} (hL : isL h l m xs) (hs : sOK h s) (hn : zR h 192 l ≠ zR h 384 s)
    (hQ : Q none (zScr h s C (if 0 ≤ bt xs 8 ∧ bt xs 8 < 8 ∧ 0 ≤ bt xs 9 ∧ bt xs 9 < 24 then (bt xs 8, bt xs 9) else (r, c)).1 (if 0 ≤ bt xs 8 ∧ bt xs 8 < 8 ∧ 0 ≤ bt xs 9 ∧ bt xs 9 < 24 then (bt xs 8, bt xs 9) else (r, c)).2)) :
    zE 174 97 [some (.inr l), some (.inr s), l2, l3, l4, l5] [] (zScr h s C r c) Q := by
  have hL' := isL_Scr (C := C) (r := r) (c := c) hL hn
  have e8 : xs.getD 8 (-1) = bt xs 8 := rfl
  have e9 : xs.getD 9 (-1) = bt xs 9 := rfl
  rw [xX0_lay_97]
  refine ⟨hL.1.1, c_Lat' (i := 8) hL' ?_⟩
  simp only [Option.toList_some, List.cons_append, List.nil_append]
  rw [e8, xX0_lay_103]
  refine ⟨hL.1.1, c_Lat' (i := 9) hL' ?_⟩
  simp only [Option.toList_some, List.cons_append, List.nil_append]
  rw [e9, xX0_lay_111]
  refine c_isPlace ?_
  simp only [Option.toList_some, List.cons_append, List.nil_append]
  rw [xX0_lay_120]
  by_cases e : 0 ≤ bt xs 8 ∧ bt xs 8 < 8 ∧ 0 ≤ bt xs 9 ∧ bt xs 9 < 24
  · simp only [if_pos e] at hQ
    rw [if_pos e, if_neg (by decide), xX0_lay_123, zsI_Scr_r, xX0_lay_129, zsI_Scr_c, xX0_lay_135]
    exact ⟨hs.1, hs.1, hQ⟩
  · simp only [if_neg e] at hQ
    rw [if_neg e, if_pos rfl, xX0_lay_135]
    exact hQ
theorem c_lay_w (hL : isL h l m xs) (hb : byteL xs) (hs : sOK h s) (hn : zR h 192 l ≠ zR h 384 s) (hm : xs.length ≤ 100000) :
    ∀ (d i : Nat) (C : Nat → Int) (l4 l5 : Option zV), xs.length ≤ i + d → i ≤ 102000 →
    (Q none (zScr h s (lLoop xs d i C) (if 0 ≤ bt xs 8 ∧ bt xs 8 < 8 ∧ 0 ≤ bt xs 9 ∧ bt xs 9 < 24 then (bt xs 8, bt xs 9) else (r, c)).1 (if 0 ≤ bt xs 8 ∧ bt xs 8 < 8 ∧ 0 ≤ bt xs 9 ∧ bt xs 9 < 24 then (bt xs 8, bt xs 9) else (r, c)).2)) →
    zE 174 20 [some (.inr l), some (.inr s), some (.inl ((xs.length : Int) - 2)), some (.inl (i : Int)), l4, l5] [] (zScr h s C r c) Q := by
  intro d
  induction d with
  | zero =>
    intro i C l4 l5 hd hi hQ
    rw [xX0_lay_20, zw_eq (by omega) (by omega), if_pos (by omega)]
    exact c_lay_e hL hs hn hQ
  | succ d ih =>
    intro i C l4 l5 hd hi hQ
    unfold lLoop at hQ
    rw [xX0_lay_20, zw_eq (by omega) (by omega)]
    by_cases q : xs.length < i + 8
    · rw [if_pos q] at hQ
      rw [if_pos (by omega)]
      exact c_lay_e hL hs hn hQ
    · rw [if_neg q] at hQ
      rw [if_neg (by omega), xX0_lay_28, zw_eq (by omega) (by omega)]
      have hL' := isL_Scr (C := C) (r := r) (c := c) hL hn
      have e1 : xs.getD (i + 1) (-1) = bt xs (i + 1) := rfl
      have e2 : xs.getD (i + 2) (-1) = bt xs (i + 2) := rfl
      have e3 : xs.getD (i + 3) (-1) = bt xs (i + 3) := rfl
      have b2 := bt_r hb (i + 2)
      have b3 := bt_r hb (i + 3)
      have g1 := lStep_ge xs i
      have g2 := lStep_le hb i
      have fin : ∀ (u : Int), (u ≠ 0 ↔ bt xs (i + 1) = 1) → zE 174 44 [some (.inr l), some (.inr s), some (.inl ((xs.length : Int) - 2)), some (.inl (i : Int)), l4, l5] [.inl u] (zScr h s C r c) Q := by
        intro u hu
        rw [xX0_lay_44, zw_eq (by omega) (by omega)]
        refine ⟨hL.1.1, c_Lat' (i := i + 3) hL' ?_⟩
        simp only [Option.toList_some, List.cons_append, List.nil_append]
        rw [e3, xX0_lay_53, zw_eq (by omega) (by omega)]
        refine ⟨hL.1.1, c_Lat' (i := i + 2) hL' ?_⟩
        simp only [Option.toList_some, List.cons_append, List.nil_append]
        rw [e2, xX0_lay_60]
        refine c_layRow hL hb hs hn (by omega) ?_
        simp only [Option.toList_none, List.nil_append]
        rw [zw_eq (x := bt xs (i + 3) - bt xs (i + 2)) (by omega) (by omega), zw_eq (by omega) (by omega), xX0_lay_71]
        by_cases u0 : u = 0
        · have hne : ¬ bt xs (i + 1) = 1 := fun z => (hu.2 z) u0
          have eS : (i : Int) + (4 + 2 * max (bt xs (i + 3) - bt xs (i + 2) + 1) 1) = ((i + lStep xs i : Nat) : Int) := by
            unfold lStep
            rw [if_neg hne]
            omega
          rw [if_pos u0, xX0_lay_82, xX0_lay_90, xX0_lay_92]
          rw [zw_eq (x := 2 * max (bt xs (i + 3) - bt xs (i + 2) + 1) 1) (by omega) (by omega), zw_eq (x := 4 + 2 * max (bt xs (i + 3) - bt xs (i + 2) + 1) 1) (by omega) (by omega), zw_eq (by omega) (by omega), eS]
          exact ih _ _ _ _ (by omega) (by omega) hQ
        · have hne : bt xs (i + 1) = 1 := hu.1 u0
          have eS : (i : Int) + 6 = ((i + lStep xs i : Nat) : Int) := by
            unfold lStep
            rw [if_pos hne]
            omega
          rw [if_neg u0, xX0_lay_77, xX0_lay_92, zw_eq (by omega) (by omega), eS]
          exact ih _ _ _ _ (by omega) (by omega) hQ
      refine ⟨hL.1.1, c_Lat' (i := i + 1) hL' ?_⟩
      simp only [Option.toList_some, List.cons_append, List.nil_append]
      rw [e1, xX0_lay_35]
      by_cases u : bt xs (i + 1) = 1
      · rw [if_neg (fun z => z u), xX0_lay_39]
        exact fin 1 (by omega)
      · rw [if_pos u, xX0_lay_43]
        exact fin 0 (by omega)
theorem c_lay (hL : isL h l m xs) (hb : byteL xs) (hs : sOK h s) (hn : zR h 192 l ≠ zR h 384 s) (hm : xs.length ≤ 100000) (h10 : 0 ≤ bt xs 10 ∧ bt xs 10 ≤ 8)
    (hQ : Q none (zScr h s (lLay xs (C, r, c)).1 (lLay xs (C, r, c)).2.1 (lLay xs (C, r, c)).2.2)) {l2 l3 l4 l5 : Option zV} :
    zE 174 0 [some (.inr l), some (.inr s), l2, l3, l4, l5] [] (zScr h s C r c) Q := by
  have hL' := isL_Scr (C := C) (r := r) (c := c) hL hn
  have e10 : xs.getD 10 (-1) = bt xs 10 := rfl
  rw [xX0_lay_0]
  refine ⟨hL.1.1, c_Lat' (i := 10) hL' ?_⟩
  simp only [Option.toList_some, List.cons_append, List.nil_append]
  rw [e10, xX0_lay_7]
  refine ⟨hs.1, c_scrollBy hs h10 ?_⟩
  simp only [Option.toList_none, List.nil_append]
  rw [xX0_lay_10, zI_Scr_o (by decide) (by decide), hL.2.1, zw_eq (by omega) (by omega)]
  exact ⟨hL.1.1, c_lay_w hL hb hs hn hm xs.length 11 _ _ _ (by omega) (by omega) hQ⟩
end zLay2
