/-! THE CLASS'S FAR END: the start of take -/
section zTake2
variable {h : zH} {a l m : Nat} {xs : List Int} {Q : Option zV → zH → Prop}
theorem c_take_s {tk : Int} (ha : (zK h a).1 = 10) (h1 : zI h 5 a = tk) (hL : isL h l m xs) (hB : byteL xs) (hlen : 10 ≤ xs.length)
    (q3 : ¬ wholeL 75 xs → Q (some (.inl 3)) h) (q4 : wholeL 75 xs → ¬ num xs 2 ≤ tk → Q (some (.inl 4)) h)
    (q5 : wholeL 75 xs → num xs 2 ≤ tk → zE 6 56 [some (.inr a), some (.inr l), some (.inl (num xs 2)), some (.inl (num xs 4)), some (.inl tk)] [] (if num xs 4 < tk then h else zsI h 9 a (bt xs 1)) Q) {l2 l3 l4 : Option zV} :
    zE 6 0 [some (.inr a), some (.inr l), l2, l3, l4] [] h Q := by
  rw [xX1_take_0]
  refine ⟨hL.1.1, c_LisWhole hL hB hlen ?_⟩
  intro b hb hw
  simp only [Option.toList_some, List.cons_append, List.nil_append]
  rw [xX1_take_6]
  by_cases w : wholeL 75 xs
  · have b1 := hw.2 w
    rw [if_pos (by omega), xX1_take_11]
    refine ⟨hL.1.1, c_LnumberAt (i := 2) hL hB (by omega) ?_⟩
    simp only [Option.toList_some, List.cons_append, List.nil_append]
    rw [xX1_take_16]
    refine ⟨hL.1.1, c_LnumberAt (i := 4) hL hB (by omega) ?_⟩
    simp only [Option.toList_some, List.cons_append, List.nil_append]
    rw [xX1_take_22, h1]
    refine ⟨ha, ?_⟩
    by_cases g : num xs 2 ≤ tk
    · have q := q5 w g
      rw [if_pos g, xX1_take_33, h1]
      refine ⟨ha, ?_⟩
      by_cases f : num xs 4 < tk
      · rw [if_pos f] at q
        rw [if_pos f, xX1_take_50, h1]
        exact ⟨ha, q⟩
      · rw [if_neg f] at q
        rw [if_neg f, xX1_take_41]
        refine ⟨hL.1.1, c_Lat' (i := 1) hL ?_⟩
        simp only [Option.toList_some, List.cons_append, List.nil_append]
        rw [xX1_take_47, xX1_take_50, zI_ne (by decide), h1]
        exact ⟨ha, ha, q⟩
    · rw [if_neg g, xX1_take_31]
      exact q4 w g
  · have b1 : ¬ b = 1 := fun e => w (hw.1 e)
    rw [if_neg (by omega), xX1_take_9]
    exact q3 w
end zTake2
