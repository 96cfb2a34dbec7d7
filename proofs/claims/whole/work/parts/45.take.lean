/-! THE CLASS'S FAR END: the end of take -/
section zTake
variable {h : zH} {a so ra n l m : Nat} {xs : List Int} {Q : Option zV → zH → Prop}
theorem c_take_o {kn ow mx : Int} (ha : (zK h a).1 = 10) (h1 : zI h 10 a = ow) (h2 : zI h 5 a = mx) (hQ : Q (some (.inl 5)) (zsI h 10 a (if ow ≠ 0 ∨ kn < mx then 1 else 0))) {l1 l3 l4 : Option zV} :
    zE 6 105 [some (.inr a), l1, some (.inl kn), l3, l4] [] h Q := by
  rw [xX1_take_105, h1]
  refine ⟨ha, ?_⟩
  by_cases e : ow = 0
  · rw [if_neg (fun z => z e), xX1_take_113, h2]
    refine ⟨ha, ?_⟩
    by_cases q : mx ≤ kn
    · rw [if_neg (by omega)] at hQ
      rw [if_pos q, xX1_take_125, xX1_take_126, xX1_take_129]
      exact ⟨ha, Or.inl rfl, hQ⟩
    · rw [if_pos (by omega)] at hQ
      rw [if_neg q, xX1_take_121, xX1_take_126, xX1_take_129]
      exact ⟨ha, Or.inr rfl, hQ⟩
  · rw [if_pos (Or.inl e)] at hQ
    rw [if_pos e, xX1_take_121, xX1_take_126, xX1_take_129]
    exact ⟨ha, Or.inr rfl, hQ⟩
theorem c_take_t {kn ty tk su ow : Int} (ha : (zK h a).1 = 10) (hS : zR h 1 a = so) (hr : rsOK h so ra n) (h1 : zI h 5 a = tk) (h2 : zI h 6 a = su) (h3 : zI h 10 a = ow)
    (hL : isL h l m xs) (hB : byteL xs) (hlen : 7 < xs.length)
    (hN : (num xs 6 ≤ su ∨ fnd (fun i => zI h 449 (zB h ra i)) (num xs 6) n 0 = none) → Q (some (.inl 5)) (zsI (zsI h 5 a (max tk ty)) 10 a (if ow ≠ 0 ∨ kn < max tk ty then 1 else 0)))
    (hY : ¬ num xs 6 ≤ su → fnd (fun i => zI h 449 (zB h ra i)) (num xs 6) n 0 ≠ none → Q (some (.inl 5)) (zsI (zsI (zBs (zsI (zsI h 5 a (max tk ty)) 6 a (num xs 6)) ra (rotm (zB h ra) (gon (fun i => zI h 449 (zB h ra i)) (num xs 6) (n - 1) 0) n)) 514 so (n - gon (fun i => zI h 449 (zB h ra i)) (num xs 6) (n - 1) 0 : Nat)) 10 a (if ow ≠ 0 ∨ kn < max tk ty then 1 else 0))) {l4 : Option zV} :
    zE 6 83 [some (.inr a), some (.inr l), some (.inl kn), some (.inl ty), l4] [] h Q := by
  rw [xX1_take_83, h1, xX1_take_92, xX1_take_95]
  have hL' : isL (zsI h 5 a (max tk ty)) l m xs := isL_sI hL (by decide)
  refine ⟨ha, ha, hL.1.1, c_LnumberAt (i := 6) hL' hB hlen ?_⟩
  simp only [Option.toList_some, List.cons_append, List.nil_append]
  rw [xX1_take_102]
  have eN : (fun i => zI (zsI h 5 a (max tk ty)) 449 (zB (zsI h 5 a (max tk ty)) ra i)) = fun i => zI h 449 (zB h ra i) := funext fun i => zI_ne (by decide)
  refine ⟨ha, c_believe (su := su) ha hS (rsOK_sI hr (by decide)) ((zI_ne (by decide)).trans h2) ?_ ?_⟩
  · rw [eN]
    intro q
    simp only [Option.toList_none, List.nil_append]
    refine c_take_o (ow := ow) (mx := max tk ty) ?_ ?_ ?_ ?_
    · exact ha
    · exact (zI_ne (by decide)).trans h3
    · exact zI_sI_s
    · exact hN q
  · rw [eN]
    intro q1 q2
    simp only [Option.toList_none, List.nil_append]
    refine c_take_o (ow := ow) (mx := max tk ty) ?_ ?_ ?_ ?_
    · exact ha
    · rw [zI_ne (by decide)]
      show zI (zsI (zsI h 5 a (max tk ty)) 6 a (num xs 6)) 10 a = ow
      rw [zI_ne (by decide), zI_ne (by decide)]
      exact h3
    · rw [zI_ne (by decide)]
      show zI (zsI (zsI h 5 a (max tk ty)) 6 a (num xs 6)) 5 a = max tk ty
      rw [zI_ne (by decide), zI_sI_s]
    · exact hY q1 q2
end zTake
