/-! THE CLASS'S FAR END: keepState, down to States.keep -/
section zKeepSt
variable {h : zH} {a so ra n t s : Nat} {Q : Option zV → zH → Prop}
def likeS (h : zH) (s o : Nat) : Prop := (∀ k, k < 192 → zA h (zR h 384 s) k = zA h (zR h 384 o) k) ∧ zI h 385 s = zI h 385 o ∧ zI h 386 s = zI h 386 o
theorem c_keepState {tk nu : Int} (ha : (zK h a).1 = 10) (hR : zR h 0 a = s) (hs : sOK h s) (hS : zR h 1 a = so) (hr : rsOK h so ra n) (ht : zR h 513 so = t) (hkt : (zK h t).1 = 17) (hst : sOK h (zR h 448 t))
    (h1 : zI h 5 a = tk) (h2 : zI h 449 t = nu) (hnu : 0 ≤ nu ∧ nu ≤ 100000)
    (hN : ((tk = zI h 450 t ∧ likeS h s (zR h 448 t)) ∨ ¬ n < 32) → Q none h)
    (hY : ¬ (tk = zI h 450 t ∧ likeS h s (zR h 448 t)) → n < 32 → zE 71 0 [some (.inr so), some (.inl (nu + 1)), some (.inl tk), some (.inr s), none] [] h (fun r h' => r = none ∧ Q none h')) {l1 l2 : Option zV} :
    zE 3 0 [some (.inr a), l1, l2] [] h Q := by
  have e33 : ∀ l2 : Option zV, ¬ (tk = zI h 450 t ∧ likeS h s (zR h 448 t)) → zE 3 33 [some (.inr a), some (.inr t), l2] [] h Q := by
    intro l2 no
    rw [xX1_keepState_33, xX1_keepState_38, if_neg (by decide), xX1_keepState_43, hS]
    refine ⟨ha, hr.1, c_SFull hr ?_⟩
    simp only [Option.toList_some, List.cons_append, List.nil_append]
    rw [xX1_keepState_50]
    by_cases q : n < 32
    · rw [if_pos q, if_neg (by decide), xX1_keepState_53, hS, h1, h2, hR, zw_eq (by omega) (by omega)]
      refine ⟨ha, hkt, ha, ha, hr.1, (hY no q).mono ?_⟩
      rintro r h' ⟨rfl, q'⟩
      simp only [Option.toList_none, List.nil_append]
      rw [xX1_keepState_74]
      exact q'
    · rw [if_neg q, if_pos (by decide), xX1_keepState_74]
      exact hN (Or.inr q)
  rw [xX1_keepState_0, hS, ht, h1]
  refine ⟨ha, hr.1, ha, hkt, ?_⟩
  by_cases g : tk = zI h 450 t
  · rw [if_neg (fun z => z g), xX1_keepState_19, hR]
    refine ⟨ha, hkt, hs.1, c_isLike hs hst ?_⟩
    intro b hb hl
    simp only [Option.toList_some, List.cons_append, List.nil_append]
    rw [xX1_keepState_30]
    by_cases b1 : b = 1
    · rw [if_pos (by omega), xX1_keepState_37, xX1_keepState_38, if_pos rfl, xX1_keepState_74]
      exact hN (Or.inl ⟨g, hl.1 b1⟩)
    · rw [if_neg (by omega)]
      exact e33 _ (fun z => b1 (hl.2 z.2))
  · rw [if_pos g]
    exact e33 _ (fun z => g z.1)
end zKeepSt
