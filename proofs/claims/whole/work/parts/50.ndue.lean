/-! THE CLASS'S NEAR END: due -/
section zNdue
variable {h : zH} {a : Nat} {Q : Option zV → zH → Prop}
def nDue (ck fr ag la ty tl ow kn : Int) : Prop := (fr ≤ ck - la ∧ (ty ≠ tl ∨ ow ≠ 0)) ∨ (ag ≤ ck - la ∧ kn < ty) ∨ 4 * ag ≤ ck - la
theorem c_NisDue {ck fr ag la ty tl ow kn : Int} (ha : (zK h a).1 = 15) (h1 : zI h 327 a = la) (h2 : zI h 324 a = ty) (h3 : zI h 326 a = tl) (h4 : zI h 329 a = ow) (h5 : zI h 325 a = kn)
    (hck : 0 ≤ ck ∧ ck ≤ 1000000 ∧ 0 ≤ la ∧ la ≤ 1000000) (hag : 0 ≤ ag ∧ ag ≤ 100000000)
    (hQ : ∀ b : Int, (b = 0 ∨ b = 1) → (b = 1 ↔ nDue ck fr ag la ty tl ow kn) → Q (some (.inl b)) h) {l4 : Option zV} :
    zE 47 0 [some (.inr a), some (.inl ck), some (.inl fr), some (.inl ag), l4] [] h Q := by
  have q0 := hQ 0 (Or.inl rfl)
  have q1 := hQ 1 (Or.inr rfl)
  unfold nDue at q0 q1
  rw [xX6_isDue_0, h1, zw_eq (by omega) (by omega)]
  refine ⟨ha, ?_⟩
  have e34 : ¬ (fr ≤ ck - la ∧ (ty ≠ tl ∨ ow ≠ 0)) → zE 47 34 [some (.inr a), some (.inl ck), some (.inl fr), some (.inl ag), some (.inl (ck - la))] [] h Q := by
    intro no
    have e51 : ¬ (ag ≤ ck - la ∧ kn < ty) → zE 47 51 [some (.inr a), some (.inl ck), some (.inl fr), some (.inl ag), some (.inl (ck - la))] [] h Q := by
      intro n2
      rw [xX6_isDue_51, zw_eq (by omega) (by omega)]
      by_cases g : ck - la < 4 * ag
      · rw [if_pos g, xX6_isDue_63, xX6_isDue_64]
        exact ⟨Or.inl rfl, q0 (by omega)⟩
      · rw [if_neg g, xX6_isDue_59, xX6_isDue_64]
        exact ⟨Or.inr rfl, q1 (by omega)⟩
    rw [xX6_isDue_34]
    by_cases g : ck - la < ag
    · rw [if_pos g]
      exact e51 (by omega)
    · rw [if_neg g, xX6_isDue_40, h5, h2]
      refine ⟨ha, ha, ?_⟩
      by_cases g2 : kn < ty
      · rw [if_pos g2, xX6_isDue_59, xX6_isDue_64]
        exact ⟨Or.inr rfl, q1 (by omega)⟩
      · rw [if_neg g2]
        exact e51 (by omega)
  by_cases f : ck - la < fr
  · rw [if_pos f]
    exact e34 (by omega)
  · rw [if_neg f, xX6_isDue_14, h2, h3]
    refine ⟨ha, ha, ?_⟩
    by_cases g : ty = tl
    · rw [if_neg (fun z => z g), xX6_isDue_25, h4]
      refine ⟨ha, ?_⟩
      by_cases o : ow = 0
      · rw [if_pos o]
        exact e34 (by omega)
      · rw [if_neg o, xX6_isDue_32]
        exact ⟨Or.inr rfl, q1 (by omega)⟩
    · rw [if_pos g, xX6_isDue_32]
      exact ⟨Or.inr rfl, q1 (by omega)⟩
end zNdue
