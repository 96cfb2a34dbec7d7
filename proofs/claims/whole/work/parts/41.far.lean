/-! THE CLASS'S FAR END: due, believe -/
section zFar
variable {h : zH} {a so ra n t : Nat} {Q : Option zV → zH → Prop}
def fDue (ck fr ag la nu nl ow su : Int) : Prop := (fr ≤ ck - la ∧ (nu ≠ nl ∨ ow ≠ 0)) ∨ (ag ≤ ck - la ∧ su < nu)
theorem c_FisDue {ck fr ag la nu nl ow su : Int} (ha : (zK h a).1 = 10) (hs : zR h 1 a = so) (hk : (zK h so).1 = 18) (ht : zR h 513 so = t) (hkt : (zK h t).1 = 17)
    (h1 : zI h 8 a = la) (h2 : zI h 449 t = nu) (h3 : zI h 7 a = nl) (h4 : zI h 10 a = ow) (h5 : zI h 6 a = su)
    (hck : 0 ≤ ck ∧ ck ≤ 1000000 ∧ 0 ≤ la ∧ la ≤ 1000000)
    (hQ : ∀ b : Int, (b = 0 ∨ b = 1) → (b = 1 ↔ fDue ck fr ag la nu nl ow su) → Q (some (.inl b)) h) {l4 l5 : Option zV} :
    zE 4 0 [some (.inr a), some (.inl ck), some (.inl fr), some (.inl ag), l4, l5] [] h Q := by
  have q0 := hQ 0 (Or.inl rfl)
  have q1 := hQ 1 (Or.inr rfl)
  unfold fDue at q0 q1
  rw [xX1_isDue_0, hs, ht, h1, h2, zw_eq (by omega) (by omega)]
  refine ⟨ha, ha, hk, hkt, ?_⟩
  have e44 : ¬ (fr ≤ ck - la ∧ (nu ≠ nl ∨ ow ≠ 0)) → zE 4 44 [some (.inr a), some (.inl ck), some (.inl fr), some (.inl ag), some (.inl (ck - la)), some (.inl nu)] [] h Q := by
    intro no
    rw [xX1_isDue_44]
    by_cases g : ck - la < ag
    · rw [if_pos g, xX1_isDue_63, xX1_isDue_64]
      exact ⟨Or.inl rfl, q0 (by omega)⟩
    · rw [if_neg g, xX1_isDue_50, h5]
      refine ⟨ha, ?_⟩
      by_cases g2 : nu ≤ su
      · rw [if_pos g2, xX1_isDue_63, xX1_isDue_64]
        exact ⟨Or.inl rfl, q0 (by omega)⟩
      · rw [if_neg g2, xX1_isDue_59, xX1_isDue_64]
        exact ⟨Or.inr rfl, q1 (by omega)⟩
  by_cases f : ck - la < fr
  · rw [if_pos f]
    exact e44 (by omega)
  · rw [if_neg f, xX1_isDue_26, h3]
    refine ⟨ha, ?_⟩
    by_cases g : nu = nl
    · rw [if_neg (fun z => z g), xX1_isDue_35, h4]
      refine ⟨ha, ?_⟩
      by_cases o : ow = 0
      · rw [if_pos o]
        exact e44 (by omega)
      · rw [if_neg o, xX1_isDue_42]
        exact ⟨Or.inr rfl, q1 (by omega)⟩
    · rw [if_pos g, xX1_isDue_42]
      exact ⟨Or.inr rfl, q1 (by omega)⟩
theorem rsOK_sI {f x : Nat} {v : Int} (hr : rsOK h so ra n) (hf : f ≠ 514) : rsOK (zsI h f x v) so ra n := by
  obtain ⟨r1, r2, r3, r4, r5⟩ := hr
  exact ⟨r1, r2, r3, (zI_ne (Ne.symm hf)).trans r4, r5⟩
theorem c_believe {v su : Int} (ha : (zK h a).1 = 10) (hs : zR h 1 a = so) (hr : rsOK h so ra n) (h5 : zI h 6 a = su)
    (hN : (v ≤ su ∨ fnd (fun i => zI h 449 (zB h ra i)) v n 0 = none) → Q none h)
    (hY : ¬ v ≤ su → fnd (fun i => zI h 449 (zB h ra i)) v n 0 ≠ none → Q none (zsI (zBs (zsI h 6 a v) ra (rotm (zB h ra) (gon (fun i => zI h 449 (zB h ra i)) v (n - 1) 0) n)) 514 so (n - gon (fun i => zI h 449 (zB h ra i)) v (n - 1) 0 : Nat))) :
    zE 7 0 [some (.inr a), some (.inl v)] [] h Q := by
  rw [xX1_believe_0, h5]
  refine ⟨ha, ?_⟩
  by_cases g : v ≤ su
  · rw [if_pos g, xX1_believe_32]
    exact hN (Or.inl g)
  · rw [if_neg g, xX1_believe_8, hs]
    refine ⟨ha, hr.1, c_SFindN hr ?_⟩
    simp only [Option.toList_some, List.cons_append, List.nil_append]
    rw [xX1_believe_16]
    cases hF : fnd (fun i => zI h 449 (zB h ra i)) v n 0 with
    | none =>
      rw [if_pos rfl, xX1_believe_32]
      exact hN (Or.inr hF)
    | some j =>
      have hj := fnd_some hF
      have hz := hr.nz (i := j) (by omega)
      rw [if_neg hz, xX1_believe_19, xX1_believe_24]
      have hs' : zR (zsI h 6 a v) 1 a = so := hs
      rw [hs']
      refine ⟨ha, ha, hr.1, c_SDrop (rsOK_sI hr (by decide)) ?_⟩
      simp only [Option.toList_none, List.nil_append]
      rw [xX1_believe_32]
      have eN : (fun i => zI (zsI h 6 a v) 449 (zB (zsI h 6 a v) ra i)) = fun i => zI h 449 (zB h ra i) := funext fun i => zI_ne (by decide)
      rw [eN]
      exact hY g (by rw [hF]; exact fun z => nomatch z)
end zFar
