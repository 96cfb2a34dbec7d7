/-! THE CLASS'S CALLS: its cells, its cursor, a key -/
section cCell
variable {h0 h h' : zH} {N M : Nat} {w w' : Nat → Nat} {c : cg} {l : lg} {Q : Option zV → zH → Prop} {B : Int}
theorem cell_newN (hG : Good B c l) : cellsOK (newN c).1 := by
  have gv := hG.1
  have hV : 1 ≤ c.1 20 ∧ c.1 20 ≤ 32 := by unfold gV at gv; omega
  exact (hG.2.2.1.2.1 _ (by omega)).1
theorem x_cell_e {x : sC} {s : Nat} {r q v : Int} (hc : cOK h) (hs : sOK h s) (hx : scIs h s x) (hx2 : cellsOK x) (hr : 0 ≤ r ∧ r < 8 ∧ 0 ≤ q ∧ q < 24) (hv : v = 0 ∨ v = 1)
    (hQ : Q (some (.inl (if v = 0 then x.1 (24 * r + q).toNat % 128 else x.1 (24 * r + q).toNat / 128))) h) {l0 l1 l5 l6 l7 : Option zV} : zE 88 109 [l0, l1, some (.inl r), some (.inl q), some (.inl v), l5, l6, l7] [.inr s] h Q := by
  have hb := hx2.2 (24 * r + q).toNat (by omega)
  rw [wX10_cell_109 hc]
  refine ⟨hs.1, c_at hs ?_⟩
  simp only [Option.toList_some, List.cons_append, List.nil_append]
  rw [if_pos hr, hx.1 _ (by omega), wX10_cell_118 hc]
  rcases hv with z | z
  · rw [if_pos z] at hQ
    rw [if_neg (fun y => y z), wX10_cell_125 hc, wX10_cell_140 hc, tmod_pos hb.1, zw_eq (by omega) (by omega)]
    exact hQ
  · rw [if_neg (by omega)] at hQ
    rw [if_pos (by omega), wX10_cell_134 hc, wX10_cell_140 hc, Int.tdiv_eq_ediv_of_nonneg hb.1, zw_eq (by omega) (by omega)]
    exact hQ
theorem x_cell {e r q v : Int} (R : RepC h0 N M h w c l) (hG : Good B c l) (hQ : Q (some (.inl (cellA c e r q v))) h) {l5 l6 l7 : Option zV} : zE 88 0 [some (.inr 2), some (.inl e), some (.inl r), some (.inl q), some (.inl v), l5, l6, l7] [] h Q := by
  have hc := R.1
  have gv := hG.1
  have hV : 0 ≤ c.1 21 := by unfold gV at gv; omega
  unfold cellA at hQ
  have no : ¬ ((0 ≤ e ∧ e ≤ 3) ∧ (0 ≤ r ∧ r < 8 ∧ 0 ≤ q ∧ q < 24) ∧ (v = 0 ∨ v = 1)) → zE 88 28 [some (.inr 2), some (.inl e), some (.inl r), some (.inl q), some (.inl v), l5, l6, l7] [] h Q := by
    intro z
    rw [if_neg z] at hQ
    rw [wX10_cell_28 hc]; exact hQ
  rw [wX10_cell_0 hc]
  by_cases z1 : e < 0
  · rw [if_pos z1]; exact no (by omega)
  rw [if_neg z1, wX10_cell_4 hc]
  by_cases z2 : 3 < e
  · rw [if_pos z2]; exact no (by omega)
  rw [if_neg z2, wX10_cell_9 hc]
  refine c_isPlace ?_
  simp only [Option.toList_some, List.cons_append, List.nil_append]
  rw [wX10_cell_14 hc]
  by_cases hr : 0 ≤ r ∧ r < 8 ∧ 0 ≤ q ∧ q < 24
  case neg => rw [if_neg hr, if_pos rfl]; exact no (fun y => hr y.2.1)
  rw [if_pos hr, if_neg (by decide), wX10_cell_17 hc]
  by_cases z3 : v < 0
  · rw [if_pos z3]; exact no (by omega)
  rw [if_neg z3, wX10_cell_22 hc]
  by_cases z4 : v ≤ 1
  case neg => rw [if_neg z4]; exact no (by omega)
  have hv : v = 0 ∨ v = 1 := by omega
  have he : 0 ≤ e ∧ e ≤ 3 := by omega
  rw [if_pos ⟨he, hr, hv⟩] at hQ
  have hcast : ((24 * r + q).toNat : Int) = 24 * r + q := by omega
  obtain ⟨t, e1, e2, e3, e4, e5, e6, _⟩ := R.tN
  have hnear : ∀ (l5 : Option zV), e ≠ 1 → (seenS c e).1 (24 * r + q).toNat = (newN c).1.1 (24 * r + q).toNat → zE 88 81 [some (.inr 2), some (.inl e), some (.inl r), some (.inl q), some (.inl v), l5, l6, l7] [] h Q := by
    intro l5 he1 hs
    rw [hs] at hQ
    rw [wX10_cell_81 hc, if_pos he1, wX10_cell_96 hc, e1, e3]
    exact ⟨e2, x_cell_e hc e4 e6.1 (cell_newN hG) hr hv hQ⟩
  rw [if_pos z4, wX10_cell_30 hc]
  by_cases z5 : e < 2
  · rw [if_pos z5, wX10_cell_60 hc, wX10_cell_61 hc, if_pos rfl]
    by_cases z6 : e = 1
    · rw [wX10_cell_81 hc, if_neg (fun y => y z6), wX10_cell_86 hc]
      refine x_cell_e hc R.s15 R.2.2.1 hG.2.1 hr hv ?_
      have : seenS c e = c.2.1 := by unfold seenS; rw [if_neg (by omega), if_pos z6]
      rw [this] at hQ
      exact hQ
    · refine hnear _ z6 ?_
      unfold seenS
      rw [if_pos (by omega)]
  · have hse : seenS c e = ovl c (if e = 2 then 1 else 0) (c.1 21).toNat := by unfold seenS; rw [if_neg (by omega), if_neg (by omega)]
    have e54 : ∀ o : Int, o = (if e = 2 then 1 else 0) → zE 88 54 [some (.inr 2), some (.inl e), some (.inl r), some (.inl q), some (.inl v), l5, l6, l7] [.inl o, .inl q, .inl r, .inr 10] h Q := by
      intro o ho
      rw [← ho] at hse
      rw [wX10_cell_54 hc]
      refine ⟨hc.k10, c_GSign R.gG hr ?_⟩
      simp only [Option.toList_some, List.cons_append, List.nil_append]
      rw [R.gC]
      cases hl : lst (fun i => laid o (c.1 22) (c.2.2.2.2 i) && decide (c.2.2.2.2 i 2 = 24 * r + q)) (c.1 21).toNat with
      | none =>
        dsimp only
        rw [wX10_cell_57 hc, wX10_cell_61 hc, if_pos rfl]
        refine hnear _ (by omega) ?_
        rw [hse]
        unfold ovl
        dsimp only
        rw [hcast, hl]
      | some j =>
        dsimp only
        obtain ⟨j1, j2, _⟩ := lst_some hl
        have j3 : c.2.2.2.2 j 2 = 24 * r + q := by
          simp only [Bool.and_eq_true, decide_eq_true_eq] at j2
          exact j2.2
        have gk := hG.2.2.2.2.1 j (by omega)
        unfold gOK at gk
        have gs : 32 ≤ c.2.2.2.2 j 3 ∧ c.2.2.2.2 j 3 ≤ 126 := by omega
        have hval : (seenS c e).1 (24 * r + q).toNat = c.2.2.2.2 j 3 + 384 := by
          rw [hse]
          unfold ovl
          dsimp only
          rw [hcast, hl]
        rw [hval] at hQ
        rw [wX10_cell_57 hc, wX10_cell_61 hc, if_neg (by omega), wX10_cell_69 hc]
        by_cases y : v = 0
        · rw [if_pos y] at hQ
          rw [if_neg (fun x => x y), wX10_cell_74 hc, wX10_cell_80 hc]
          have : (c.2.2.2.2 j 3 + 384) % 128 = c.2.2.2.2 j 3 := by omega
          rw [this] at hQ
          exact hQ
        · rw [if_neg y] at hQ
          rw [if_pos y, wX10_cell_79 hc, wX10_cell_80 hc]
          have : (c.2.2.2.2 j 3 + 384) / 128 = 3 := by omega
          rw [this] at hQ
          exact hQ
    rw [if_neg z5, wX10_cell_35 hc]
    by_cases y : e = 2
    · rw [if_neg (fun x => x y), wX10_cell_49 hc]
      exact e54 1 (by rw [if_pos y])
    · rw [if_pos y, wX10_cell_53 hc]
      exact e54 0 (by rw [if_neg y])
theorem x_cursor_e {x : sC} {s : Nat} {a : Int} (hc : cOK h) (hs : sOK h s) (hx : scIs h s x) (hQ : Q (some (.inl (if a = 0 then x.2.1 else x.2.2))) h) {l0 l1 l3 l4 : Option zV} : zE 89 98 [l0, l1, some (.inl a), l3, l4] [.inr s] h Q := by
  rw [wX10_cursor_98 hc]
  by_cases z : a = 0
  · rw [if_pos z] at hQ
    rw [if_neg (fun y => y z), wX10_cursor_104 hc, wX10_cursor_117 hc, hx.2.1]
    exact ⟨hs.1, hQ⟩
  · rw [if_neg z] at hQ
    rw [if_pos z, wX10_cursor_112 hc, wX10_cursor_117 hc, hx.2.2]
    exact ⟨hs.1, hQ⟩
theorem x_cursor {e a : Int} (R : RepC h0 N M h w c l) (hG : Good B c l) (hQ : Q (some (.inl (cursA c e a))) h) {l3 l4 : Option zV} : zE 89 0 [some (.inr 2), some (.inl e), some (.inl a), l3, l4] [] h Q := by
  have hc := R.1
  have gv := hG.1
  have hV : 0 ≤ c.1 21 := by unfold gV at gv; omega
  unfold cursA at hQ
  have no : ¬ ((0 ≤ e ∧ e ≤ 3) ∧ (a = 0 ∨ a = 1)) → zE 89 18 [some (.inr 2), some (.inl e), some (.inl a), l3, l4] [] h Q := by
    intro z
    rw [if_neg z] at hQ
    rw [wX10_cursor_18 hc]; exact hQ
  rw [wX10_cursor_0 hc]
  by_cases z1 : e < 0
  · rw [if_pos z1]; exact no (by omega)
  rw [if_neg z1, wX10_cursor_4 hc]
  by_cases z2 : 3 < e
  · rw [if_pos z2]; exact no (by omega)
  rw [if_neg z2, wX10_cursor_9 hc]
  by_cases z3 : a < 0
  · rw [if_pos z3]; exact no (by omega)
  rw [if_neg z3, wX10_cursor_13 hc]
  by_cases z4 : a ≤ 1
  case neg => rw [if_neg z4]; exact no (by omega)
  have hv : a = 0 ∨ a = 1 := by omega
  have he : 0 ≤ e ∧ e ≤ 3 := by omega
  rw [if_pos ⟨he, hv⟩] at hQ
  obtain ⟨t, e1, e2, e3, e4, e5, e6, _⟩ := R.tN
  have hnear : ∀ (l3 : Option zV), e ≠ 1 → (seenS c e).2 = (newN c).1.2 → zE 89 70 [some (.inr 2), some (.inl e), some (.inl a), l3, l4] [] h Q := by
    intro l3 he1 hs
    rw [hs] at hQ
    rw [wX10_cursor_70 hc, if_pos he1, wX10_cursor_85 hc, e1, e3]
    exact ⟨e2, x_cursor_e hc e4 e6.1 hQ⟩
  rw [if_pos z4, wX10_cursor_20 hc]
  by_cases z5 : e < 2
  · rw [if_pos z5, wX10_cursor_48 hc, wX10_cursor_49 hc, if_pos rfl]
    by_cases z6 : e = 1
    · rw [wX10_cursor_70 hc, if_neg (fun y => y z6), wX10_cursor_75 hc]
      refine x_cursor_e hc R.s15 R.2.2.1 ?_
      have : seenS c e = c.2.1 := by unfold seenS; rw [if_neg (by omega), if_pos z6]
      rw [this] at hQ
      exact hQ
    · refine hnear _ z6 ?_
      unfold seenS
      rw [if_pos (by omega)]
  · have hse : seenS c e = ovl c (if e = 2 then 1 else 0) (c.1 21).toNat := by unfold seenS; rw [if_neg (by omega), if_neg (by omega)]
    have e42 : ∀ o : Int, o = (if e = 2 then 1 else 0) → zE 89 42 [some (.inr 2), some (.inl e), some (.inl a), l3, l4] [.inl o, .inr 10] h Q := by
      intro o ho
      rw [← ho] at hse
      rw [wX10_cursor_42 hc]
      refine ⟨hc.k10, c_GLast R.gG ?_⟩
      simp only [Option.toList_some, List.cons_append, List.nil_append]
      rw [R.gC]
      cases hl : lst (fun i => laid o (c.1 22) (c.2.2.2.2 i)) (c.1 21).toNat with
      | none =>
        dsimp only
        rw [wX10_cursor_45 hc, wX10_cursor_49 hc, if_pos rfl]
        refine hnear _ (by omega) ?_
        rw [hse]
        unfold ovl
        dsimp only
        rw [hl]
      | some j =>
        dsimp only
        obtain ⟨j1, j2, _⟩ := lst_some hl
        obtain ⟨g0, _, _, _, _, _, g6, g7⟩ := R.gG.2.2.2 j j1
        have hval : (seenS c e).2 = (c.2.2.2.2 j 4, c.2.2.2.2 j 5) := by
          rw [hse]
          unfold ovl
          dsimp only
          rw [hl]
        rw [hval] at hQ
        have hne : zB h 11 j ≠ 0 := fun z => by rw [z, hc.k0] at g0; cases g0
        rw [wX10_cursor_45 hc, wX10_cursor_49 hc, if_neg hne, wX10_cursor_54 hc]
        by_cases y : a = 0
        · rw [if_pos y] at hQ
          rw [if_neg (fun x => x y), wX10_cursor_58 hc, wX10_cursor_69 hc, g6]
          exact ⟨g0, hQ⟩
        · rw [if_neg y] at hQ
          rw [if_pos y, wX10_cursor_65 hc, wX10_cursor_69 hc, g7]
          exact ⟨g0, hQ⟩
    rw [if_neg z5, wX10_cursor_25 hc]
    by_cases y : e = 2
    · rw [if_neg (fun x => x y), wX10_cursor_37 hc]
      exact e42 1 (by rw [if_pos y])
    · rw [if_pos y, wX10_cursor_41 hc]
      exact e42 0 (by rw [if_neg y])
end cCell
