/-! THE CLASS'S CALLS: the plain ones -/
section cSimp
variable {h0 h h' : zH} {N M : Nat} {w w' : Nat → Nat} {c : cg} {l : lg} {Q : Option zV → zH → Prop} {B : Int}
theorem RepC.v (R : RepC h0 N M h w c l) (k : Nat) (hk : k < 34) (hv : vOK k) : zI h (fC k) (aC k) = c.1 k := R.2.1.1 k hk hv
theorem RepC.far (R : RepC h0 N M h w c l) : ∃ x : sC, eqv x c.2.1 ∧ zScr h 15 x.1 x.2.1 x.2.2 = h := by
  have h16 : zR h 384 15 = 16 := R.1.r384_15
  obtain ⟨x1, x2, x3⟩ := R.2.2.1
  refine ⟨(zA h (zR h 384 15), zI h 385 15, zI h 386 15), ⟨fun k hk => x1 k hk, Prod.ext x2 x3⟩, zScr_id⟩
theorem RepC.xOf {x y : sC} (R : RepC h0 N M h w c l) (e : eqv x y) : RepC h0 N M (zScr h 15 x.1 x.2.1 x.2.2) w (xS c y) l := by
  refine R.scr (Or.inl rfl) ⟨fun k hk => ?_, zI_Scr_r.trans (by rw [e.2]), zI_Scr_c.trans (by rw [e.2])⟩
  rw [zR_Scr, zA_Scr_s]
  exact e.1 k hk
theorem RepC.s15 (R : RepC h0 N M h w c l) : sOK h 15 := ⟨R.1.k15, by
  have h16 : zR h 384 15 = 16 := R.1.r384_15
  rw [h16]; exact R.1.k16⟩
theorem in_of {x y : sC} (e : eqv x y) (hy : s_in y) : s_in x := by
  unfold s_in at *
  rw [e.2]
  exact hy
theorem x_program {p : Int} (R : RepC h0 N M h w c l) (hQ : ∀ h', RepC h0 N M h' w (progS c p) l → Q (some (.inl (if 0 ≤ p ∧ p ≤ 3 then c.1 3 else -1))) h') {l2 : Option zV} : zE 77 0 [some (.inr 2), some (.inl p), l2] [] h Q := by
  have hc := R.1
  have v3 : zI h 2 14 = c.1 3 := R.v 3 (by decide) (Or.inl (by decide))
  unfold progS at hQ
  rw [wX10_program_0 hc]
  refine c_isProgram ?_
  simp only [Option.toList_some, List.cons_append, List.nil_append]
  rw [wX10_program_4 hc]
  by_cases q : 0 ≤ p ∧ p ≤ 3
  · rw [if_pos q, if_pos q] at hQ
    rw [if_pos q, if_pos (by decide), wX10_program_9 hc, v3, wX10_program_25 (by exact hc), wX10_program_33 (by exact hc)]
    exact hQ _ ((R.sI (k := 3) (v := p) (by decide) (Or.inl (by decide)) (by decide) (by decide) (by decide) (by decide)).sI (k := 4) (v := 0) (by decide) (Or.inl (by decide)) (by decide) (by decide) (by decide) (by decide))
  · rw [if_neg q, if_neg q] at hQ
    rw [if_neg q, if_neg (fun z => z rfl), wX10_program_7 hc]
    exact hQ _ R
theorem x_pen {p : Int} (R : RepC h0 N M h w c l) (hQ : ∀ h', RepC h0 N M h' w (penS c p) l → Q (some (.inl (if 0 ≤ p ∧ p ≤ 3 then c.1 5 else -1))) h') {l2 : Option zV} : zE 83 0 [some (.inr 2), some (.inl p), l2] [] h Q := by
  have hc := R.1
  have v5 : zI h 4 14 = c.1 5 := R.v 5 (by decide) (Or.inl (by decide))
  unfold penS at hQ
  rw [wX10_pen_0 hc]
  by_cases q : 0 ≤ p ∧ p ≤ 3
  · rw [if_pos q, if_pos q] at hQ
    rw [if_neg (by omega), wX10_pen_4 hc, if_pos (by omega), wX10_pen_11 hc, v5, wX10_pen_27 (by exact hc)]
    exact hQ _ (R.sI (k := 5) (v := p) (by decide) (Or.inl (by decide)) (by decide) (by decide) (by decide) (by decide))
  · rw [if_neg q, if_neg q] at hQ
    by_cases z : p < 0
    · rw [if_pos z, wX10_pen_9 hc]
      exact hQ _ R
    · rw [if_neg z, wX10_pen_4 hc, if_neg (by omega), wX10_pen_9 hc]
      exact hQ _ R
theorem x_write {s : Int} (R : RepC h0 N M h w c l) (hG : Good B c l) (hQ : ∀ h', RepC h0 N M h' w (writeS c s) l → Q (some (.inl (if (32 ≤ s ∧ s ≤ 126) ∨ s = 13 ∨ s = 8 then 1 else 0))) h') : zE 79 0 [some (.inr 2), some (.inl s)] [] h Q := by
  have hc := R.1
  have v5 : zI h 4 14 = c.1 5 := R.v 5 (by decide) (Or.inl (by decide))
  have gv := hG.1
  have hV : 0 ≤ c.1 5 ∧ c.1 5 ≤ 3 := by unfold gV at gv; omega
  obtain ⟨x, ex, eh⟩ := R.far
  have hin := in_of ex hG.2.1.1
  have hs := R.s15
  unfold writeS at hQ
  rw [wX10_write_0 hc]
  refine c_isSign ?_
  simp only [Option.toList_some, List.cons_append, List.nil_append]
  rw [wX10_write_4 hc]
  by_cases a : 32 ≤ s ∧ s ≤ 126
  · rw [if_pos a, if_pos (Or.inl a)] at hQ
    rw [if_pos a, if_neg (by decide), wX10_write_7 hc, v5, ← eh]
    refine c_putSign hs hin (by omega) (by omega) ?_
    simp only [Option.toList_none, List.nil_append]
    rw [wX10_write_25 (by exact hc), wX10_write_68 (by exact hc)]
    exact ⟨Or.inr rfl, hQ _ (R.xOf (eqv_put ex))⟩
  · rw [if_neg a] at hQ
    rw [if_neg a, if_pos rfl, wX10_write_28 hc]
    by_cases b : s = 13
    · rw [if_pos b, if_pos (Or.inr (Or.inl b))] at hQ
      rw [if_neg (fun z => z b), wX10_write_34 hc, ← eh]
      refine c_newLine hs (by have := hin.2.1; omega) ?_ hin.1
      simp only [Option.toList_none, List.nil_append]
      rw [wX10_write_44 (by exact hc), wX10_write_68 (by exact hc)]
      exact ⟨Or.inr rfl, hQ _ (R.xOf (eqv_nl ex))⟩
    · rw [if_neg b] at hQ
      rw [if_pos b, wX10_write_47 hc]
      by_cases d : s = 8
      · rw [if_pos d, if_pos (Or.inr (Or.inr d))] at hQ
        rw [if_neg (fun z => z d), wX10_write_53 hc, ← eh]
        refine c_rubOut hs hin ?_
        simp only [Option.toList_none, List.nil_append]
        rw [wX10_write_63 (by exact hc), wX10_write_68 (by exact hc)]
        exact ⟨Or.inr rfl, hQ _ (R.xOf (eqv_rub ex))⟩
      · rw [if_neg d, if_neg (by omega)] at hQ
        rw [if_pos d, wX10_write_66 hc]
        exact ⟨Or.inl rfl, hQ _ R⟩
theorem x_move {r q : Int} (R : RepC h0 N M h w c l) (hQ : ∀ h', RepC h0 N M h' w (moveS c r q) l → Q (some (.inl (if 0 ≤ r ∧ r < 8 ∧ 0 ≤ q ∧ q < 24 then 1 else 0))) h') {l3 : Option zV} : zE 80 0 [some (.inr 2), some (.inl r), some (.inl q), l3] [] h Q := by
  have hc := R.1
  obtain ⟨x, ex, eh⟩ := R.far
  unfold moveS at hQ
  rw [wX10_move_0 hc]
  refine c_isPlace ?_
  simp only [Option.toList_some, List.cons_append, List.nil_append]
  rw [wX10_move_5 hc]
  by_cases z : 0 ≤ r ∧ r < 8 ∧ 0 ≤ q ∧ q < 24
  · rw [if_pos z, if_pos z] at hQ
    rw [if_pos z, if_neg (by decide), wX10_move_10 hc, wX10_move_21 (by exact hc), wX10_move_32 (by exact hc)]
    refine ⟨Or.inr rfl, ?_⟩
    have e : zsI (zsI h 385 15 r) 386 15 q = zScr h 15 x.1 r q := by
      conv => lhs; rw [← eh]
      rw [zsI_Scr_r, zsI_Scr_c]
    rw [e]
    exact hQ _ (R.xOf (x := (x.1, r, q)) (y := (c.2.1.1, r, q)) ⟨ex.1, rfl⟩)
  · rw [if_neg z, if_neg z] at hQ
    rw [if_neg z, if_pos rfl, wX10_move_32 hc]
    exact ⟨Or.inl rfl, hQ _ R⟩
theorem x_wipe {r : Int} (R : RepC h0 N M h w c l) (hQ : ∀ h', RepC h0 N M h' w (wipeS c r) l → Q (some (.inl (if 0 ≤ r ∧ r < 8 then 1 else 0))) h') {l2 : Option zV} : zE 81 0 [some (.inr 2), some (.inl r), l2] [] h Q := by
  have hc := R.1
  obtain ⟨x, ex, eh⟩ := R.far
  have hs := R.s15
  unfold wipeS at hQ
  rw [wX10_wipe_0 hc]
  refine c_isPlace ?_
  simp only [Option.toList_some, List.cons_append, List.nil_append]
  rw [wX10_wipe_5 hc]
  by_cases z : 0 ≤ r ∧ r < 8
  · have z' : 0 ≤ r ∧ r < 8 ∧ (0 : Int) ≤ 0 ∧ (0 : Int) < 24 := by omega
    rw [if_pos z, if_pos z] at hQ
    rw [if_pos z', if_neg (by decide), wX10_wipe_10 hc, ← eh]
    refine c_fillRow hs z ?_
    simp only [Option.toList_none, List.nil_append]
    rw [wX10_wipe_23 (by exact hc)]
    exact ⟨Or.inr rfl, hQ _ (R.xOf (x := (s_row r 32 x.1, x.2)) (y := (s_row r 32 c.2.1.1, c.2.1.2)) ⟨eqc_row ex.1, ex.2⟩)⟩
  · have z' : ¬ (0 ≤ r ∧ r < 8 ∧ (0 : Int) ≤ 0 ∧ (0 : Int) < 24) := by omega
    rw [if_neg z, if_neg z] at hQ
    rw [if_neg z', if_pos rfl, wX10_wipe_23 hc]
    exact ⟨Or.inl rfl, hQ _ R⟩
theorem x_scroll {n : Int} (R : RepC h0 N M h w c l) (hQ : ∀ h', RepC h0 N M h' w (scrollS c n) l → Q (some (.inl (if 1 ≤ n ∧ n ≤ 8 then 1 else 0))) h') {l2 : Option zV} : zE 82 0 [some (.inr 2), some (.inl n), l2] [] h Q := by
  have hc := R.1
  obtain ⟨x, ex, eh⟩ := R.far
  have hs := R.s15
  unfold scrollS at hQ
  rw [wX10_scroll_0 hc]
  by_cases z : 1 ≤ n ∧ n ≤ 8
  · rw [if_pos z, if_pos z] at hQ
    rw [if_neg (by omega), wX10_scroll_5 hc, if_neg (by omega), wX10_scroll_11 hc, wX10_scroll_16 hc, if_neg (by decide), wX10_scroll_21 hc, ← eh]
    refine c_scrollBy hs (by omega) ?_
    simp only [Option.toList_none, List.nil_append]
    rw [wX10_scroll_32 (by exact hc)]
    exact ⟨Or.inr rfl, hQ _ (R.xOf (x := (scr n.toNat x.1, x.2)) (y := (scr n.toNat c.2.1.1, c.2.1.2)) ⟨eqc_scr ex.1, ex.2⟩)⟩
  · rw [if_neg z, if_neg z] at hQ
    have e15 : zE 82 15 [some (.inr 2), some (.inl n), l2] [] h Q := by
      rw [wX10_scroll_15 hc, wX10_scroll_16 hc, if_pos rfl, wX10_scroll_32 hc]
      exact ⟨Or.inl rfl, hQ _ R⟩
    by_cases y : n < 1
    · rw [if_pos y]; exact e15
    · rw [if_neg y, wX10_scroll_5 hc, if_pos (by omega)]; exact e15
theorem x_roam (R : RepC h0 N M h w c l) (hG : Good B c l) (hQ : ∀ h', RepC h0 N M h' w (roamS c) l → Q (some (.inl ((roamS c).1 18))) h') : zE 87 0 [some (.inr 2)] [] h Q := by
  have hc := R.1
  have gv := hG.1
  have hV : 1 ≤ c.1 18 ∧ c.1 18 ≤ 255 := by unfold gV at gv; omega
  have v18 : zI h 330 3 = c.1 18 := R.v 18 (by decide) (Or.inl (by decide))
  have e30 : ∀ v, v = (if c.1 18 = 255 then 1 else c.1 18 + 1) → zE 87 30 [some (.inr 2)] [.inl v, .inr 3] h Q := by
    intro v hv
    subst hv
    have R1 := (R.sI (k := 18) (v := if c.1 18 = 255 then 1 else c.1 18 + 1) (by decide) (Or.inl (by decide)) (by decide) (by decide) (by decide) (by decide)).sI (k := 17) (v := 1) (by decide) (Or.inl (by decide)) (by decide) (by decide) (by decide) (by decide)
    have e18 : zI (zsI (zsI h 330 3 (if c.1 18 = 255 then 1 else c.1 18 + 1)) 329 3 1) 330 3 = (roamS c).1 18 := R1.v 18 (by decide) (Or.inl (by decide))
    rw [wX10_roam_30 hc, wX10_roam_33 (by exact hc), wX10_roam_41 (by exact hc), e18]
    exact ⟨Or.inr rfl, hQ _ R1⟩
  rw [wX10_roam_0 hc, v18]
  by_cases q : c.1 18 < 255
  · rw [if_pos q, wX10_roam_21 hc, v18, zw_eq (by omega) (by omega)]
    exact e30 _ (by rw [if_neg (by omega)])
  · rw [if_neg q, wX10_roam_17 hc]
    exact e30 _ (by rw [if_pos (by omega)])
end cSimp
