/-! LETTERS TAKEN keep what must hold -/
section gTake
variable {c : cg} {l : lg} {B : Int} {xs : List Int} {x : sC} {pen k : Int}
def cells (C : Nat → Int) : Prop := ∀ k, k < 192 → 0 ≤ C k ∧ C k < 512
theorem cells_fup {C : Nat → Int} {i : Nat} {v : Int} (h : cells C) (hv : 0 ≤ v ∧ v < 512) : cells (fup C i v) := by
  intro k hk
  unfold fup
  split
  · exact hv
  · exact h k hk
theorem cells_nl (h : cells x.1) : cells (s_nl x).1 := by
  unfold s_nl
  split
  · exact h
  · exact scr_ok h
theorem cells_put {v : Int} (h : cells x.1) (hv : 0 ≤ v ∧ v < 512) : cells (s_put v x).1 := by
  unfold s_put
  split
  · exact cells_fup h hv
  · exact cells_nl (x := (_, _, _)) (cells_fup h hv)
theorem cells_rub (h : cells x.1) : cells (s_rub x).1 := by
  unfold s_rub
  split
  · exact h
  · exact cells_fup h (by omega)
theorem cells_step {a b : Int} (h : cells x.1) : cells (s_step a b x).1 := by
  unfold s_step
  split
  · exact h
  · exact h
theorem cells_echo (h : cells x.1) (hp : 0 ≤ pen ∧ pen ≤ 3) : cells (s_echo pen k x).1 := by
  unfold s_echo
  split
  · exact cells_put h (by omega)
  · split
    · exact cells_nl h
    · split
      · exact cells_rub h
      · split
        · exact cells_step h
        · split
          · exact cells_step h
          · split
            · exact cells_step h
            · split
              · exact cells_step h
              · exact h
theorem cells_star (hp : 0 ≤ pen ∧ pen ≤ 3) : ∀ (n : Nat) {x : sC}, cells x.1 → cells (s_star pen n x).1
  | 0, _, h => h
  | n + 1, _, h => cells_star hp n (cells_put h (by omega))
theorem cells_row {r v : Int} {C : Nat → Int} (h : cells C) (hv : 0 ≤ v ∧ v < 512) : cells (s_row r v C) := by
  intro k hk
  unfold s_row
  split
  · exact hv
  · exact h k hk
theorem cells_page (h : cells x.1) (hp : 0 ≤ pen ∧ pen ≤ 3) : cells (s_page pen k x).1 := by
  unfold s_page
  split
  · exact cells_row (scr_ok h) (by omega)
  · exact h
theorem cells_press {prog p : Int} (h : cells x.1) (hp : 0 ≤ pen ∧ pen ≤ 3) : cells (s_press prog pen k x p).1.1 := by
  unfold s_press
  split
  · unfold s_pass
    split
    · exact h
    · split
      · exact h
      · split
        · exact cells_nl (cells_star hp _ h)
        · exact h
  · split
    · exact cells_page h hp
    · split
      · exact cells_put (cells_nl h) (by omega)
      · split
        · exact h
        · exact cells_echo h hp
theorem keys_ok {prog : Int} {ks : Nat → Int} (hp : 0 ≤ pen ∧ pen ≤ 3) : ∀ (d i : Nat) (y : sC × Int), cellsOK y.1 → 0 ≤ y.2 ∧ y.2 ≤ 20 → cellsOK (s_keys prog pen ks d i y).1 ∧ 0 ≤ (s_keys prog pen ks d i y).2 ∧ (s_keys prog pen ks d i y).2 ≤ 20
  | 0, _, y, h1, h2 => ⟨h1, h2⟩
  | d + 1, i, y, h1, h2 => keys_ok hp d (i + 1) _ ⟨s_press_in h1.1, cells_press h1.2 hp⟩ (s_press_p h2)
theorem good_X {x : sC} (hG : Good B c l) (hx : cellsOK x) : Good B (xS c x) l := ⟨hG.1, hx, hG.2.2⟩
theorem good_dropF {j : Nat} (hG : Good B c l) (hj : (j : Int) < c.1 12) (h0 : 0 < j) : Good B (dropF (vS c 7 (c.1 7 + j)) j) l := by
  obtain ⟨gv, g2, ⟨g3, g4, g5⟩, g6, g7, g8, g9, g10⟩ := hG
  have e12 : (dropF (vS c 7 (c.1 7 + j)) j).1 12 = c.1 12 - j := rfl
  have e7 : (dropF (vS c 7 (c.1 7 + j)) j).1 7 = c.1 7 + j := rfl
  have e13 : (dropF (vS c 7 (c.1 7 + j)) j).1 13 = c.1 13 := rfl
  have eS : ∀ i, (dropF (vS c 7 (c.1 7 + j)) j).2.2.1 1 i = c.2.2.1 1 (i + j) := fun i => rfl
  refine ⟨?_, g2, ⟨fun i hi => ?_, fun i hi => ?_, fun i k hik hk => ?_⟩, g6, g7, g8, g9, g10⟩
  · unfold gV at *
    simp (decide := true) only [dropF, vS, fup, if_true, if_false]
    omega
  · rw [e12] at hi
    rw [eS, e7, e13]
    have := g3 (i + j) (by omega)
    refine ⟨this.1, ?_, this.2.2⟩
    rw [this.2.1]
    omega
  · exact g4 i hi
  · exact g5 i k hik hk
theorem good_byFar (hG : Good B c l) (hl : let0 (c.1 13) xs) : Good (B + 1) (byFarS c xs) l := by
  obtain ⟨hb, hw, hlen, hle, hT⟩ := hl
  have hG1 := hG.mono (show B ≤ B + 1 by omega)
  have gv := hG.1
  have hV : (0 ≤ c.1 5 ∧ c.1 5 ≤ 3) ∧ (0 ≤ c.1 4 ∧ c.1 4 ≤ 20) ∧ (0 ≤ c.1 6 ∧ c.1 6 ≤ c.1 13) := by unfold gV at gv; omega
  have n1 := hb.at (i := 1) (by omega)
  have n1' : 0 ≤ bt xs 1 ∧ bt xs 1 < 256 := n1
  unfold byFarS
  by_cases q : num xs 2 ≤ c.1 6
  · rw [if_pos q]
    have hk : cellsOK (fKeys c xs).1 ∧ 0 ≤ (fKeys c xs).2 ∧ (fKeys c xs).2 ≤ 20 := keys_ok hV.1 _ _ _ hG.2.1 hV.2.1
    have G1 : Good (B + 1) (vS c 29 (c.1 29 + 1)) l := good_vS hG1 (by
      unfold gV at *
      simp (decide := true) only [fup, if_true, if_false, true_and]
      omega) (by decide) (by decide) (by decide) (by decide) (by decide)
    have G2 : Good (B + 1) (xS (vS c 29 (c.1 29 + 1)) (fKeys c xs).1) l := good_X G1 hk.1
    have e6 : (xS (vS c 29 (c.1 29 + 1)) (fKeys c xs).1).1 6 = c.1 6 := rfl
    have G3 : Good (B + 1) (vS (xS (vS c 29 (c.1 29 + 1)) (fKeys c xs).1) 4 (fKeys c xs).2) l := good_vS G2 (by
      have gv2 := G2.1
      unfold gV at *
      simp (decide := true) only [fup, if_true, if_false, true_and]
      omega) (by decide) (by decide) (by decide) (by decide) (by decide)
    have G4 : Good (B + 1) (vS (vS (xS (vS c 29 (c.1 29 + 1)) (fKeys c xs).1) 4 (fKeys c xs).2) 6 (max (c.1 6) (num xs 4))) l := good_vS G3 (by
      have gv2 := G3.1
      have z : (vS (xS (vS c 29 (c.1 29 + 1)) (fKeys c xs).1) 4 (fKeys c xs).2).1 13 = c.1 13 := rfl
      unfold gV at *
      simp (decide := true) only [fup, if_true, if_false, true_and]
      omega) (by decide) (by decide) (by decide) (by decide) (by decide)
    generalize vS (vS (xS (vS c 29 (c.1 29 + 1)) (fKeys c xs).1) 4 (fKeys c xs).2) 6 (max (c.1 6) (num xs 4)) = c3 at G4
    have G5 : Good (B + 1) (fSure c3 (num xs 6)) l := by
      unfold fSure
      by_cases z : c3.1 7 < num xs 6 ∧ num xs 6 < c3.1 7 + c3.1 12
      · rw [if_pos z]
        have := good_dropF (j := (num xs 6 - c3.1 7).toNat) G4 (by omega) (by omega)
        rw [show c3.1 7 + (((num xs 6 - c3.1 7).toNat : Nat) : Int) = num xs 6 by omega] at this
        exact this
      · rw [if_neg z]
        exact G4
    have G6 : Good (B + 1) (fAddr (fSure c3 (num xs 6)) (bt xs 1) (num xs 4) (c.1 6)) l := by
      unfold fAddr
      by_cases z : num xs 4 < c.1 6
      · rw [if_pos z]
        exact G5
      · rw [if_neg z]
        refine good_vS G5 ?_ (by decide) (by decide) (by decide) (by decide) (by decide)
        have gv2 := G5.1
        unfold gV at *
        simp (decide := true) only [fup, if_true, if_false, true_and]
        omega
    unfold fOwes
    by_cases z : (fAddr (fSure c3 (num xs 6)) (bt xs 1) (num xs 4) (c.1 6)).1 6 ≤ num xs 2
    · rw [if_pos z]
      exact G6
    · rw [if_neg z]
      refine good_vS G6 ?_ (by decide) (by decide) (by decide) (by decide) (by decide)
      have gv2 := G6.1
      unfold gV at *
      simp (decide := true) only [fup, if_true, if_false, true_and]
      omega
  · rw [if_neg q]
    refine good_vS hG1 ?_ (by decide) (by decide) (by decide) (by decide) (by decide)
    unfold gV at *
    simp (decide := true) only [fup, if_true, if_false, true_and]
    omega
theorem good_nOwes {t : Int} (hG : Good B c l) : Good B (nOwes c t) l := by
  unfold nOwes
  split
  · exact hG
  · refine good_vS hG ?_ (by decide) (by decide) (by decide) (by decide) (by decide)
    have gv := hG.1
    unfold gV at *
    simp (decide := true) only [fup, if_true, if_false, true_and]
    omega
/-- what the near end has once a letter is taken, ahead of its state -/
def nPre (c : cg) (j : Nat) (xs : List Int) : cg := vS (dropN (vS c 29 (c.1 29 + 1)) j) 14 (max (c.1 14) (num xs 6))
theorem good_nPre {j : Nat} (hG : Good B c l) (hl : let1 (c.1 13) xs) (hj : (j : Int) < c.1 20) : Good (B + 1) (nPre c j xs) l := by
  have h6 := hl.2.2.2.2.1
  have n6 := num_r (i := 6) hl.1 (by have := hl.2.2.1; omega)
  have hG1 := hG.mono (show B ≤ B + 1 by omega)
  have gv := hG.1
  have G1 : Good (B + 1) (vS c 29 (c.1 29 + 1)) l := good_vS hG1 (by
    unfold gV at *
    simp (decide := true) only [fup, if_true, if_false, true_and]
    omega) (by decide) (by decide) (by decide) (by decide) (by decide)
  have G2 := good_dropN (j := j) G1 hj
  refine good_vS G2 ?_ (by decide) (by decide) (by decide) (by decide) (by decide)
  have gv2 := G2.1
  have z : (dropN (vS c 29 (c.1 29 + 1)) j).1 13 = c.1 13 := rfl
  unfold gV at *
  simp (decide := true) only [fup, if_true, if_false, true_and]
  omega
theorem good_nAdd {T : Int} (hG : Good B c l) (hl : let1 T xs) (h0 : (c.2.2.1 0 0).2.1 = num xs 2) : Good B (nAdd c xs) l := by
  unfold nAdd
  by_cases q : (newN c).2.1 < num xs 4
  · rw [if_pos q]
    have gv := hG.1
    have hV : 1 ≤ c.1 20 := by unfold gV at gv; omega
    have h13 := hl.2.2.1
    have hx0 := (hG.2.2.1.2.1 0 (by omega)).1
    exact good_settS (good_addN hG (near_room hG h0 q hl.2.2.2.2.2.2.1) (lLay_ok hl hx0).1 (num_r hl.1 (by omega)) (num_r hl.1 (by omega)) q)
  · rw [if_neg q]
    exact hG
theorem good_byNear (hG : Good B c l) (hl : let1 (c.1 13) xs) : Good (B + 1) (byNearS c xs) l := by
  have hG1 := hG.mono (show B ≤ B + 1 by omega)
  have gv := hG.1
  unfold byNearS
  by_cases q : bt xs 1 = c.1 18
  · rw [if_pos q]
    cases hF : fnd (fun i => (c.2.2.1 0 i).2.1) (num xs 2) (c.1 20).toNat 0 with
    | none =>
      refine good_nOwes (good_vS hG1 ?_ (by decide) (by decide) (by decide) (by decide) (by decide))
      unfold gV at *
      simp (decide := true) only [fup, if_true, if_false, true_and]
      omega
    | some j =>
      obtain ⟨-, hj, hj2, -⟩ := fnd_some hF
      have G1 := good_nPre (j := j) hG hl (by omega)
      have G2 : Good (B + 1) (nAdd (nPre c j xs) xs) l := good_nAdd G1 hl (by
        show (c.2.2.1 0 (0 + j)).2.1 = num xs 2
        rw [Nat.zero_add]
        exact hj2)
      refine good_nOwes (good_vS (c := nAdd (nPre c j xs) xs) G2 ?_ (by decide) (by decide) (by decide) (by decide) (by decide))
      have gv2 := G2.1
      unfold gV at *
      simp (decide := true) only [fup, if_true, if_false, true_and]
      omega
  · rw [if_neg q]
    refine good_vS hG1 ?_ (by decide) (by decide) (by decide) (by decide) (by decide)
    unfold gV at *
    simp (decide := true) only [fup, if_true, if_false, true_and]
    omega
end gTake
