/-! A LETTER TAKEN keeps what must hold -/
def nAdd (c : cg) (xs : List Int) : cg := if (newN c).2.1 < num xs 4 then settS (addS c 0 20 (lLay xs (c.2.2.1 0 0).1, num xs 4, num xs 6)) else c
def nOwes (c : cg) (t : Int) : cg := if (newN c).2.1 ≤ t then c else vS c 17 1
def byNearS (c : cg) (xs : List Int) : cg :=
  if bt xs 1 = c.1 18 then
    match fnd (fun i => (c.2.2.1 0 i).2.1) (num xs 2) (c.1 20).toNat 0 with
    | none => nOwes (vS c 28 (c.1 28 + 1)) (num xs 2)
    | some j => nOwes (vS (nAdd (vS (dropN (vS c 29 (c.1 29 + 1)) j) 14 (max (c.1 14) (num xs 6))) xs) 19 (num xs 2)) (num xs 2)
  else vS c 26 (c.1 26 + 1)
section gNear
variable {c : cg} {l : lg} {B : Int} {xs : List Int}
theorem lCs_ok {row : Int} {stp : Nat} : ∀ (n : Nat) (q : Int) (fr : Nat) (C : Nat → Int), (∀ k, k < 192 → 0 ≤ C k ∧ C k < 512) → (∀ m, m < n → (0 ≤ bt xs (fr + stp * m) ∧ bt xs (fr + stp * m) < 128) ∧ 0 ≤ bt xs (fr + stp * m + 1) ∧ bt xs (fr + stp * m + 1) < 4) → ∀ k, k < 192 → 0 ≤ lCs xs row stp n q fr C k ∧ lCs xs row stp n q fr C k < 512
  | 0, _, _, C, h, _ => h
  | n + 1, q, fr, C, h, hb => by
    have h0 := hb 0 (by omega)
    simp only [Nat.mul_zero, Nat.add_zero] at h0
    refine lCs_ok n (q + 1) (fr + stp) _ (fun k hk => ?_) (fun m hm => ?_)
    · split
      · unfold fup
        split
        · omega
        · exact h k hk
      · exact h k hk
    · have := hb (m + 1) (by omega)
      rw [show fr + stp * (m + 1) = fr + stp + stp * m by rw [Nat.mul_add]; omega] at this
      exact this
theorem lLoop_ok (hb : byteL xs) : ∀ (d i : Nat) (C : Nat → Int), wfD xs d i → (∀ k, k < 192 → 0 ≤ C k ∧ C k < 512) → ∀ k, k < 192 → 0 ≤ lLoop xs d i C k ∧ lLoop xs d i C k < 512
  | 0, _, _, _, h => h
  | d + 1, i, C, hw, h => by
    have eL : lLoop xs (d + 1) i C = if xs.length < i + 8 then C else lLoop xs d (i + lStep xs i) (lR xs i C) := rfl
    rw [eL]
    by_cases q : xs.length < i + 8
    · rw [if_pos q]
      exact h
    · rw [if_neg q]
      rcases hw with hw | ⟨w1, w2, w3, w4, w5, w6, w7, w8⟩
      · omega
      · refine lLoop_ok hb d _ _ w8 (lCs_ok _ _ _ _ h (fun m hm => ?_))
        have hp : ∀ j, j < xs.length → 0 ≤ bt xs j := fun j hj => (hb.at hj).1
        have eS : lStep xs i = if bt xs (i + 1) = 1 then 6 else 4 + 2 * (max (bt xs (i + 3) - bt xs (i + 2) + 1) 1).toNat := rfl
        by_cases u : bt xs (i + 1) = 1
        · rw [if_pos u] at eS ⊢
          have := w7 0 (by omega)
          simp only [Nat.zero_mul, Nat.add_zero, Nat.mul_zero] at this ⊢
          exact ⟨⟨hp _ (by omega), this.1⟩, hp _ (by omega), this.2⟩
        · rw [if_neg u] at eS ⊢
          have := w7 m (by omega)
          rw [show i + 5 + 2 * m = i + 4 + 2 * m + 1 by omega] at this
          exact ⟨⟨hp _ (by omega), this.1⟩, hp _ (by omega), this.2⟩
theorem scr_ok {C : Nat → Int} {n : Nat} (h : ∀ k, k < 192 → 0 ≤ C k ∧ C k < 512) : ∀ k, k < 192 → 0 ≤ scr n C k ∧ scr n C k < 512 := by
  intro k hk
  unfold scr
  rw [if_neg (by omega)]
  split
  · exact h _ (by omega)
  · omega
theorem lLay_ok {T : Int} {x : sC} (hl : let1 T xs) (hx : cellsOK x) : cellsOK (lLay xs x) ∧ (lLay xs x).2 = (bt xs 8, bt xs 9) := by
  obtain ⟨hb, hw, h13, h10, -, -, -, b8, b9, b10, wf⟩ := hl
  have p8 : 0 ≤ bt xs 8 := (hb.at (i := 8) (by omega)).1
  have p9 : 0 ≤ bt xs 9 := (hb.at (i := 9) (by omega)).1
  have e2 : (lLay xs x).2 = (bt xs 8, bt xs 9) := if_pos ⟨p8, b8, p9, b9⟩
  refine ⟨⟨?_, lLoop_ok hb _ _ _ wf (scr_ok hx.2)⟩, e2⟩
  unfold s_in
  rw [e2]
  exact ⟨p8, b8, p9, b9⟩
theorem stl_bad (g : Nat → Nat → Int) (tk : Int) (x : sC) : ∀ (d i : Nat) (cf : Int), (stl g tk x d i cf).2.2 = true → (stl g tk x d i cf).1 < i + d
  | 0, i, cf, h => by cases h
  | d + 1, i, cf, h => by
    rw [stl_s] at h ⊢
    by_cases q : g i 0 ≤ tk
    · rw [if_pos q] at h ⊢
      by_cases r : grt tk x (g i) = true
      · rw [if_pos r] at h ⊢
        have := stl_bad g tk x d (i + 1) _ h
        omega
      · rw [if_neg r]
        show i < i + (d + 1)
        omega
    · rw [if_neg q] at h
      cases h
theorem good_dropN {j : Nat} (hG : Good B c l) (hj : (j : Int) < c.1 20) : Good B (dropN c j) l := by
  obtain ⟨gv, g2, ⟨g3, g4, g5⟩, g6, g7, g8, g9, g10⟩ := hG
  have e20 : (dropN c j).1 20 = c.1 20 - j := rfl
  have eS : ∀ i, (dropN c j).2.2.1 0 i = c.2.2.1 0 (i + j) := fun i => rfl
  refine ⟨?_, g2, ⟨fun i hi => ?_, fun i hi => ?_, fun i k hik hk => ?_⟩, g6, g7, g8, g9, g10⟩
  · unfold gV at *
    simp (decide := true) only [dropN, fup, if_true, if_false]
    omega
  · exact g3 i hi
  · rw [e20] at hi
    rw [eS]
    exact g4 (i + j) (by omega)
  · rw [e20] at hk
    rw [eS, eS]
    exact g5 (i + j) (k + j) (by omega) (by omega)
theorem good_vS {k : Nat} {v : Int} (hG : Good B c l) (hv : gV B (fup c.1 k v)) (h7 : k ≠ 7) (h12 : k ≠ 12) (h13 : k ≠ 13) (h20 : k ≠ 20) (h21 : k ≠ 21) : Good B (vS c k v) l := by
  obtain ⟨gv, g2, g3, g6, g7, g8, g9, g10⟩ := hG
  refine ⟨hv, g2, ?_, ?_, ?_, g8, ?_, ?_⟩
  · unfold gS at *
    rw [vS_n (Ne.symm h12), vS_n (Ne.symm h7), vS_n (Ne.symm h13), vS_n (Ne.symm h20)]
    exact g3
  · rw [vS_n (Ne.symm h13)]; exact g6
  · rw [vS_n (Ne.symm h21)]; exact g7
  · rw [vS_n (Ne.symm h13)]; exact g9
  · rw [vS_n (Ne.symm h13)]; exact g10
theorem good_addN {t : sT} (hG : Good B c l) (hn : c.1 20 ≤ 31) (h1 : cellsOK t.1) (h2 : 0 ≤ t.2.1 ∧ t.2.1 < 65536) (h3 : 0 ≤ t.2.2 ∧ t.2.2 < 65536) (h4 : (newN c).2.1 < t.2.1) : Good B (addS c 0 20 t) l := by
  obtain ⟨gv, g2, ⟨g3, g4, g5⟩, g6, g7, g8, g9, g10⟩ := hG
  have hV : 1 ≤ c.1 20 := by unfold gV at gv; omega
  have e20 : (addS c 0 20 t).1 20 = c.1 20 + 1 := rfl
  have eO : ∀ i, i ≠ (c.1 20).toNat → (addS c 0 20 t).2.2.1 0 i = c.2.2.1 0 i := fun i hi => if_neg (fun z => hi z.2)
  have eN : (addS c 0 20 t).2.2.1 0 (c.1 20).toNat = t := if_pos ⟨rfl, rfl⟩
  have eF : ∀ i, (addS c 0 20 t).2.2.1 1 i = c.2.2.1 1 i := fun i => rfl
  refine ⟨?_, g2, ⟨fun i hi => ?_, fun i hi => ?_, fun i k hik hk => ?_⟩, g6, g7, g8, g9, g10⟩
  · unfold gV at *
    simp (decide := true) only [addS, fup, if_true, if_false]
    omega
  · rw [eF]
    exact g3 i hi
  · rw [e20] at hi
    by_cases e : i = (c.1 20).toNat
    · rw [e, eN]
      exact ⟨h1, h2, h3⟩
    · rw [eO i e]
      exact g4 i (by omega)
  · rw [e20] at hk
    have e : i ≠ (c.1 20).toNat := by omega
    rw [eO i e]
    by_cases e2 : k = (c.1 20).toNat
    · rw [e2, eN]
      have : (c.2.2.1 0 i).2.1 ≤ (newN c).2.1 := by
        by_cases e3 : i = (c.1 20 - 1).toNat
        · rw [e3]
          exact Int.le_refl _
        · exact Int.le_of_lt (g5 i (c.1 20 - 1).toNat (by omega) (by omega))
      omega
    · rw [eO k e2]
      exact g5 i k hik (by omega)
theorem good_settS (hG : Good B c l) : Good B (settS c) l := by
  obtain ⟨gv, g2, g3, g6, g7, g8, g9, g10⟩ := hG
  have hV : 0 ≤ c.1 21 ∧ c.1 21 ≤ 60 := by unfold gV at gv; omega
  have hle := stl_le c.2.2.2.2 (newN c).2.2 (newN c).1 (c.1 21).toNat 0 (c.1 22)
  have hbd := stl_bad c.2.2.2.2 (newN c).2.2 (newN c).1 (c.1 21).toNat 0 (c.1 22)
  have hle' : (stlS c).1 ≤ (c.1 21).toNat := by
    have := hle.2
    unfold stlS
    omega
  have hbd' : (stlS c).2.2 = true → (stlS c).1 < (c.1 21).toNat := fun z => by
    have := hbd z
    unfold stlS
    omega
  unfold settS
  by_cases bad : (stlS c).2.2 = true
  · rw [if_pos bad]
    have := hbd' bad
    refine ⟨?_, g2, g3, g6, fun i hi => ?_, g8, g9, g10⟩
    · unfold gV at *
      simp (decide := true) only [setG, vS, fup, if_true, if_false, true_and]
      omega
    · have e : (vS (setG (vS (vS (vS (vS c 31 (c.1 31 + (stlS c).1)) 22 (stlS c).2.1) 32 (c.1 32 + 1)) 33 (c.1 33 + (c.1 21 - (stlS c).1))) 0 c.2.2.2.2) 23 (c.1 23 + 1)).1 21 = 0 := rfl
      rw [e] at hi
      omega
  · rw [if_neg bad]
    refine ⟨?_, g2, g3, g6, fun i hi => ?_, g8, g9, g10⟩
    · unfold gV at *
      simp (decide := true) only [setG, vS, fup, if_true, if_false]
      omega
    · have e : (setG (vS (vS c 31 (c.1 31 + (stlS c).1)) 22 (stlS c).2.1) (c.1 21 - (stlS c).1) (fun i => c.2.2.2.2 (i + (stlS c).1))).1 21 = c.1 21 - (stlS c).1 := rfl
      rw [e] at hi
      exact g7 (i + (stlS c).1) (by omega)
/-- how many states the near end keeps at most -/
theorem near_room (hG : Good B c l) {t u : Int} (h0 : (c.2.2.1 0 0).2.1 = t) (h1 : (newN c).2.1 < u) (h2 : u ≤ t + 31) : c.1 20 ≤ 31 := by
  obtain ⟨gv, g2, ⟨g3, g4, g5⟩, g6, g7, g8, g9, g10⟩ := hG
  have hV : 1 ≤ c.1 20 ∧ c.1 20 ≤ 32 := by unfold gV at gv; omega
  have : ∀ i : Nat, (i : Int) < c.1 20 → t + i ≤ (c.2.2.1 0 i).2.1 := by
    intro i
    induction i with
    | zero => intro _; rw [h0]; omega
    | succ i ih =>
      intro hi
      have a := ih (by omega)
      have b := g5 i (i + 1) (by omega) hi
      omega
  have a := this (c.1 20 - 1).toNat (by omega)
  have b : (c.2.2.1 0 (c.1 20 - 1).toNat).2.1 < u := h1
  omega
end gNear
