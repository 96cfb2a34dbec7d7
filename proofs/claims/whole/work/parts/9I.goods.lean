/-! WHAT MUST HOLD is kept by every call -/
section gAll
variable {c : cg} {l : lg} {B : Int} {k : Int} {xs : List Int}
theorem good_prog {p : Int} (hG : Good B c l) : Good B (progS c p) l := by
  unfold progS
  split
  · rename_i z
    have G1 : Good B (vS c 3 p) l := good_vS hG (by
      have gv := hG.1
      unfold gV at *
      simp (decide := true) only [fup, if_true, if_false, true_and, and_true, or_true, true_or]
      omega) (by decide) (by decide) (by decide) (by decide) (by decide)
    refine good_vS G1 ?_ (by decide) (by decide) (by decide) (by decide) (by decide)
    have gv := G1.1
    unfold gV at *
    simp (decide := true) only [vS, fup, if_true, if_false, true_and, and_true, or_true, true_or] at *
    omega
  · exact hG
theorem good_pen {p : Int} (hG : Good B c l) : Good B (penS c p) l := by
  unfold penS
  split
  · refine good_vS hG ?_ (by decide) (by decide) (by decide) (by decide) (by decide)
    have gv := hG.1
    unfold gV at *
    simp (decide := true) only [fup, if_true, if_false, true_and, and_true, or_true, true_or]
    omega
  · exact hG
theorem good_write {s : Int} (hG : Good B c l) : Good B (writeS c s) l := by
  have gv := hG.1
  have hV : 0 ≤ c.1 5 ∧ c.1 5 ≤ 3 := by unfold gV at gv; omega
  unfold writeS
  split
  · exact good_X hG ⟨s_put_in hG.2.1.1, cells_put hG.2.1.2 (by omega)⟩
  · split
    · exact good_X hG ⟨s_nl_in hG.2.1.1, cells_nl hG.2.1.2⟩
    · split
      · exact good_X hG ⟨s_rub_in hG.2.1.1, cells_rub hG.2.1.2⟩
      · exact hG
theorem good_move {r q : Int} (hG : Good B c l) : Good B (moveS c r q) l := by
  unfold moveS
  split
  · rename_i z
    exact good_X hG ⟨⟨z.1, z.2.1, z.2.2.1, z.2.2.2⟩, hG.2.1.2⟩
  · exact hG
theorem good_wipe {r : Int} (hG : Good B c l) : Good B (wipeS c r) l := by
  unfold wipeS
  split
  · exact good_X hG ⟨hG.2.1.1, cells_row hG.2.1.2 (by omega)⟩
  · exact hG
theorem good_scroll {n : Int} (hG : Good B c l) : Good B (scrollS c n) l := by
  unfold scrollS
  split
  · exact good_X hG ⟨hG.2.1.1, scr_ok hG.2.1.2⟩
  · exact hG
theorem good_roam (hG : Good B c l) : Good B (roamS c) l := by
  unfold roamS
  have G1 : Good B (vS c 18 (if c.1 18 = 255 then 1 else c.1 18 + 1)) l := good_vS hG (by
    have gv := hG.1
    unfold gV at *
    simp (decide := true) only [fup, if_true, if_false, true_and, and_true, or_true, true_or]
    have : 1 ≤ (if c.1 18 = 255 then 1 else c.1 18 + 1) ∧ (if c.1 18 = 255 then 1 else c.1 18 + 1) ≤ 255 := by
      split <;> omega
    omega) (by decide) (by decide) (by decide) (by decide) (by decide)
  refine good_vS G1 ?_ (by decide) (by decide) (by decide) (by decide) (by decide)
  have gv := G1.1
  generalize vS c 18 (if c.1 18 = 255 then 1 else c.1 18 + 1) = d at gv
  unfold gV at *
  simp (decide := true) only [fup, if_true, if_false, true_and, and_true, or_true, true_or]
  omega
theorem good_carry {line k how arg : Int} (hG : Good B c l) : Good (B + 1) (carryS c l line k how arg).1 (carryS c l line k how arg).2 := by
  unfold carryS
  by_cases ok : carryOK l line k how arg
  · rw [pif_pos ok]
    obtain ⟨o1, o2, o3, o4⟩ := ok
    have hj : line.toNat < 2 := by omega
    have hlet := hG.letJ hj (k := k.toNat) (by omega)
    have GL : Good B c (carryL l line.toNat k.toNat how) := by
      unfold carryL
      split
      · exact hG
      · exact hG.out hj
    show Good (B + 1) (carryC c l line.toNat k.toNat how arg) (carryL l line.toNat k.toNat how)
    unfold carryC
    split
    · exact good_1 GL (by decide) (by decide)
    · split
      · exact good_1 GL (by decide) (by decide)
      · exact good_takenS GL hlet
  · rw [pif_neg ok]
    exact hG.mono (by omega)
theorem good_keyG {n' ag' : Int} {G' : Nat → Nat → Int} (hG : Good B c l) (h13 : c.1 13 < 1000) (hk : keyOK k) (hn : 0 ≤ n' ∧ n' ≤ 60 ∧ n' ≤ c.1 21 + 1) (hg : ∀ i : Nat, (i : Int) < n' → gOK (G' i)) (ha : 1 ≤ ag' ∧ ag' ≤ c.1 23 + 1) : Good B (vS (setG (keyC c k) n' G') 23 ag') l := by
  obtain ⟨gv, g2, ⟨s1, s2, s3⟩, g4, g5, g6, g7, g8⟩ := hG
  have hV : 0 ≤ c.1 13 := by unfold gV at gv; omega
  refine ⟨?_, g2, ⟨fun i hi => ?_, s2, s3⟩, fun i hi => ?_, hg, g6, fun xs hx => ?_, fun xs hx => ?_⟩
  · unfold gV at *
    simp (decide := true) only [vS, setG, keyC, fup, if_true, if_false, true_and, and_true, or_true, true_or]
    omega
  · obtain ⟨t1, t2, t3, t4⟩ := s1 i hi
    refine ⟨t1, t2, t3, ?_⟩
    show (c.2.2.1 1 i).2.2 ≤ c.1 13 + 1
    omega
  · have hi' : (i : Int) < c.1 13 + 1 := hi
    show keyOK (fup c.2.2.2.1 (c.1 13).toNat k i)
    by_cases z : i = (c.1 13).toNat
    · rw [z, fup_s]; exact hk
    · rw [fup_n z]; exact g4 i (by omega)
  · obtain ⟨a1, a2, a3, a4, a5⟩ := g7 xs hx
    refine ⟨a1, a2, a3, a4, ?_⟩
    show _ ≤ c.1 13 + 1
    omega
  · obtain ⟨a1, a2, a3, a4, a5, a6⟩ := g8 xs hx
    refine ⟨a1, a2, a3, a4, ?_, a6⟩
    show _ ≤ c.1 13 + 1
    omega
theorem good_keyS (hG : Good B c l) (h13 : c.1 13 < 1000) (hk : keyOK k) : Good B (keyS c k) l := by
  have gv := hG.1
  have hV : (0 ≤ c.1 21 ∧ c.1 21 ≤ 60) ∧ 1 ≤ c.1 23 := by unfold gV at gv; omega
  have hcur := cur_ok hG
  have hgo := hG.2.2.2.2.1
  unfold keyS
  split
  · have e : vS (keyC c k) 23 (c.1 23 + 1) = vS (setG (keyC c k) (c.1 21) c.2.2.2.2) 23 (c.1 23 + 1) := by
      refine Prod.ext (funext fun i => ?_) rfl
      show fup (fup c.1 13 (c.1 13 + 1)) 23 (c.1 23 + 1) i = fup (fup (fup c.1 13 (c.1 13 + 1)) 21 (c.1 21)) 23 (c.1 23 + 1) i
      by_cases z : i = 21
      · subst z; rfl
      · simp only [fup, if_neg z]
    rw [e]
    exact good_keyG hG h13 hk (by omega) hgo (by omega)
  · have key : ∀ F : Nat × (Nat → Nat → Int) × Int, F = foreS c k → Good B (vS (setG (keyC c k) ((F.1 : Nat) : Int) F.2.1) 23 F.2.2) l := by
      intro F hF
      unfold foreS fore at hF
      have same : ∀ ag' : Int, 1 ≤ ag' ∧ ag' ≤ c.1 23 + 1 → Good B (vS (setG (keyC c k) (((c.1 21).toNat : Nat) : Int) c.2.2.2.2) 23 ag') l := fun ag' ha => good_keyG hG h13 hk (by omega) (fun i hi => hgo i (by omega)) ha
      have more : ∀ (q : Nat → Int) (ag' : Int), (c.1 21).toNat < 60 → gOK q → 1 ≤ ag' ∧ ag' ≤ c.1 23 + 1 → Good B (vS (setG (keyC c k) ((((c.1 21).toNat + 1 : Nat)) : Int) (fun i => if i = (c.1 21).toNat then q else c.2.2.2.2 i)) 23 ag') l := by
        intro q ag' h60 hq ha
        refine good_keyG hG h13 hk (by omega) (fun i hi => ?_) ha
        by_cases z : i = (c.1 21).toNat
        · rw [if_pos z]; exact hq
        · rw [if_neg z]; exact hgo i (by omega)
      by_cases z1 : 32 ≤ k ∧ k ≤ 126
      · rw [if_pos z1] at hF
        by_cases z2 : (c.1 21).toNat = 60
        · rw [if_pos z2] at hF; subst hF; exact same _ (by dsimp only; omega)
        · rw [if_neg z2] at hF
          subst hF
          refine more _ _ (by omega) ?_ (by dsimp only; split <;> omega)
          unfold gOK gq
          simp (decide := true) only [if_true, if_false, true_and, and_true, or_true, true_or]
          have : 0 ≤ (if curC c < 23 then curC c + 1 else curC c) ∧ (if curC c < 23 then curC c + 1 else curC c) < 24 := by split <;> omega
          omega
      · rw [if_neg z1] at hF
        by_cases z3 : k = 3
        · rw [if_pos z3] at hF
          by_cases z2 : curC c < 23 ∧ (c.1 21).toNat < 60
          · rw [if_pos z2] at hF
            subst hF
            refine more _ _ z2.2 ?_ (by dsimp only; omega)
            unfold gOK gq
            simp (decide := true) only [if_true, if_false, true_and, and_true, or_true, true_or]
            omega
          · rw [if_neg z2] at hF; subst hF; exact same _ (by dsimp only; omega)
        · rw [if_neg z3] at hF
          by_cases z4 : k = 4
          · rw [if_pos z4] at hF
            by_cases z2 : 0 < curC c ∧ (c.1 21).toNat < 60
            · rw [if_pos z2] at hF
              subst hF
              refine more _ _ z2.2 ?_ (by dsimp only; omega)
              unfold gOK gq
              simp (decide := true) only [if_true, if_false, true_and, and_true, or_true, true_or]
              omega
            · rw [if_neg z2] at hF; subst hF; exact same _ (by dsimp only; omega)
          · rw [if_neg z4] at hF; subst hF; exact same _ (by dsimp only; omega)
    exact key _ rfl
end gAll
