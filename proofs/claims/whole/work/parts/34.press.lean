/-! THE CLASS'S FAR END: a key pressed, part by part -/
def s_echo (pen k : Int) (x : sC) : sC :=
  if 32 ≤ k ∧ k ≤ 126 then s_put (128 * pen + k) x else if k = 13 then s_nl x else if k = 8 then s_rub x
  else if k = 1 then s_step (-1) 0 x else if k = 2 then s_step 1 0 x else if k = 3 then s_step 0 1 x else if k = 4 then s_step 0 (-1) x else x
theorem s_echo_in {pen k : Int} {x : sC} (h : s_in x) : s_in (s_echo pen k x) := by
  unfold s_echo
  repeat' split
  all_goals first | exact s_put_in h | exact s_nl_in h | exact s_rub_in h | exact s_step_in h | exact h
abbrev s_left (k : Int) (x : sC) : Prop := ((k = 8 ∨ k = 4) ∧ x.2.2 ≤ 1) ∨ (k = 1 ∨ k = 2) ∨ ((32 ≤ k ∧ k ≤ 126) ∧ 23 ≤ x.2.2)
def s_star (pen : Int) : Nat → sC → sC
  | 0, x => x
  | n + 1, x => s_star pen n (s_put (128 * pen + 42) x)
def s_page (pen k : Int) (x : sC) : sC := if 32 ≤ k ∧ k ≤ 126 then (s_row 7 (128 * pen + k) (scr 1 x.1), 7, 0) else x
section zPress
variable {h : zH} {a s : Nat} {C : Nat → Int} {r c pen k : Int} {Q : Option zV → zH → Prop}
theorem zI_Scr_o {f x : Nat} (h1 : f ≠ 385) (h2 : f ≠ 386) : zI (zScr h s C r c) f x = zI h f x := by
  rw [zI_Scr, if_neg (fun e => h1 e.1), if_neg (fun e => h2 e.1)]
theorem c_echo (ha : (zK h a).1 = 10) (hR : zR h 0 a = s) (hs : sOK h s) (hin : s_in (C, r, c)) (hp : zI h 4 a = pen) (hpr : 0 ≤ pen ∧ pen ≤ 1000)
    (hQ : Q none (zScr h s (s_echo pen k (C, r, c)).1 (s_echo pen k (C, r, c)).2.1 (s_echo pen k (C, r, c)).2.2)) :
    zE 10 0 [some (.inr a), some (.inl k)] [] (zScr h s C r c) Q := by
  have h1 := hs.1
  have hpe : zI (zScr h s C r c) 4 a = pen := (zI_Scr_o (by decide) (by decide)).trans hp
  rw [xX1_echo_0]
  refine c_isSign ?_
  simp only [Option.toList_some, List.cons_append, List.nil_append]
  unfold s_echo at hQ
  rw [xX1_echo_4]
  by_cases hk : 32 ≤ k ∧ k ≤ 126
  · rw [if_pos hk] at hQ ⊢
    rw [if_neg (by decide), xX1_echo_7, zR_Scr, hR, hpe]
    refine ⟨ha, ha, h1, c_putSign hs hin hpr (by omega) ?_⟩
    simp only [Option.toList_none, List.nil_append]
    rw [xX1_echo_19, xX1_echo_113]
    exact hQ
  · rw [if_neg hk] at hQ ⊢
    rw [if_pos rfl, xX1_echo_22]
    by_cases k13 : k = 13
    · rw [if_pos k13] at hQ
      rw [if_neg (fun e => e k13), xX1_echo_28, zR_Scr, hR]
      refine ⟨ha, h1, c_newLine hs (by have := hin.2.1; dsimp only at this; omega) ?_ hin.1⟩
      simp only [Option.toList_none, List.nil_append]
      rw [xX1_echo_35, xX1_echo_113]
      exact hQ
    · rw [if_neg k13] at hQ
      rw [if_pos k13, xX1_echo_38]
      by_cases k8 : k = 8
      · rw [if_pos k8] at hQ
        rw [if_neg (fun e => e k8), xX1_echo_44, zR_Scr, hR]
        refine ⟨ha, h1, c_rubOut hs hin ?_⟩
        simp only [Option.toList_none, List.nil_append]
        rw [xX1_echo_51, xX1_echo_113]
        exact hQ
      · rw [if_neg k8] at hQ
        rw [if_pos k8, xX1_echo_54]
        by_cases k1 : k = 1
        · rw [if_pos k1] at hQ
          rw [if_pos k1, xX1_echo_64, zR_Scr, hR, if_neg (fun e => e k1), xX1_echo_73, xX1_echo_78]
          refine ⟨ha, h1, c_step hs hin (by omega) ?_⟩
          simp only [Option.toList_none, List.nil_append]
          rw [xX1_echo_82, xX1_echo_113]
          exact hQ
        · rw [if_neg k1] at hQ
          rw [if_neg k1, xX1_echo_59]
          by_cases k2 : k = 2
          · rw [if_pos k2] at hQ
            rw [if_neg (fun e => e k2), xX1_echo_64, zR_Scr, hR, if_pos k1, xX1_echo_77, xX1_echo_78]
            refine ⟨ha, h1, c_step hs hin (by omega) ?_⟩
            simp only [Option.toList_none, List.nil_append]
            rw [xX1_echo_82, xX1_echo_113]
            exact hQ
          · rw [if_neg k2] at hQ
            rw [if_pos k2, xX1_echo_85]
            by_cases k3 : k = 3
            · rw [if_pos k3] at hQ
              rw [if_pos k3, xX1_echo_95, zR_Scr, hR, if_neg (fun e => e k3), xX1_echo_105, xX1_echo_110]
              refine ⟨ha, h1, c_step hs hin (by omega) ?_⟩
              simp only [Option.toList_none, List.nil_append]
              rw [xX1_echo_113]
              exact hQ
            · rw [if_neg k3] at hQ
              rw [if_neg k3, xX1_echo_90]
              by_cases k4 : k = 4
              · rw [if_pos k4] at hQ
                rw [if_neg (fun e => e k4), xX1_echo_95, zR_Scr, hR, if_pos k3, xX1_echo_109, xX1_echo_110]
                refine ⟨ha, h1, c_step hs hin (by omega) ?_⟩
                simp only [Option.toList_none, List.nil_append]
                rw [xX1_echo_113]
                exact hQ
              · rw [if_neg k4] at hQ
                rw [if_pos k4, xX1_echo_113]
                exact hQ
theorem c_left (ha : (zK h a).1 = 10) (hR : zR h 0 a = s) (hs : sOK h s)
    (hQ : ∀ b : Int, (b = 0 ∨ b = 1) → (b = 1 ↔ s_left k (C, r, c)) → Q (some (.inl b)) (zScr h s C r c)) :
    zE 9 0 [some (.inr a), some (.inl k)] [] (zScr h s C r c) Q := by
  have h1 := hs.1
  unfold s_left at hQ
  dsimp only at hQ
  have hc : zI (zScr h s C r c) 386 s = c := zI_Scr_c
  have e11 : zE 9 11 [some (.inr a), some (.inl k)] [] (zScr h s C r c) Q ↔ (if 1 < c then Q (some (.inl 0)) (zScr h s C r c) else Q (some (.inl 1)) (zScr h s C r c)) := by
    rw [xX1_isLeftByLines_11, zR_Scr, hR, hc]
    simp only [zK_Scr, ha, h1, true_and, xX1_isLeftByLines_22, xX1_isLeftByLines_26, xX1_isLeftByLines_27]
    simp
  have e57 : Q (some (.inl 1)) (zScr h s C r c) → zE 9 57 [some (.inr a), some (.inl k)] [] (zScr h s C r c) Q := by
    intro q
    rw [xX1_isLeftByLines_57, xX1_isLeftByLines_62]
    exact ⟨Or.inr rfl, q⟩
  have e61 : Q (some (.inl 0)) (zScr h s C r c) → zE 9 61 [some (.inr a), some (.inl k)] [] (zScr h s C r c) Q := by
    intro q
    rw [xX1_isLeftByLines_61, xX1_isLeftByLines_62]
    exact ⟨Or.inl rfl, q⟩
  have q0 := hQ 0 (Or.inl rfl)
  have q1 := hQ 1 (Or.inr rfl)
  rw [xX1_isLeftByLines_0]
  by_cases k8 : k = 8
  · rw [if_pos k8, e11]
    split
    · exact q0 (by omega)
    · exact q1 (by omega)
  · rw [if_neg k8, xX1_isLeftByLines_6]
    by_cases k4 : k = 4
    · rw [if_neg (fun e => e k4), e11]
      split
      · exact q0 (by omega)
      · exact q1 (by omega)
    · rw [if_pos k4, xX1_isLeftByLines_28]
      by_cases k1 : k = 1
      · rw [if_pos k1]
        exact e57 (q1 (by omega))
      · rw [if_neg k1, xX1_isLeftByLines_33]
        by_cases k2 : k = 2
        · rw [if_pos k2]
          exact e57 (q1 (by omega))
        · rw [if_neg k2, xX1_isLeftByLines_38]
          refine c_isSign ?_
          simp only [Option.toList_some, List.cons_append, List.nil_append]
          rw [xX1_isLeftByLines_42]
          by_cases hk : 32 ≤ k ∧ k ≤ 126
          · rw [if_pos hk, if_neg (by decide), xX1_isLeftByLines_45, zR_Scr, hR, hc]
            refine ⟨ha, h1, ?_⟩
            split
            · exact e61 (q0 (by omega))
            · exact e57 (q1 (by omega))
          · rw [if_neg hk, if_pos rfl]
            exact e61 (q0 (by omega))
end zPress
