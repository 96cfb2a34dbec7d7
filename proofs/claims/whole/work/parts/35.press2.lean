/-! THE CLASS'S FAR END: a key pressed -/
def s_pass (pen k : Int) (x : sC) (p : Int) : sC × Int :=
  if 32 ≤ k ∧ k ≤ 126 then (x, min (p + 1) 20) else if k = 8 then (x, max (p - 1) 0) else if k = 13 then (s_nl (s_star pen p.toNat x), 0) else (x, p)
def s_press (prog pen k : Int) (x : sC) (p : Int) : sC × Int :=
  if prog = 2 then s_pass pen k x p else if prog = 3 then (s_page pen k x, p) else if prog = 1 ∧ k = 13 then (s_put (128 * pen + 62) (s_nl x), p)
  else if prog = 1 ∧ s_left k x then (x, p) else (s_echo pen k x, p)
theorem s_star_in {pen : Int} : ∀ (n : Nat) {x : sC}, s_in x → s_in (s_star pen n x)
  | 0, _, h => h
  | n + 1, _, h => s_star_in n (s_put_in h)
theorem s_page_in {pen k : Int} {x : sC} (h : s_in x) : s_in (s_page pen k x) := by
  unfold s_page
  split
  · unfold s_in; dsimp only; omega
  · exact h
theorem s_pass_in {pen k p : Int} {x : sC} (h : s_in x) : s_in (s_pass pen k x p).1 := by
  unfold s_pass
  repeat' split
  · exact h
  · exact h
  · exact s_nl_in (s_star_in _ h)
  · exact h
theorem s_pass_p {pen k p : Int} {x : sC} (h : 0 ≤ p ∧ p ≤ 20) : 0 ≤ (s_pass pen k x p).2 ∧ (s_pass pen k x p).2 ≤ 20 := by
  unfold s_pass
  repeat' split
  all_goals (dsimp only; omega)
theorem s_press_in {prog pen k p : Int} {x : sC} (h : s_in x) : s_in (s_press prog pen k x p).1 := by
  unfold s_press
  repeat' split
  · exact s_pass_in h
  · exact s_page_in h
  · exact s_put_in (s_nl_in h)
  · exact h
  · exact s_echo_in h
theorem s_press_p {prog pen k p : Int} {x : sC} (h : 0 ≤ p ∧ p ≤ 20) : 0 ≤ (s_press prog pen k x p).2 ∧ (s_press prog pen k x p).2 ≤ 20 := by
  unfold s_press
  repeat' split
  · exact s_pass_p h
  all_goals exact h
theorem zsI_id {h : zH} {f a : Nat} {v : Int} (e : zI h f a = v) : zsI h f a v = h := by
  refine zH_ext rfl ?_ rfl rfl rfl rfl rfl
  funext f' x
  by_cases q : f' = f ∧ x = a
  · obtain ⟨rfl, rfl⟩ := q
    rw [zI_sI_s, e]
  · exact if_neg q
section zPress2
variable {h : zH} {a s : Nat} {x : sC} {pen k p prog : Int} {Q : Option zV → zH → Prop}
theorem c_pass_l (ha : (zK h a).1 = 10) (hR : zR h 0 a = s) (hs : sOK h s) (hp : zI h 4 a = pen) (hpr : 0 ≤ pen ∧ pen ≤ 1000) (hq : zI h 3 a = p) (hq2 : p ≤ 20) {l1 : Option zV} :
    ∀ (d i : Nat) (x : sC), (i : Int) + d = p → s_in x → Q none (zsI (zScr h s (s_nl (s_star pen d x)).1 (s_nl (s_star pen d x)).2.1 (s_nl (s_star pen d x)).2.2) 3 a 0) →
    zE 11 56 [some (.inr a), l1, some (.inl i)] [] (zScr h s x.1 x.2.1 x.2.2) Q := by
  have h1 := hs.1
  intro d
  induction d with
  | zero =>
    intro i x hi hin hQ
    rw [xX1_pressPass_56, zI_Scr_o (by decide) (by decide), hq, if_pos (by omega), xX1_pressPass_83, zR_Scr, hR]
    refine ⟨ha, ha, h1, c_newLine hs (by have := hin.2.1; omega) ?_ hin.1⟩
    simp only [Option.toList_none, List.nil_append]
    rw [xX1_pressPass_90, xX1_pressPass_95]
    exact ⟨ha, hQ⟩
  | succ d ih =>
    intro i x hi hin hQ
    rw [xX1_pressPass_56, zI_Scr_o (by decide) (by decide), hq, if_neg (by omega), xX1_pressPass_64, zR_Scr, hR, zI_Scr_o (by decide) (by decide), hp]
    refine ⟨ha, ha, ha, h1, c_putSign hs hin hpr (by omega) ?_⟩
    simp only [Option.toList_none, List.nil_append]
    rw [xX1_pressPass_77, zw_eq (by omega) (by omega)]
    exact ih (i + 1) (s_put (128 * pen + 42) x) (by omega) (s_put_in hin) hQ
theorem c_pass (ha : (zK h a).1 = 10) (hR : zR h 0 a = s) (hs : sOK h s) (hp : zI h 4 a = pen) (hpr : 0 ≤ pen ∧ pen ≤ 1000) (hq : zI h 3 a = p) (hq2 : 0 ≤ p ∧ p ≤ 20) (hin : s_in x)
    (hQ : Q none (zsI (zScr h s (s_pass pen k x p).1.1 (s_pass pen k x p).1.2.1 (s_pass pen k x p).1.2.2) 3 a (s_pass pen k x p).2)) :
    zE 11 0 [some (.inr a), some (.inl k), none] [] (zScr h s x.1 x.2.1 x.2.2) Q := by
  have h1 := hs.1
  have hqe : zI (zScr h s x.1 x.2.1 x.2.2) 3 a = p := (zI_Scr_o (by decide) (by decide)).trans hq
  rw [xX1_pressPass_0]
  refine c_isSign ?_
  simp only [Option.toList_some, List.cons_append, List.nil_append]
  unfold s_pass at hQ
  rw [xX1_pressPass_4]
  by_cases hk : 32 ≤ k ∧ k ≤ 126
  · rw [if_pos hk] at hQ ⊢
    rw [if_neg (by decide), xX1_pressPass_7, hqe, xX1_pressPass_19, xX1_pressPass_22, xX1_pressPass_95, zw_eq (by omega) (by omega)]
    exact ⟨ha, ha, hQ⟩
  · rw [if_neg hk] at hQ ⊢
    rw [if_pos rfl, xX1_pressPass_25]
    by_cases k8 : k = 8
    · rw [if_pos k8] at hQ
      rw [if_neg (fun e => e k8), xX1_pressPass_31, hqe, xX1_pressPass_42, xX1_pressPass_45, xX1_pressPass_95, zw_eq (by omega) (by omega)]
      exact ⟨ha, ha, hQ⟩
    · rw [if_neg k8] at hQ
      rw [if_pos k8, xX1_pressPass_48]
      by_cases k13 : k = 13
      · rw [if_pos k13] at hQ
        rw [if_neg (fun e => e k13), xX1_pressPass_54]
        exact c_pass_l ha hR hs hp hpr hq hq2.2 p.toNat 0 x (by omega) hin hQ
      · rw [if_neg k13] at hQ
        rw [if_pos k13, xX1_pressPass_95]
        dsimp only at hQ
        rw [zsI_id hqe] at hQ
        exact hQ
theorem c_pager (ha : (zK h a).1 = 10) (hR : zR h 0 a = s) (hs : sOK h s) (hp : zI h 4 a = pen) (hpr : 0 ≤ pen ∧ pen ≤ 1000)
    (hQ : Q none (zScr h s (s_page pen k x).1 (s_page pen k x).2.1 (s_page pen k x).2.2)) :
    zE 12 0 [some (.inr a), some (.inl k)] [] (zScr h s x.1 x.2.1 x.2.2) Q := by
  have h1 := hs.1
  rw [xX1_pressPager_0]
  refine c_isSign ?_
  simp only [Option.toList_some, List.cons_append, List.nil_append]
  unfold s_page at hQ
  rw [xX1_pressPager_4]
  by_cases hk : 32 ≤ k ∧ k ≤ 126
  · rw [if_pos hk] at hQ ⊢
    rw [if_neg (by decide), xX1_pressPager_7, zR_Scr, hR]
    refine ⟨ha, h1, c_scrollBy hs (by omega) ?_⟩
    simp only [Option.toList_none, List.nil_append]
    rw [xX1_pressPager_15, zR_Scr, hR, zI_Scr_o (by decide) (by decide), hp]
    have e : zw (zw (pen * 128) + k) = 128 * pen + k := by
      rw [zw_eq (x := pen * 128) (by omega) (by omega), zw_eq (by omega) (by omega)]; omega
    rw [e]
    refine ⟨ha, ha, h1, c_fillRow hs (by omega) ?_⟩
    simp only [Option.toList_none, List.nil_append]
    rw [xX1_pressPager_34, zR_Scr, hR, zsI_Scr_r, xX1_pressPager_43, zR_Scr, hR, zsI_Scr_c, xX1_pressPager_51]
    exact ⟨ha, h1, ha, h1, hQ⟩
  · rw [if_neg hk] at hQ ⊢
    rw [if_pos rfl, xX1_pressPager_51]
    exact hQ
theorem c_press (ha : (zK h a).1 = 10) (hR : zR h 0 a = s) (hs : sOK h s) (hp : zI h 4 a = pen) (hpr : 0 ≤ pen ∧ pen ≤ 1000) (hq : zI h 3 a = p) (hq2 : 0 ≤ p ∧ p ≤ 20) (hg : zI h 2 a = prog) (hin : s_in x)
    (hQ : Q none (zsI (zScr h s (s_press prog pen k x p).1.1 (s_press prog pen k x p).1.2.1 (s_press prog pen k x p).1.2.2) 3 a (s_press prog pen k x p).2)) :
    zE 8 0 [some (.inr a), some (.inl k)] [] (zScr h s x.1 x.2.1 x.2.2) Q := by
  have h1 := hs.1
  have hI : ∀ y : sC, zsI (zScr h s y.1 y.2.1 y.2.2) 3 a p = zScr h s y.1 y.2.1 y.2.2 := fun y => zsI_id ((zI_Scr_o (by decide) (by decide)).trans hq)
  have hge : zI (zScr h s x.1 x.2.1 x.2.2) 2 a = prog := (zI_Scr_o (by decide) (by decide)).trans hg
  unfold s_press at hQ
  have e85 : Q none (zScr h s (s_echo pen k x).1 (s_echo pen k x).2.1 (s_echo pen k x).2.2) → zE 8 85 [some (.inr a), some (.inl k)] [] (zScr h s x.1 x.2.1 x.2.2) Q := by
    intro q
    rw [xX1_press_85]
    refine ⟨ha, c_echo ha hR hs hin hp hpr ?_⟩
    simp only [Option.toList_none, List.nil_append]
    rw [xX1_press_90]
    exact q
  rw [xX1_press_0, hge]
  refine ⟨ha, ?_⟩
  by_cases g2 : prog = 2
  · rw [if_pos g2] at hQ
    rw [if_neg (fun e => e g2), xX1_press_8]
    refine ⟨ha, c_pass ha hR hs hp hpr hq hq2 hin ?_⟩
    simp only [Option.toList_none, List.nil_append]
    rw [xX1_press_13, xX1_press_90]
    exact hQ
  · rw [if_neg g2] at hQ
    rw [if_pos g2, xX1_press_16, hge]
    refine ⟨ha, ?_⟩
    by_cases g3 : prog = 3
    · rw [if_pos g3] at hQ
      dsimp only at hQ
      rw [hI] at hQ
      rw [if_neg (fun e => e g3), xX1_press_24]
      refine ⟨ha, c_pager ha hR hs hp hpr ?_⟩
      simp only [Option.toList_none, List.nil_append]
      rw [xX1_press_29, xX1_press_90]
      exact hQ
    · rw [if_neg g3] at hQ
      rw [if_pos g3, xX1_press_32, hge]
      refine ⟨ha, ?_⟩
      by_cases g1 : prog = 1
      · rw [if_neg (fun e => e g1), xX1_press_40]
        by_cases k13 : k = 13
        · rw [if_pos ⟨g1, k13⟩] at hQ
          dsimp only at hQ
          rw [hI] at hQ
          rw [if_neg (fun e => e k13), xX1_press_46, zR_Scr, hR]
          refine ⟨ha, h1, c_newLine hs (by have := hin.2.1; omega) ?_ hin.1⟩
          simp only [Option.toList_none, List.nil_append]
          rw [xX1_press_53, zR_Scr, hR, zI_Scr_o (by decide) (by decide), hp]
          refine ⟨ha, ha, h1, c_putSign hs (s_nl_in hin) hpr (by omega) ?_⟩
          simp only [Option.toList_none, List.nil_append]
          rw [xX1_press_66, xX1_press_90]
          exact hQ
        · rw [if_neg (fun e => k13 e.2)] at hQ
          rw [if_pos k13, xX1_press_69, hge, if_neg (fun e => e g1), xX1_press_77]
          refine ⟨ha, ha, c_left ha hR hs ?_⟩
          intro b hb hl
          simp only [Option.toList_some, List.cons_append, List.nil_append]
          rw [xX1_press_82]
          by_cases hL : s_left k x
          · rw [if_pos ⟨g1, hL⟩] at hQ
            dsimp only at hQ
            rw [hI] at hQ
            have b1 : b = 1 := hl.2 hL
            rw [if_pos (by omega), xX1_press_90]
            exact hQ
          · rw [if_neg (fun e => hL e.2)] at hQ
            dsimp only at hQ
            rw [hI] at hQ
            have b1 : ¬ b = 1 := fun e => hL (hl.1 e)
            rw [if_neg (by omega)]
            exact e85 hQ
      · rw [if_neg (fun e => g1 e.1), if_neg (fun e => g1 e.1)] at hQ
        dsimp only at hQ
        rw [hI] at hQ
        rw [if_pos g1, xX1_press_69, hge, if_pos g1]
        exact ⟨ha, e85 hQ⟩
end zPress2
