/-! THE CLASS'S SCREENS: its methods -/
section zScrN
variable {h : zH} {s : Nat} {C D : Nat → Int} {r c v : Int} {Q : Option zV → zH → Prop}
theorem c_scrollBy {n : Int} (hs : sOK h s) (hn : 0 ≤ n ∧ n ≤ 8) (hQ : Q none (zScr h s (scr n.toNat C) r c)) : zE 62 0 [some (.inr s), some (.inl n), none, none, none] [] (zScr h s C r c) Q := by
  simp only [xX7_scrollBy_0, xX7_scrollBy_4, xX7_scrollBy_11]
  rw [if_neg (by omega), if_pos (by omega)]
  simp (disch := omega) only [zw_eq]
  have := c_scrollBy_l (n := n.toNat) (l1 := some (.inl n)) hs (by omega) hQ 192 0 (by omega)
  rw [show (24 : Int) * (n.toNat : Int) = n * 24 by omega] at this
  have e : (fun k => if k < 0 then scr n.toNat C k else C k) = C := by
    funext k
    rw [if_neg (by omega)]
  rw [e] at this
  exact this
theorem c_newLine (hs : sOK h s) (hr : r < 2147483647) (hQ : Q none (zScr h s (s_nl (C, r, c)).1 (s_nl (C, r, c)).2.1 (s_nl (C, r, c)).2.2)) (hr0 : 0 ≤ r) : zE 59 0 [some (.inr s)] [] (zScr h s C r c) Q := by
  obtain ⟨h1, h2⟩ := id hs
  rw [xX7_newLine_0, zsI_Scr_c, xX7_newLine_5, zI_Scr_r]
  refine ⟨h1, h1, ?_⟩
  unfold s_nl at hQ
  by_cases h7 : r < 7
  · rw [if_pos h7]
    rw [if_pos h7] at hQ
    rw [xX7_newLine_22, zI_Scr_r, xX7_newLine_32, zsI_Scr_r, zw_eq (by omega) (by omega)]
    exact ⟨h1, h1, hQ⟩
  · rw [if_neg h7]
    rw [if_neg h7] at hQ
    rw [xX7_newLine_14]
    refine ⟨h1, c_scrollBy hs (by omega) ?_⟩
    simp only [Option.toList_none, List.nil_append, xX7_newLine_19, xX7_newLine_32]
    exact hQ
theorem c_putSign {sg mk : Int} (hs : sOK h s) (hin : s_in (C, r, c)) (hm : 0 ≤ mk ∧ mk ≤ 1000) (hg : 0 ≤ sg ∧ sg ≤ 1000) (hQ : Q none (zScr h s (s_put (128 * mk + sg) (C, r, c)).1 (s_put (128 * mk + sg) (C, r, c)).2.1 (s_put (128 * mk + sg) (C, r, c)).2.2)) : zE 58 0 [some (.inr s), some (.inl sg), some (.inl mk)] [] (zScr h s C r c) Q := by
  obtain ⟨h1, h2⟩ := id hs
  obtain ⟨i1, i2, i3, i4⟩ := hin
  dsimp only at i1 i2 i3 i4
  rw [xX7_putSign_0, zI_Scr_r, zI_Scr_c]
  refine ⟨h1, h1, h1, ?_⟩
  simp (disch := omega) only [zw_eq]
  refine c_set hs ?_
  rw [if_pos ⟨i1, i2, i3, i4⟩]
  simp only [Option.toList_none, List.nil_append]
  rw [xX7_putSign_19, zI_Scr_c]
  refine ⟨h1, ?_⟩
  unfold s_put at hQ
  dsimp only at hQ
  rw [show mk * 128 + sg = 128 * mk + sg by omega]
  by_cases h23 : c < 23
  · rw [if_pos h23]
    rw [if_pos h23] at hQ
    rw [xX7_putSign_35, zI_Scr_c, xX7_putSign_45, zsI_Scr_c, zw_eq (by omega) (by omega)]
    exact ⟨h1, h1, hQ⟩
  · rw [if_neg h23]
    rw [if_neg h23] at hQ
    rw [xX7_putSign_28]
    refine ⟨h1, c_newLine hs (by omega) ?_ i1⟩
    simp only [Option.toList_none, List.nil_append, xX7_putSign_32, xX7_putSign_45]
    exact hQ
theorem c_rubOut (hs : sOK h s) (hin : s_in (C, r, c)) (hQ : Q none (zScr h s (s_rub (C, r, c)).1 (s_rub (C, r, c)).2.1 (s_rub (C, r, c)).2.2)) : zE 60 0 [some (.inr s)] [] (zScr h s C r c) Q := by
  obtain ⟨h1, h2⟩ := id hs
  obtain ⟨i1, i2, i3, i4⟩ := hin
  dsimp only at i1 i2 i3 i4
  rw [xX7_rubOut_0, zI_Scr_c]
  refine ⟨h1, ?_⟩
  unfold s_rub at hQ
  dsimp only at hQ
  by_cases h0 : c ≤ 0
  · rw [if_pos h0, xX7_rubOut_31]
    rw [if_pos h0] at hQ
    exact hQ
  · rw [if_neg h0]
    rw [if_neg h0] at hQ
    rw [xX7_rubOut_7, zI_Scr_c, zsI_Scr_c, zw_eq (by omega) (by omega), xX7_rubOut_17, zI_Scr_c, zI_Scr_r]
    refine ⟨h1, h1, h1, h1, h1, c_set hs ?_⟩
    rw [if_pos (by omega)]
    simp only [Option.toList_none, List.nil_append, xX7_rubOut_31]
    exact hQ
theorem c_step {dr dc : Int} (hs : sOK h s) (hin : s_in (C, r, c)) (hd : -100 ≤ dr ∧ dr ≤ 100 ∧ -100 ≤ dc ∧ dc ≤ 100) (hQ : Q none (zScr h s (s_step dr dc (C, r, c)).1 (s_step dr dc (C, r, c)).2.1 (s_step dr dc (C, r, c)).2.2)) : zE 61 0 [some (.inr s), some (.inl dr), some (.inl dc), none, none] [] (zScr h s C r c) Q := by
  obtain ⟨h1, h2⟩ := id hs
  obtain ⟨i1, i2, i3, i4⟩ := hin
  dsimp only at i1 i2 i3 i4
  simp only [xX7_step_0, xX7_step_19, xX7_step_25, xX7_step_30, xX7_step_37, xX7_step_42, xX7_step_48, zI_Scr_r, zI_Scr_c, zsI_Scr_r, zsI_Scr_c, zK_Scr, h1, true_and]
  simp (disch := omega) only [zw_eq]
  unfold s_step at hQ
  dsimp only at hQ
  by_cases hi : 0 ≤ r + dr ∧ r + dr < 8 ∧ 0 ≤ c + dc ∧ c + dc < 24
  · rw [if_neg (by omega), if_neg (by omega), if_neg (by omega), if_neg (by omega)]
    rw [if_pos hi] at hQ
    exact hQ
  · rw [if_neg hi] at hQ
    (repeat' split) <;> first | exact hQ | omega
theorem c_fillRow_l {x : Int} (hs : sOK h s) (hx : 0 ≤ x ∧ x < 8) (hQ : Q none (zScr h s (s_row x v C) r c)) : ∀ (m i : Nat), i + m = 24 → zE 63 2 [some (.inr s), some (.inl x), some (.inl v), some (.inl i)] [] (zScr h s (fun k : Nat => if 24 * x ≤ (k : Int) ∧ (k : Int) < 24 * x + i then v else C k) r c) Q := by
  obtain ⟨h1, h2⟩ := id hs
  intro m
  induction m with
  | zero =>
    intro i hi
    rw [xX7_fillRow_2, if_pos (by omega), xX7_fillRow_21]
    have : i = 24 := by omega
    subst this
    exact hQ
  | succ m ih =>
    intro i hi
    rw [xX7_fillRow_2, if_neg (by omega), xX7_fillRow_8]
    refine ⟨h1, c_set hs ?_⟩
    rw [if_pos (by omega)]
    simp only [Option.toList_none, List.nil_append]
    rw [xX7_fillRow_15, zw_eq (by omega) (by omega)]
    have e : fup (fun k : Nat => if 24 * x ≤ (k : Int) ∧ (k : Int) < 24 * x + i then v else C k) (24 * x + i).toNat v = (fun k : Nat => if 24 * x ≤ (k : Int) ∧ (k : Int) < 24 * x + (i + 1 : Nat) then v else C k) := by
      funext k
      unfold fup
      by_cases hk : k = (24 * x + i).toNat
      · rw [if_pos hk, if_pos (by omega)]
      · rw [if_neg hk]
        dsimp only
        by_cases hk2 : 24 * x ≤ (k : Int) ∧ (k : Int) < 24 * x + i
        · rw [if_pos hk2, if_pos (by omega)]
        · rw [if_neg hk2, if_neg (by omega)]
    rw [e]
    have := ih (i + 1) (by omega)
    rw [show ((i + 1 : Nat) : Int) = (i : Int) + 1 by omega] at this ⊢
    exact this
theorem c_fillRow {x : Int} (hs : sOK h s) (hx : 0 ≤ x ∧ x < 8) (hQ : Q none (zScr h s (s_row x v C) r c)) : zE 63 0 [some (.inr s), some (.inl x), some (.inl v), none] [] (zScr h s C r c) Q := by
  rw [xX7_fillRow_0]
  have := c_fillRow_l hs hx hQ 24 0 (by omega)
  have e : (fun k : Nat => if 24 * x ≤ (k : Int) ∧ (k : Int) < 24 * x + (0 : Nat) then v else C k) = C := by
    funext k
    rw [if_neg (by omega)]
  rw [e] at this
  exact this
/-- Arrays.fill -/
theorem c_fill_l {a N : Nat} (hk : zK h a = (1, N)) (hN : N < 2147483647) (hQ : Q none (zAs h a (fun k => if k < N then v else zA h a k))) : ∀ (m i : Nat), i + m = N → zE 176 5 [some (.inr a), some (.inl v), some (.inl i), some (.inl N)] [] (zAs h a (fun k => if k < i then v else zA h a k)) Q := by
  intro m
  induction m with
  | zero =>
    intro i hi
    rw [xJ7_fill_53178_5, if_pos (by omega), xJ7_fill_53178_20]
    have : i = N := by omega
    subst this
    exact hQ
  | succ m ih =>
    intro i hi
    have hk' : zK (zAs h a (fun k => if k < i then v else zA h a k)) a = (1, N) := hk
    rw [xJ7_fill_53178_5, if_neg (by omega), xJ7_fill_53178_10, hk', zsA_As, xJ7_fill_53178_14, zw_eq (by omega) (by omega)]
    refine ⟨rfl, ⟨by omega, by show (i : Int) < (N : Int); omega⟩, ?_⟩
    have e : fup (fun k => if k < i then v else zA h a k) (i : Int).toNat v = (fun k => if k < i + 1 then v else zA h a k) := by
      funext k
      unfold fup
      by_cases hk : k = (i : Int).toNat
      · rw [if_pos hk, if_pos (by omega)]
      · rw [if_neg hk]
        dsimp only
        by_cases hk2 : k < i
        · rw [if_pos hk2, if_pos (by omega)]
        · rw [if_neg hk2, if_neg (by omega)]
    rw [e]
    have := ih (i + 1) (by omega)
    rw [show ((i + 1 : Nat) : Int) = (i : Int) + 1 by omega] at this
    exact this
theorem c_fill {a N : Nat} (hk : zK h a = (1, N)) (hN : N < 2147483647) (hQ : Q none (zAs h a (fun k => if k < N then v else zA h a k))) : zE 176 0 [some (.inr a), some (.inl v), none, none] [] h Q := by
  rw [xJ7_fill_53178_0, hk]
  refine ⟨⟨by show 1 ≤ 1; omega, by show 1 ≤ 5; omega⟩, ?_⟩
  have := c_fill_l hk hN hQ N 0 (by omega)
  have e : zAs h a (fun k => if k < 0 then v else zA h a k) = h := by
    have e2 : (fun k => if k < 0 then v else zA h a k) = zA h a := by
      funext k
      rw [if_neg (by omega)]
    rw [e2, zAs_id]
  rw [e] at this
  exact this
def s_blank (C : Nat → Int) : Nat → Int := fun k => if k < 192 then 32 else C k
theorem c_clear (hs : sOK h s) (hQ : Q none (zScr h s (s_blank C) 0 0)) : zE 53 0 [some (.inr s)] [] (zScr h s C r c) Q := by
  obtain ⟨h1, h2⟩ := id hs
  rw [xX7_clear_0]
  refine ⟨h1, c_fill (N := 192) h2 (by omega) ?_⟩
  rw [zR_Scr, zA_Scr_s, zAs_Scr]
  simp only [Option.toList_none, List.nil_append]
  rw [xX7_clear_9, zsI_Scr_r, xX7_clear_14, zsI_Scr_c, xX7_clear_19]
  exact ⟨h1, h1, hQ⟩
theorem c_copyFrom {o : Nat} (hs : sOK h s) (ho : sOK h o) (hso : s ≠ o) (hQ : Q none (zScr h s (fun k => if k < 192 then zA h (zR h 384 o) k else zA h (zR h 384 s) k) (zI h 385 o) (zI h 386 o))) : zE 54 0 [some (.inr s), some (.inr o)] [] h Q := by
  obtain ⟨h1, h2⟩ := id hs
  obtain ⟨o1, o2⟩ := id ho
  simp only [xX7_copyFrom_0, xX7_copyFrom_16, xX7_copyFrom_24, xX7_copyFrom_32, zK_cp, zK_sI, zI_cp, zR_sI, zR_cp, h1, h2, o1, o2, true_and]
  refine ⟨by omega, ⟨by omega, by omega⟩, ?_⟩
  have e : zsI (zsI (zcp h (zR h 384 o) (zR h 384 s) (192 : Int).toNat) 385 s (zI h 385 o)) 386 s (zI (zsI (zcp h (zR h 384 o) (zR h 384 s) (192 : Int).toNat) 385 s (zI h 385 o)) 386 o) = zScr h s (fun k => if k < 192 then zA h (zR h 384 o) k else zA h (zR h 384 s) k) (zI h 385 o) (zI h 386 o) := by
    refine zH_ext rfl ?_ rfl ?_ rfl rfl rfl
    · funext f x
      simp only [zI_sI, zI_cp, zI_Scr]
      rw [if_neg (show ¬ ((386 : Nat) = 385 ∧ o = s) by omega)]
      by_cases h1 : f = 385 ∧ x = s
      · rw [if_neg (by omega), if_pos h1, if_pos h1]
      · by_cases h2 : f = 386 ∧ x = s
        · rw [if_pos h2, if_neg h1, if_pos h2]
        · rw [if_neg h2, if_neg h1, if_neg h1, if_neg h2]
    · funext x k
      simp only [zA_sI, zA_cp, zA_Scr]
      by_cases h1 : x = zR h 384 s
      · rw [if_pos h1]
        by_cases h2 : k < 192
        · rw [if_pos ⟨h1, h2⟩, if_pos h2]
        · rw [if_neg (fun q => h2 q.2), if_neg h2, h1]
      · rw [if_neg (fun q => h1 q.1), if_neg h1]
  rw [e]
  exact hQ
theorem c_isLike_l {o : Nat} (hs : sOK h s) (ho : sOK h o) {l2 : Option zV} (hQ : ∀ b : Int, (b = 0 ∨ b = 1) → (b = 1 ↔ ((∀ k, k < 192 → zA h (zR h 384 s) k = zA h (zR h 384 o) k) ∧ zI h 385 s = zI h 385 o ∧ zI h 386 s = zI h 386 o)) → Q (some (.inl b)) h) :
    ∀ (m i : Nat), i + m = 192 → (∀ k, k < i → zA h (zR h 384 s) k = zA h (zR h 384 o) k) → zE 55 2 [some (.inr s), some (.inr o), some (.inl i)] [] h Q := by
  obtain ⟨h1, h2⟩ := id hs
  obtain ⟨o1, o2⟩ := id ho
  intro m
  induction m with
  | zero =>
    intro i hi hk
    have : i = 192 := by omega
    subst this
    rw [xX7_isLike_2, if_pos (by omega)]
    simp only [xX7_isLike_32, xX7_isLike_43, xX7_isLike_54, xX7_isLike_58, xX7_isLike_59, h1, o1, true_and]
    by_cases hr : zI h 385 s = zI h 385 o
    · rw [if_neg (fun q => q hr)]
      by_cases hc : zI h 386 s = zI h 386 o
      · rw [if_neg (fun q => q hc)]
        exact ⟨Or.inr trivial, hQ 1 (Or.inr rfl) ⟨fun _ => ⟨hk, hr, hc⟩, fun _ => rfl⟩⟩
      · rw [if_pos hc]
        exact ⟨Or.inl trivial, hQ 0 (Or.inl rfl) ⟨fun q => absurd q (by decide), fun q => absurd q.2.2 hc⟩⟩
    · rw [if_pos hr]
      exact ⟨Or.inl trivial, hQ 0 (Or.inl rfl) ⟨fun q => absurd q (by decide), fun q => absurd q.2.1 hr⟩⟩
  | succ m ih =>
    intro i hi hk
    rw [xX7_isLike_2, if_neg (by omega)]
    simp only [xX7_isLike_9, xX7_isLike_24, xX7_isLike_26, h1, h2, o1, o2, true_and]
    rw [zw_eq (by omega) (by omega), Int.toNat_natCast]
    refine ⟨Or.inl trivial, ⟨by omega, by omega⟩, Or.inl trivial, ⟨by omega, by omega⟩, ?_⟩
    by_cases he : zA h (zR h 384 s) i = zA h (zR h 384 o) i
    · rw [if_pos he]
      have := ih (i + 1) (by omega) (fun k hk2 => by
        by_cases hki : k = i
        · subst hki; exact he
        · exact hk k (by omega))
      rw [show ((i + 1 : Nat) : Int) = (i : Int) + 1 by omega] at this
      exact this
    · rw [if_neg he]
      exact ⟨Or.inl trivial, hQ 0 (Or.inl rfl) ⟨fun q => absurd q (by decide), fun q => absurd (q.1 i (by omega)) he⟩⟩
theorem c_isLike {o : Nat} (hs : sOK h s) (ho : sOK h o) (hQ : ∀ b : Int, (b = 0 ∨ b = 1) → (b = 1 ↔ ((∀ k, k < 192 → zA h (zR h 384 s) k = zA h (zR h 384 o) k) ∧ zI h 385 s = zI h 385 o ∧ zI h 386 s = zI h 386 o)) → Q (some (.inl b)) h) :
    zE 55 0 [some (.inr s), some (.inr o), none] [] h Q := by
  rw [xX7_isLike_0]
  exact c_isLike_l (l2 := none) hs ho hQ 192 0 (by omega) (fun k hk => absurd hk (by omega))
end zScrN
