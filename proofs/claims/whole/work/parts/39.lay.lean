/-! THE CLASS'S DIFF: laid on a screen -/
def bt (xs : List Int) (i : Nat) : Int := xs.getD i (-1)
theorem bt_r {xs : List Int} (h : byteL xs) (i : Nat) : -1 ≤ bt xs i ∧ bt xs i < 256 := by
  unfold bt
  by_cases e : i < xs.length
  · rw [List.getD_eq_getElem?_getD, List.getElem?_eq_getElem e, Option.getD_some]
    have := h _ (List.getElem_mem e)
    omega
  · rw [List.getD_eq_getElem?_getD, List.getElem?_eq_none (by omega), Option.getD_none]
    omega
def lCs (xs : List Int) (row : Int) (stp : Nat) : Nat → Int → Nat → (Nat → Int) → (Nat → Int)
  | 0, _, _, C => C
  | n + 1, c, fr, C => lCs xs row stp n (c + 1) (fr + stp) (if 0 ≤ row ∧ row < 8 ∧ 0 ≤ c ∧ c < 24 then fup C (24 * row + c).toNat (bt xs fr + 128 * bt xs (fr + 1)) else C)
def lR (xs : List Int) (st : Nat) (C : Nat → Int) : Nat → Int :=
  lCs xs (bt xs st) (if bt xs (st + 1) = 1 then 0 else 2) (bt xs (st + 3) - bt xs (st + 2) + 1).toNat (bt xs (st + 2)) (st + 4) C
section zLay
variable {h : zH} {s l m : Nat} {xs : List Int} {C : Nat → Int} {r c : Int} {Q : Option zV → zH → Prop}
theorem isL_Scr (hL : isL h l m xs) (hn : zR h 192 l ≠ zR h 384 s) : isL (zScr h s C r c) l m xs := by
  obtain ⟨h1, h2, h3, h4⟩ := hL
  refine ⟨h1, (zI_Scr_o (by decide) (by decide)).trans h2, h3, ?_⟩
  have : zA (zScr h s C r c) (zR (zScr h s C r c) 192 l) = zA h (zR h 192 l) := funext fun i => if_neg hn
  rw [this]
  exact h4
theorem c_lay_l (hL : isL h l m xs) (hb : byteL xs) (hs : sOK h s) (hn : zR h 192 l ≠ zR h 384 s) {row u last : Int} {stp : Nat} (hu : (u = 0 ∧ stp = 2) ∨ (u = 1 ∧ stp = 0)) (hla : -1 ≤ last ∧ last < 256) {l1 l5 : Option zV} :
    ∀ (n : Nat) (x : Int) (fr : Nat) (C : Nat → Int), n = (last - x + 1).toNat → -1 ≤ x ∧ x ≤ 1000 → fr + 2 * n ≤ 1000000 → Q none (zScr h s (lCs xs row stp n x fr C) r c) →
    zE 175 51 [some (.inr l), l1, some (.inr s), some (.inl row), some (.inl u), l5, some (.inl last), some (.inl (fr : Int)), some (.inl x)] [] (zScr h s C r c) Q := by
  intro n
  induction n with
  | zero =>
    intro x fr C hx hx2 hf hQ
    rw [xX0_layRow_51, if_pos (by omega), xX0_layRow_105]
    exact hQ
  | succ n ih =>
    intro x fr C hx hx2 hf hQ
    have hL' := isL_Scr (C := C) (r := r) (c := c) hL hn
    unfold lCs at hQ
    rw [xX0_layRow_51, if_neg (by omega), xX0_layRow_58]
    refine ⟨hL.1.1, c_Lat' hL' ?_⟩
    simp only [Option.toList_some, List.cons_append, List.nil_append]
    rw [xX0_layRow_68, zw_eq (by omega) (by omega)]
    refine ⟨hL.1.1, c_Lat' (i := fr + 1) hL' ?_⟩
    simp only [Option.toList_some, List.cons_append, List.nil_append]
    have b1 := bt_r hb fr
    have b2 := bt_r hb (fr + 1)
    have e1 : xs.getD fr (-1) = bt xs fr := rfl
    have e2 : xs.getD (fr + 1) (-1) = bt xs (fr + 1) := rfl
    rw [e1, e2, xX0_layRow_79]
    have e3 : zw (bt xs fr + zw (128 * bt xs (fr + 1))) = bt xs fr + 128 * bt xs (fr + 1) := by
      rw [zw_eq (x := 128 * bt xs (fr + 1)) (by omega) (by omega), zw_eq (by omega) (by omega)]
    rw [e3]
    refine ⟨hs.1, c_set hs ?_⟩
    simp only [Option.toList_none, List.nil_append]
    have eS : (if 0 ≤ row ∧ row < 8 ∧ 0 ≤ x ∧ x < 24 then zScr h s (fup C (24 * row + x).toNat (bt xs fr + 128 * bt xs (fr + 1))) r c else zScr h s C r c) = zScr h s (if 0 ≤ row ∧ row < 8 ∧ 0 ≤ x ∧ x < 24 then fup C (24 * row + x).toNat (bt xs fr + 128 * bt xs (fr + 1)) else C) r c := by
      split <;> rfl
    rw [eS, xX0_layRow_84]
    obtain ⟨u0, s2⟩ | ⟨u1, s0⟩ := hu
    · rw [if_pos u0, xX0_layRow_95, xX0_layRow_96, zw_eq (by omega) (by omega), zw_eq (by omega) (by omega)]
      subst s2
      exact ih (x + 1) (fr + 2) _ (by omega) (by omega) (by omega) hQ
    · rw [if_neg (by omega), xX0_layRow_91, xX0_layRow_96, zw_eq (by omega) (by omega), zw_eq (by omega) (by omega)]
      subst s0
      rw [Int.add_zero]
      exact ih (x + 1) fr _ (by omega) (by omega) (by omega) hQ
theorem c_layRow {st : Nat} (hL : isL h l m xs) (hb : byteL xs) (hs : sOK h s) (hn : zR h 192 l ≠ zR h 384 s) (hst : st ≤ 200000) (hQ : Q none (zScr h s (lR xs st C) r c)) {l3 l4 l5 l6 l7 l8 : Option zV} :
    zE 175 0 [some (.inr l), some (.inl (st : Int)), some (.inr s), l3, l4, l5, l6, l7, l8] [] (zScr h s C r c) Q := by
  have hL' := isL_Scr (C := C) (r := r) (c := c) hL hn
  have b2 := bt_r hb (st + 2)
  have b3 := bt_r hb (st + 3)
  unfold lR at hQ
  rw [xX0_layRow_0]
  refine ⟨hL.1.1, c_Lat' hL' ?_⟩
  simp only [Option.toList_some, List.cons_append, List.nil_append]
  rw [xX0_layRow_5, zw_eq (by omega) (by omega)]
  refine ⟨hL.1.1, c_Lat' (i := st + 1) hL' ?_⟩
  simp only [Option.toList_some, List.cons_append, List.nil_append]
  have e0 : xs.getD st (-1) = bt xs st := rfl
  have e1 : xs.getD (st + 1) (-1) = bt xs (st + 1) := rfl
  have e2 : xs.getD (st + 2) (-1) = bt xs (st + 2) := rfl
  have e3 : xs.getD (st + 3) (-1) = bt xs (st + 3) := rfl
  rw [e0, e1, xX0_layRow_13]
  have fin : ∀ (u : Int) (stp : Nat), ((u = 0 ∧ stp = 2) ∨ (u = 1 ∧ stp = 0)) → Q none (zScr h s (lCs xs (bt xs st) stp (bt xs (st + 3) - bt xs (st + 2) + 1).toNat (bt xs (st + 2)) (st + 4) C) r c) →
      zE 175 22 [some (.inr l), some (.inl (st : Int)), some (.inr s), some (.inl (bt xs st)), l4, l5, l6, l7, l8] [.inl u] (zScr h s C r c) Q := by
    intro u stp hu q
    rw [xX0_layRow_22, zw_eq (by omega) (by omega)]
    refine ⟨hL.1.1, c_Lat' (i := st + 2) hL' ?_⟩
    simp only [Option.toList_some, List.cons_append, List.nil_append]
    rw [e2, xX0_layRow_31, zw_eq (by omega) (by omega)]
    refine ⟨hL.1.1, c_Lat' (i := st + 3) hL' ?_⟩
    simp only [Option.toList_some, List.cons_append, List.nil_append]
    rw [e3, xX0_layRow_40, zw_eq (by omega) (by omega)]
    exact c_lay_l hL hb hs hn hu b3 _ _ (st + 4) C rfl (by omega) (by omega) q
  by_cases e : bt xs (st + 1) = 1
  · rw [if_pos e] at hQ
    rw [if_neg (fun z => z e), xX0_layRow_17]
    exact fin 1 0 (Or.inr ⟨rfl, rfl⟩) hQ
  · rw [if_neg e] at hQ
    rw [if_pos e, xX0_layRow_21]
    exact fin 0 2 (Or.inl ⟨rfl, rfl⟩) hQ
end zLay
