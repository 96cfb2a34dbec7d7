/-! THE MODEL'S DIFFERENCE LAID ON A SCREEN -/
section mLay
variable {h : zH} {I : Nat → Int} {A : Nat → Nat → Int} {Q : Option zV → zH → Prop} {xs : List Int} {s : Nat} {r q : Int}
theorem m_lay_c {row last : Nat} {u : Int} {stp : Nat} (hm : mOK h) (hs : s < 69) (hx : ∀ i, i < xs.length → A 41 i = bt xs i) (hl : xs.length ≤ 1100) (hb : byteL xs) (hr : row < 8) (hla : last < 24) (hu : (u = 0 ∧ stp = 2) ∨ (u = 1 ∧ stp = 0)) {l2 l3 l7 : Option zV} :
    ∀ (n c fr : Nat) (C : Nat → Int), c + n = last + 1 → (∀ m, m < n → fr + stp * m + 1 < xs.length ∧ bt xs (fr + stp * m) < 128 ∧ bt xs (fr + stp * m + 1) < 4) →
    (∀ l9, zE 141 146 [some (.inr 29), some (.inl (s : Int)), l2, l3, some (.inl ((fr + stp * n : Nat) : Int)), some (.inl ((192 * s + 24 * row : Nat) : Int)), some (.inl u), l7, some (.inl (last : Int)), l9] [] (zM h I (mW A s (lCs xs row stp n c fr C, r, q))) Q) →
    zE 141 89 [some (.inr 29), some (.inl (s : Int)), l2, l3, some (.inl (fr : Int)), some (.inl ((192 * s + 24 * row : Nat) : Int)), some (.inl u), l7, some (.inl (last : Int)), some (.inl (c : Int))] [] (zM h I (mW A s (C, r, q))) Q := by
  intro n
  induction n with
  | zero =>
    intro c fr C hc hw hQ
    rw [yX11_laid_89 hm, if_pos (by omega)]
    exact hQ _
  | succ n ih =>
    intro c fr C hc hw hQ
    have h0 := hw 0 (by omega)
    simp only [Nat.mul_zero, Nat.add_zero] at h0
    have b0 := hb.at (i := fr) (by omega)
    have b1 := hb.at (i := fr + 1) (by omega)
    have e0 : A 41 fr = bt xs fr := hx fr (by omega)
    have e1 : A 41 (fr + 1) = bt xs (fr + 1) := hx (fr + 1) (by omega)
    have g0 : 0 ≤ bt xs fr := b0.1
    have g1 : 0 ≤ bt xs (fr + 1) := b1.1
    have w1 : zw (((192 * s + 24 * row : Nat) : Int) + (c : Int)) = ((192 * s + (24 * row + c) : Nat) : Int) := by
      rw [zw_eq (by omega) (by omega)]
      omega
    have w2 : zw ((fr : Int) + 1) = ((fr + 1 : Nat) : Int) := by
      rw [zw_eq (by omega) (by omega)]
      omega
    have ec := mW_cell (A := A) (s := s) (X := (C, r, q)) (k := 24 * row + c) (v := bt xs fr + 128 * bt xs (fr + 1)) (by omega)
    rw [show (bt xs fr + 128 * bt xs (fr + 1)) % 128 = bt xs fr by omega, show (bt xs fr + 128 * bt xs (fr + 1)) / 128 = bt xs (fr + 1) by omega] at ec
    have eL : lCs xs row stp (n + 1) c fr C = lCs xs row stp n ((c : Int) + 1) (fr + stp) (fup C (24 * row + c) (bt xs fr + 128 * bt xs (fr + 1))) := by
      show lCs xs row stp n ((c : Int) + 1) (fr + stp) (if 0 ≤ (row : Int) ∧ (row : Int) < 8 ∧ 0 ≤ (c : Int) ∧ (c : Int) < 24 then fup C (24 * (row : Int) + (c : Int)).toNat (bt xs fr + 128 * bt xs (fr + 1)) else C) = _
      rw [if_pos (by omega), show (24 * (row : Int) + (c : Int)).toNat = 24 * row + c by omega]
    rw [eL] at hQ
    rw [yX11_laid_89 hm, if_neg (by omega), yX11_laid_96 hm, w1, Int.toNat_natCast, Int.toNat_natCast, mW_o (by decide), e0, yX11_laid_113 hm, w1, w2, Int.toNat_natCast, Int.toNat_natCast, zu_na (by decide), mW_o (by decide), e1, ec, yX11_laid_132 hm]
    refine ⟨⟨by omega, by omega⟩, ⟨by omega, by omega⟩, ⟨by omega, by omega⟩, ⟨by omega, by omega⟩, ?_⟩
    have key := ih (c + 1) (fr + stp) (fup C (24 * row + c) (bt xs fr + 128 * bt xs (fr + 1))) (by omega) (fun m hm2 => by
      have := hw (m + 1) (by omega)
      rw [show fr + stp * (m + 1) = fr + stp + stp * m by rw [Nat.mul_add]; omega] at this
      exact this) (by
      rw [show fr + stp + stp * n = fr + stp * (n + 1) by rw [Nat.mul_add]; omega, show ((c + 1 : Nat) : Int) = (c : Int) + 1 by omega]
      exact hQ)
    rcases hu with ⟨rfl, rfl⟩ | ⟨rfl, rfl⟩
    · rw [if_neg (fun z => z rfl), yX11_laid_137 hm, zw_eq (by omega) (by omega), yX11_laid_140 hm, zw_eq (by omega) (by omega)]
      exact key
    · rw [if_pos (by decide), yX11_laid_140 hm, zw_eq (by omega) (by omega)]
      exact key
theorem m_lay_l (hm : mOK h) (hs : s < 69) (hx : ∀ i, i < xs.length → A 41 i = bt xs i) (hl : xs.length ≤ 1100) (hl2 : 2 ≤ xs.length) (hb : byteL xs) {l2 : Option zV} :
    ∀ (d i : Nat) (C : Nat → Int), wfD xs d i → Q none (zM h I (mW A s (lLoop xs d i C, r, q))) → ∀ l5 l6 l7 l8 l9, zE 141 16 [some (.inr 29), some (.inl (s : Int)), l2, some (.inl ((xs.length - 2 : Nat) : Int)), some (.inl (i : Int)), l5, l6, l7, l8, l9] [] (zM h I (mW A s (C, r, q))) Q := by
  intro d
  induction d with
  | zero =>
    intro i C hw hQ l5 l6 l7 l8 l9
    have hw' : i + 2 = xs.length := hw
    rw [yX11_laid_16 hm, if_pos (by omega), yX11_laid_157 hm]
    exact hQ
  | succ d ih =>
    intro i C hw hQ l5 l6 l7 l8 l9
    have eL : lLoop xs (d + 1) i C = if xs.length < i + 8 then C else lLoop xs d (i + lStep xs i) (lR xs i C) := rfl
    rw [eL] at hQ
    rcases hw with hw | ⟨w1, w2, w3, w4, w5, w6, w7, w8⟩
    · rw [if_pos (by omega)] at hQ
      rw [yX11_laid_16 hm, if_pos (by omega), yX11_laid_157 hm]
      exact hQ
    · rw [if_neg (by omega)] at hQ
      have b0 : 0 ≤ bt xs i := (hb.at (i := i) (by omega)).1
      have b2 : 0 ≤ bt xs (i + 2) := (hb.at (i := i + 2) (by omega)).1
      obtain ⟨row, hrow⟩ : ∃ n : Nat, bt xs i = n := ⟨(bt xs i).toNat, by omega⟩
      obtain ⟨f, hf⟩ : ∃ n : Nat, bt xs (i + 2) = n := ⟨(bt xs (i + 2)).toNat, by omega⟩
      obtain ⟨la, hla⟩ : ∃ n : Nat, bt xs (i + 3) = n := ⟨(bt xs (i + 3)).toNat, by omega⟩
      have wi : ∀ k : Nat, k ≤ 10 → zw ((i : Int) + (k : Int)) = ((i + k : Nat) : Int) := fun k hk => by
        rw [zw_eq (by omega) (by omega)]
        omega
      have p1 := wi 1 (by omega)
      have p2 := wi 2 (by omega)
      have p3 := wi 3 (by omega)
      have p4 := wi 4 (by omega)
      simp only [Int.cast_ofNat_Int] at p1 p2 p3 p4
      have at0 : mW A s (C, r, q) 41 i = row := by
        rw [mW_o (by decide), hx i (by omega), hrow]
      have at1 : mW A s (C, r, q) 41 (i + 1) = bt xs (i + 1) := by
        rw [mW_o (by decide), hx (i + 1) (by omega)]
      have at2 : mW A s (C, r, q) 41 (i + 2) = f := by
        rw [mW_o (by decide), hx (i + 2) (by omega), hf]
      have at3 : mW A s (C, r, q) 41 (i + 3) = la := by
        rw [mW_o (by decide), hx (i + 3) (by omega), hla]
      have wr : zw (zw (192 * (s : Int)) + zw (24 * (row : Int))) = ((192 * s + 24 * row : Nat) : Int) := by
        rw [zw_eq (x := 192 * (s : Int)) (by omega) (by omega), zw_eq (x := 24 * (row : Int)) (by omega) (by omega), zw_eq (by omega) (by omega)]
        omega
      rw [yX11_laid_16 hm, if_neg (by omega), yX11_laid_22 hm, p1, Int.toNat_natCast, Int.toNat_natCast, at1, at0, wr]
      refine ⟨⟨by omega, by omega⟩, ⟨by omega, by omega⟩, ?_⟩
      have main : ∀ (u : Int) (stp : Nat), ((u = 0 ∧ stp = 2) ∨ (u = 1 ∧ stp = 0)) → lR xs i C = lCs xs row stp (la + 1 - f) f (i + 4) C → (∀ m, m < la + 1 - f → i + 4 + stp * m + 1 < xs.length ∧ bt xs (i + 4 + stp * m) < 128 ∧ bt xs (i + 4 + stp * m + 1) < 4) → i + lStep xs i = i + 4 + stp * (la + 1 - f) + (if u = 0 then 0 else 2) →
          zE 141 58 [some (.inr 29), some (.inl (s : Int)), l2, some (.inl ((xs.length - 2 : Nat) : Int)), some (.inl (i : Int)), some (.inl ((192 * s + 24 * row : Nat) : Int)), l6, l7, l8, l9] [.inl u] (zM h I (mW A s (C, r, q))) Q := by
        intro u stp hu e1 e2 e3
        rw [yX11_laid_58 hm, p2, p3, p4, Int.toNat_natCast, Int.toNat_natCast, at2, at3]
        refine ⟨⟨by omega, by omega⟩, ⟨by omega, by omega⟩, m_lay_c hm hs hx hl hb (by omega) (by omega) hu (la + 1 - f) f (i + 4) C (by omega) e2 ?_⟩
        intro l9
        rw [← e1]
        rw [e3] at hQ w8
        have key := ih _ (lR xs i C) w8 hQ
        rw [yX11_laid_146 hm]
        rcases hu with ⟨rfl, rfl⟩ | ⟨rfl, rfl⟩
        · rw [if_pos rfl, yX11_laid_154 hm]
          exact key _ _ _ _ _
        · rw [if_neg (by decide), yX11_laid_151 hm, zw_eq (by omega) (by omega), yX11_laid_154 hm]
          exact key _ _ _ _ _
      have eS : lStep xs i = if bt xs (i + 1) = 1 then 6 else 4 + 2 * (max (bt xs (i + 3) - bt xs (i + 2) + 1) 1).toNat := rfl
      have eR : lR xs i C = lCs xs (bt xs i) (if bt xs (i + 1) = 1 then 0 else 2) (bt xs (i + 3) - bt xs (i + 2) + 1).toNat (bt xs (i + 2)) (i + 4) C := rfl
      rw [hrow, hf, hla, show ((la : Int) - (f : Int) + 1).toNat = la + 1 - f by omega] at eR
      by_cases u1 : bt xs (i + 1) = 1
      · rw [if_pos u1] at eS eR
        rw [if_neg (fun z => z u1), yX11_laid_53 hm]
        refine main 1 0 (Or.inr ⟨rfl, rfl⟩) eR (fun m hm2 => ?_) ?_
        · have := w7 0 (by omega)
          rw [Nat.zero_mul, Nat.add_zero]
          rw [Nat.mul_zero, Nat.add_zero, Nat.add_zero] at this
          exact ⟨by omega, this⟩
        · rw [eS, Nat.zero_mul, if_neg (by decide)]
      · rw [if_neg u1] at eS eR
        rw [hf, hla, show (max ((la : Int) - (f : Int) + 1) 1).toNat = la + 1 - f by omega] at eS
        rw [if_pos u1, yX11_laid_57 hm]
        refine main 0 2 (Or.inl ⟨rfl, rfl⟩) eR (fun m hm2 => ?_) ?_
        · have := w7 m (by omega)
          rw [show i + 5 + 2 * m = i + 4 + 2 * m + 1 by omega] at this
          exact ⟨by omega, this⟩
        · rw [eS, if_pos rfl]
          omega
theorem m_laid (hm : mOK h) (hs : s < 69) (hx : ∀ i, i < xs.length → A 41 i = bt xs i) (hl : xs.length ≤ 1100) (hl2 : 13 ≤ xs.length) (hb : byteL xs) (h10 : bt xs 10 ≤ 8) (hw : wfD xs xs.length 11) {X : sC}
    (hQ : Q none (zM h I (mW A s (lLoop xs xs.length 11 (scr (bt xs 10).toNat X.1), X.2)))) {l4 l5 l6 l7 l8 l9 : Option zV} :
    zE 141 0 [some (.inr 29), some (.inl (s : Int)), some (.inl 10), some (.inl ((xs.length - 2 : Nat) : Int)), l4, l5, l6, l7, l8, l9] [] (zM h I (mW A s X)) Q := by
  have b0 : 0 ≤ bt xs 10 := (hb.at (i := 10) (by omega)).1
  have e10 : mW A s X 41 (10 : Int).toNat = (((bt xs 10).toNat : Nat) : Int) := by
    rw [mW_o (by decide)]
    show A 41 10 = _
    rw [hx 10 (by omega)]
    omega
  rw [yX11_laid_0 hm, e10]
  refine ⟨⟨by omega, by omega⟩, m_scrolls hm hs (by omega) ?_⟩
  simp only [Option.toList_none, List.nil_append]
  rw [yX11_laid_11 hm]
  exact m_lay_l hm hs hx hl (by omega) hb xs.length 11 _ hw hQ _ _ _ _ _
end mLay
