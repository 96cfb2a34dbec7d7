/-! A LETTER TAKEN BY THE MODEL'S NEAR END -/
section mNear
variable {h : zH} {I : Nat → Int} {A A' : Nat → Nat → Int} {c : cg} {l : lg} {Q : Option zV → zH → Prop} {B : Int} {xs : List Int}
theorem RepR.dropN {n gone : Nat} (hR : RepR I A c l) (hn : c.1 20 = n) (hg : gone ≤ n) (hn2 : n ≤ 32) (h12 : c.1 12 ≤ 32) (hT : ∀ i, i + gone < n → mT A' (34 + i) (c.2.2.1 0 (i + gone))) (hA : ∀ a i, ¬ reg 34 n a i → A' a i = A a i) : RepR (fup I 663 ((n - gone : Nat) : Int)) A' (dropN c gone) l := by
  obtain ⟨⟨a1, a2, a3⟩, a4, a5, a6, a7, a8, a9⟩ := hR
  have e12 : fup c.1 20 (c.1 20 - gone) 12 = c.1 12 := fup_n (by decide)
  have e13 : fup c.1 20 (c.1 20 - gone) 13 = c.1 13 := fup_n (by decide)
  have e21 : fup c.1 20 (c.1 20 - gone) 21 = c.1 21 := fup_n (by decide)
  have e20 : fup c.1 20 (c.1 20 - gone) 20 = c.1 20 - gone := fup_s
  have hX : mT A' 0 (c.2.1, A 34 0, A 35 0) := mT_reg (b := 34) (n := n) (by omega) hA ⟨a4, rfl, rfl⟩
  have hA' : ∀ a i, 36 ≤ a → A' a i = A a i := fun a i q => hA a i (by unfold reg; omega)
  refine ⟨⟨fun k hk => ?_, ?_, fun i hi => ?_⟩, hX.1, fun i hi => ?_, fun i hi => ?_, fun i hi => ?_, fun i hi q hq => ?_, fun j hj => ⟨(hA' _ _ (by omega)).trans (a9 j hj).1, fun k hk => ?_⟩⟩
  · show fup I 663 ((n - gone : Nat) : Int) (fM k) = fup c.1 20 (c.1 20 - gone) k
    by_cases e : k = 20
    · subst e
      rw [e20, hn, show (n : Int) - gone = ((n - gone : Nat) : Int) by omega]
      exact fup_s
    · have ne : fM k ≠ 663 := fun q => e (fM_inj k hk 20 (by omega) q)
      rw [fup_n e, fup_n ne]
      exact a1 k hk
  · show fup I 663 ((n - gone : Nat) : Int) 659 = fup c.1 20 (c.1 20 - gone) 6
    rw [fup_n (by decide), fup_n (by decide)]
    exact a2
  · show A' 37 i = fup c.1 20 (c.1 20 - gone) (24 + i)
    rw [fup_n (by omega), hA' _ _ (by omega)]
    exact a3 i hi
  · have hi' : (i : Int) < fup c.1 20 (c.1 20 - gone) 12 := hi
    rw [e12] at hi'
    exact mT_reg (b := 34) (n := n) (by omega) hA (a5 i hi')
  · have hi' : (i : Int) < fup c.1 20 (c.1 20 - gone) 20 := hi
    rw [e20] at hi'
    exact hT i (by omega)
  · have hi' : (i : Int) < fup c.1 20 (c.1 20 - gone) 13 := hi
    rw [e13] at hi'
    exact (hA' _ _ (by omega)).trans (a7 i hi')
  · have hi' : (i : Int) < fup c.1 20 (c.1 20 - gone) 21 := hi
    rw [e21] at hi'
    exact (hA' _ _ (by omega)).trans (a8 i hi' q hq)
  · obtain ⟨b1, b2, b3⟩ := (a9 j hj).2 k hk
    exact ⟨(hA' _ _ (by omega)).trans b1, b2, fun i v hv => (hA' _ _ (by omega)).trans (b3 i v hv)⟩
theorem m_nearNewest {n : Nat} (hm : mOK h) (hn : I 663 = n) (h1 : 1 ≤ n) (h2 : n ≤ 100) (hQ : Q (some (.inl ((34 + (n - 1) : Nat) : Int))) (zM h I A)) : zE 133 0 [some (.inr 29)] [] (zM h I A) Q := by
  have w : zw (zw (34 + (n : Int)) - 1) = ((34 + (n - 1) : Nat) : Int) := by
    rw [zw_eq (x := 34 + (n : Int)) (by omega) (by omega), zw_eq (by omega) (by omega)]
    omega
  rw [yX11_nearNewest_0 hm, hn, w]
  exact hQ
/-- the number of the newest state, as it is read -/
theorem RepR.new34 {n : Nat} (hR : RepR I A c l) (hn : c.1 20 = n) (h1 : 1 ≤ n) : A 34 (34 + (n - 1)) = (newN c).2.1 ∧ mT A (34 + (n - 1)) (newN c) := by
  have t := hR.2.2.2.1 (n - 1) (by omega)
  have e : newN c = c.2.2.1 0 (n - 1) := by
    unfold newN
    rw [hn, show ((n : Int) - 1).toNat = n - 1 by omega]
  rw [← e] at t
  exact ⟨t.2.1, t⟩
theorem m_byNear_e {t : Int} (hm : mOK h) (hR : RepR I A c l) (h20 : 1 ≤ c.1 20 ∧ c.1 20 ≤ 33) (hQ : ∀ I', RepR I' A (nOwes (vS c 19 t) t) l → Q none (zM h I' A)) {l2 l3 l4 : Option zV} :
    zE 147 247 [some (.inr 29), some (.inl t), l2, l3, l4] [] (zM h I A) Q := by
  obtain ⟨n, hn⟩ : ∃ n : Nat, c.1 20 = n := ⟨(c.1 20).toNat, by omega⟩
  have R1 := hR.sI (k := 19) (v := t) (by decide) (by decide) (by decide) (by decide) (by decide) (by decide)
  have i20 : fup I 668 t 663 = n := (R1.1.1 20 (by omega)).trans ((vS_n (by decide)).trans hn)
  obtain ⟨e34, -⟩ := R1.new34 (n := n) ((vS_n (by decide)).trans hn) (by omega)
  rw [yX11_byNear_247 hm, yX11_byNear_252 hm]
  refine m_nearNewest hm i20 (by omega) (by omega) ?_
  show zE 147 261 _ [.inl ((34 + (n - 1) : Nat) : Int), .inr 34, .inl t] _ Q
  rw [yX11_byNear_261 hm, Int.toNat_natCast, e34]
  refine ⟨⟨by omega, by omega⟩, ?_⟩
  unfold nOwes at hQ
  by_cases q : (newN (vS c 19 t)).2.1 ≤ t
  · rw [if_pos q] at hQ ⊢
    rw [yX11_byNear_270 hm]
    exact hQ _ R1
  · rw [if_neg q] at hQ ⊢
    rw [yX11_byNear_265 hm, yX11_byNear_270 hm]
    exact ⟨Or.inr rfl, hQ _ (R1.sI (k := 17) (v := 1) (by decide) (by decide) (by decide) (by decide) (by decide) (by decide))⟩
/-- the letter is taken: from the number on -/
theorem m_byNear_n {T : Int} (hm : mOK h) (hR : RepR I A c l) (hG : Good B c l) (hx : isLs (A 41) xs) (hsz : I 674 = xs.length) (hl : let1 T xs) (h0 : (c.2.2.1 0 0).2.1 = num xs 2)
    (hQ : ∀ I' A', RepR I' A' (nOwes (vS (nAdd c xs) 19 (num xs 2)) (num xs 2)) l → Q none (zM h I' A')) {l4 : Option zV} :
    zE 147 142 [some (.inr 29), some (.inl (num xs 2)), some (.inl 34), some (.inl (num xs 4)), l4] [] (zM h I A) Q := by
  obtain ⟨hb, hw, h13, h1010, h6, h24, h31, b8, b9, b10, wf⟩ := id hl
  have gv := hG.1
  have hV : (1 ≤ c.1 20 ∧ c.1 20 ≤ 32) ∧ c.1 12 ≤ 32 := by unfold gV at gv; omega
  obtain ⟨n, hn⟩ : ∃ n : Nat, c.1 20 = n := ⟨(c.1 20).toNat, by omega⟩
  have i20 : I 663 = n := (hR.1.1 20 (by omega)).trans hn
  obtain ⟨e34, tN⟩ := hR.new34 hn (by omega)
  have n4 := num_r (i := 4) hb (by omega)
  have n6 := num_r (i := 6) hb (by omega)
  rw [yX11_byNear_142 hm]
  refine m_nearNewest hm i20 (by omega) (by omega) ?_
  show zE 147 151 _ [.inl ((34 + (n - 1) : Nat) : Int), .inr 34, .inl (num xs 4)] _ Q
  rw [yX11_byNear_151 hm, Int.toNat_natCast, e34]
  refine ⟨⟨by omega, by omega⟩, ?_⟩
  unfold nAdd at hQ
  by_cases q : (newN c).2.1 < num xs 4
  · rw [if_pos q] at hQ
    have hrm := near_room hG h0 q h31
    have t0 := hR.2.2.2.1 0 (by omega)
    have hx0 := (hG.2.2.1.2.1 0 (by omega)).1
    obtain ⟨lOK, lC⟩ := lLay_ok hl hx0
    have w1 : zw (((34 + (n - 1) : Nat) : Int) + 1) = ((34 + n : Nat) : Int) := by
      rw [zw_eq (by omega) (by omega)]
      omega
    have w2 : zw ((xs.length : Int) - 2) = ((xs.length - 2 : Nat) : Int) := by
      rw [zw_eq (by omega) (by omega)]
      omega
    rw [if_neg (by omega), yX11_byNear_155 hm]
    refine m_nearNewest hm i20 (by omega) (by omega) ?_
    simp only [Option.toList_some, List.cons_append, List.nil_append]
    rw [yX11_byNear_159 hm, w1]
    refine m_copies (fr := 34) (s := 34 + n) hm (by omega) (by omega) (by omega) t0.1 ?_
    simp only [Option.toList_none, List.nil_append]
    rw [yX11_byNear_170 hm, hsz, w2]
    have hS2 : mS (zu (zu (mW A (34 + n) (c.2.2.1 0 0).1) 34 (34 + n) (A 34 34)) 35 (34 + n) (A 35 34)) (34 + n) (c.2.2.1 0 0).1 := mS_zu (by omega) (mS_zu (by omega) mS_W)
    have hA2 : ∀ a i, ¬ slot (34 + n) a i → (zu (zu (mW A (34 + n) (c.2.2.1 0 0).1) 34 (34 + n) (A 34 34)) 35 (34 + n) (A 35 34)) a i = A a i := by
      intro a i hs
      have hs' : ¬ (((a = 30 ∨ a = 31) ∧ 192 * (34 + n) ≤ i ∧ i < 192 * (34 + n) + 192) ∨ ((32 ≤ a ∧ a ≤ 35) ∧ i = 34 + n)) := hs
      unfold zu mW
      rw [if_neg (by omega), if_neg (by omega), if_neg (by omega), if_neg (by omega), if_neg (by omega), if_neg (by omega)]
    generalize hAA : zu (zu (mW A (34 + n) (c.2.2.1 0 0).1) 34 (34 + n) (A 34 34)) 35 (34 + n) (A 35 34) = A2 at hS2 hA2 ⊢
    have hx2 : isLs (A2 41) xs := fun i v z => (hA2 41 i (by unfold slot; omega)).trans (hx i v z)
    rw [← mW_id hS2]
    refine m_laid hm (by omega) (fun i hi => hx2.at hi) (by omega) h13 hb b10 wf ?_
    simp only [Option.toList_none, List.nil_append]
    generalize hCC : lLoop xs xs.length 11 (scr (bt xs 10).toNat (c.2.2.1 0 0).1.1) = C
    have hA3 : ∀ a i, ¬ slot (34 + n) a i → mW A2 (34 + n) (C, (c.2.2.1 0 0).1.2) a i = A a i := by
      intro a i hs
      have hs' : ¬ (((a = 30 ∨ a = 31) ∧ 192 * (34 + n) ≤ i ∧ i < 192 * (34 + n) + 192) ∨ ((32 ≤ a ∧ a ≤ 35) ∧ i = 34 + n)) := hs
      unfold mW
      rw [if_neg (by omega), if_neg (by omega), if_neg (by omega), if_neg (by omega)]
      exact hA2 a i hs
    have x3 : ∀ i, mW A2 (34 + n) (C, (c.2.2.1 0 0).1.2) 41 i = A2 41 i := fun i => mW_o (by decide)
    have e8 : A2 41 8 = bt xs 8 := hx2.at (by omega)
    have e9 : A2 41 9 = bt xs 9 := hx2.at (by omega)
    rw [yX11_byNear_184 hm, Int.toNat_natCast, yX11_byNear_192 hm]
    refine ⟨⟨by omega, by omega⟩, m_twoAt (i := 6) hm (xs := xs) (fun i v z => (zu_na (by decide)).trans ((x3 i).trans (hx2 i v z))) hb (by omega) (by omega) ?_⟩
    show zE 147 204 _ [.inl (num xs 6), .inl ((34 + n : Nat) : Int), .inr 35] _ Q
    rw [yX11_byNear_204 hm, Int.toNat_natCast, yX11_byNear_205 hm, Int.toNat_natCast, zu_na (by decide), zu_na (by decide), x3, e8, yX11_byNear_219 hm, Int.toNat_natCast, zu_na (by decide), zu_na (by decide), zu_na (by decide), x3, e9, yX11_byNear_233 hm, i20, zw_eq (by omega) (by omega), yX11_byNear_243 hm]
    refine ⟨⟨by omega, by omega⟩, ⟨by omega, by omega⟩, ⟨by omega, by omega⟩, ?_⟩
    have R2 : RepR (fup I 663 ((n : Int) + 1)) (zu (zu (zu (zu (mW A2 (34 + n) (C, (c.2.2.1 0 0).1.2)) 34 (34 + n) (num xs 4)) 35 (34 + n) (num xs 6)) 32 (34 + n) (bt xs 8)) 33 (34 + n) (bt xs 9)) (addS c 0 20 (lLay xs (c.2.2.1 0 0).1, num xs 4, num xs 6)) l := by
      refine hR.addN hn (by omega) hV.2 (fun a i hs => ?_) ⟨⟨fun k hk => ?_, ?_, ?_⟩, ?_, ?_⟩
      · have hs' : ¬ (((a = 30 ∨ a = 31) ∧ 192 * (34 + n) ≤ i ∧ i < 192 * (34 + n) + 192) ∨ ((32 ≤ a ∧ a ≤ 35) ∧ i = 34 + n)) := hs
        have z : ∀ (b : Nat) (v : Int) (D : Nat → Nat → Int), 32 ≤ b → b ≤ 35 → zu D b (34 + n) v a i = D a i := fun b v D z1 z2 => if_neg (by omega)
        rw [z _ _ _ (by omega) (by omega), z _ _ _ (by omega) (by omega), z _ _ _ (by omega) (by omega), z _ _ _ (by omega) (by omega)]
        exact hA3 a i hs
      · have eC : (lLay xs (c.2.2.1 0 0).1).1 = C := hCC
        rw [eC, zu_na (by decide), zu_na (by decide), zu_na (by decide), zu_na (by decide), zu_na (by decide), zu_na (by decide), zu_na (by decide), zu_na (by decide)]
        exact ⟨mW_30 hk, mW_31 hk⟩
      · show _ = (lLay xs (c.2.2.1 0 0).1).2.1
        rw [lC, zu_na (by decide), zu_s]
      · show _ = (lLay xs (c.2.2.1 0 0).1).2.2
        rw [lC, zu_s]
      · rw [zu_na (by decide), zu_na (by decide), zu_na (by decide), zu_s]
      · rw [zu_na (by decide), zu_na (by decide), zu_s]
    have G2 : Good B (addS c 0 20 (lLay xs (c.2.2.1 0 0).1, num xs 4, num xs 6)) l := good_addN hG hrm lOK n4 n6 q
    have G3 := good_settS G2
    refine m_settles hm R2 G2 ?_
    intro I4 A4 R4 _ _ _ _
    simp only [Option.toList_none, List.nil_append]
    have gv3 := G3.1
    have hV3 : 1 ≤ (settS (addS c 0 20 (lLay xs (c.2.2.1 0 0).1, num xs 4, num xs 6))).1 20 ∧ (settS (addS c 0 20 (lLay xs (c.2.2.1 0 0).1, num xs 4, num xs 6))).1 20 ≤ 33 := by unfold gV at gv3; omega
    exact m_byNear_e hm R4 hV3 (fun I' R => hQ _ _ R)
  · rw [if_neg q] at hQ
    rw [if_pos (by omega)]
    exact m_byNear_e hm hR (by omega) (fun I' R => hQ _ _ R)
end mNear
