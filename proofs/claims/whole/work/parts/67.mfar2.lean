/-! A LETTER TAKEN BY THE MODEL'S FAR END -/
theorem num_r {xs : List Int} {i : Nat} (hb : byteL xs) (hi : i + 1 < xs.length) : 0 ≤ num xs i ∧ num xs i < 65536 := by
  have b1 := hb.at (i := i) (by omega)
  have b2 := hb.at (i := i + 1) (by omega)
  unfold num
  omega
theorem xS_V {c : cg} {x : sC} : (xS c x).1 = c.1 := rfl
section mFar2
variable {h : zH} {I : Nat → Int} {A A' : Nat → Nat → Int} {c : cg} {l : lg} {X Y : sC} {Q : Option zV → zH → Prop} {B : Int} {xs : List Int}
/-- the end of byFar: address, owing -/
theorem m_byFar_e {tk0 : Int} {kn ty : Nat} (hm : mOK h) (hx : isLs (A 41) xs) (hxl : 2 ≤ xs.length) (hR : RepR (fup I 659 (max tk0 ty)) A c l) (h59 : I 659 = tk0) {l3 : Option zV}
    (hQ : ∀ I', RepR I' A (fOwes (fAddr c (bt xs 1) ty tk0) kn) l → Q none (zM h I' A)) :
    zE 146 136 [some (.inr 29), some (.inl (kn : Int)), some (.inl (ty : Int)), l3] [] (zM h I A) Q := by
  have e159 : ∀ I5, RepR I5 A (fAddr c (bt xs 1) ty tk0) l → zE 146 159 [some (.inr 29), some (.inl (kn : Int)), some (.inl (ty : Int)), l3] [] (zM h I5 A) Q := by
    intro I5 R5
    have i6 : I5 652 = (fAddr c (bt xs 1) ty tk0).1 6 := R5.1.1 6 (by omega)
    unfold fOwes at hQ
    rw [yX11_byFar_159 hm, i6]
    by_cases q : (fAddr c (bt xs 1) ty tk0).1 6 ≤ (kn : Int)
    · rw [if_pos q] at hQ ⊢
      rw [yX11_byFar_172 hm]
      exact hQ _ R5
    · rw [if_neg q] at hQ ⊢
      rw [yX11_byFar_167 hm, yX11_byFar_172 hm]
      exact ⟨Or.inr rfl, hQ _ (R5.sI (k := 10) (v := 1) (by decide) (by decide) (by decide) (by decide) (by decide) (by decide))⟩
  rw [yX11_byFar_136 hm, h59]
  unfold fAddr at e159
  by_cases q : (ty : Int) < tk0
  · rw [if_pos q] at e159 ⊢
    rw [show max tk0 (ty : Int) = tk0 by omega, fup_id h59] at hR
    exact e159 I hR
  · rw [if_neg q] at e159 ⊢
    rw [show max tk0 (ty : Int) = ty by omega] at hR
    have e1 : A 41 1 = bt xs 1 := hx.at (by omega)
    rw [yX11_byFar_144 hm, yX11_byFar_149 hm, e1]
    exact e159 _ (hR.sI (k := 11) (v := bt xs 1) (by decide) (by decide) (by decide) (by decide) (by decide) (by decide))
/-- the middle: what is told of the states -/
theorem m_byFar_s {tk0 : Int} {kn ty : Nat} (hm : mOK h) (hx : isLs (A 41) xs) (hb : byteL xs) (hxl : 10 ≤ xs.length) (hxl2 : xs.length ≤ 1100) (hR : RepR (fup I 659 (max tk0 ty)) A c l) (h59 : I 659 = tk0)
    (h12 : 1 ≤ c.1 12 ∧ c.1 12 ≤ 32) (h20 : c.1 20 ≤ 32) (hN : ∀ i : Nat, (i : Int) < c.1 12 → (c.2.2.1 1 i).2.1 = c.1 7 + i) {l3 : Option zV}
    (hQ : ∀ I' A', RepR I' A' (fOwes (fAddr (fSure c (num xs 6)) (bt xs 1) ty tk0) kn) l → Q none (zM h I' A')) :
    zE 146 85 [some (.inr 29), some (.inl (kn : Int)), some (.inl (ty : Int)), l3] [] (zM h I A) Q := by
  obtain ⟨n, hn⟩ : ∃ n : Nat, c.1 12 = n := ⟨(c.1 12).toNat, by omega⟩
  have i7 : I 653 = c.1 7 := (show fup I 659 _ 653 = I 653 from fup_n (by decide)) ▸ hR.1.1 7 (by omega)
  have i12 : I 654 = n := ((show fup I 659 _ 654 = I 654 from fup_n (by decide)) ▸ hR.1.1 12 (by omega)).trans hn
  have a5 := hR.2.2.1
  rw [yX11_byFar_85 hm]
  refine m_twoAt (i := 6) hm hx hb (by omega) hxl2 ?_
  simp only [Option.toList_some, List.cons_append, List.nil_append]
  rw [yX11_byFar_91 hm, i7]
  unfold fSure at hQ
  by_cases q : num xs 6 ≤ c.1 7
  · rw [if_neg (by omega)] at hQ
    rw [if_pos q]
    exact m_byFar_e hm hx (by omega) hR h59 (fun I' R => hQ I' _ R)
  · rw [if_neg q, yX11_byFar_100 hm, i12]
    refine m_stateOf (base := 1) hm (by omega) ?_
    simp only [Option.toList_some, List.cons_append, List.nil_append]
    rw [yX11_byFar_110 hm]
    cases hF : fnd (fun i => A 34 (1 + i)) (num xs 6) n 0 with
    | none =>
      have hno := fnd_none hF
      have hout : ¬ (c.1 7 < num xs 6 ∧ num xs 6 < c.1 7 + c.1 12) := by
        intro z
        refine hno (num xs 6 - c.1 7).toNat (by omega) (by omega) ?_
        show A 34 (1 + (num xs 6 - c.1 7).toNat) = num xs 6
        rw [(a5 _ (by omega)).2.1, hN _ (by omega)]
        omega
      rw [if_neg hout] at hQ
      rw [if_pos rfl]
      exact m_byFar_e hm hx (by omega) hR h59 (fun I' R => hQ I' _ R)
    | some j =>
      obtain ⟨-, hj, hj2, -⟩ := fnd_some hF
      have hj3 : num xs 6 = c.1 7 + j := by
        have e : A 34 (1 + j) = num xs 6 := hj2
        rw [(a5 _ (by omega)).2.1, hN _ (by omega)] at e
        omega
      rw [if_pos (by omega), show (num xs 6 - c.1 7).toNat = j by omega] at hQ
      have s653 : fup I 653 (num xs 6) 653 = num xs 6 := fup_s
      have s654 : fup I 653 (num xs 6) 654 = n := (fup_n (by decide)).trans i12
      dsimp only
      rw [if_neg (by omega), yX11_byFar_114 hm, yX11_byFar_119 hm, s653, s654]
      have R1 := hR.sI (k := 7) (v := num xs 6) (by decide) (by decide) (by decide) (by decide) (by decide) (by decide)
      refine m_below (base := 1) (gone := j) (T := c.2.2.1 1) hm (by omega) (by omega) (fun i hi => a5 i (by omega)) (fun i hi => by rw [hN i (by omega)]; omega) (fun hi => by rw [hN j (by omega)]; omega) ?_
      intro A2 hT2 hA2
      have hx2 : isLs (A2 41) xs := fun i v z => (hA2 41 i (by unfold reg; omega)).trans (hx i v z)
      show zE 146 133 _ [.inl ((n - j : Nat) : Int), .inr 29] _ Q
      rw [yX11_byFar_133 hm]
      refine m_byFar_e (c := dropF (vS c 7 (num xs 6)) j) (tk0 := tk0) hm hx2 (by omega) ?_ ?_ (fun I' R => hQ I' _ R)
      · have R2 := R1.dropF (n := n) (gone := j) (A' := A2) ((vS_n (by decide)).trans hn) (by omega) (by omega) (by rw [vS_n (by decide)]; exact h20) hT2 hA2
        have e : fup (fup (fup I 659 (max tk0 (ty : Int))) (fM 7) (num xs 6)) 654 ((n - j : Nat) : Int) = fup (fup (fup I 653 (num xs 6)) 654 ((n - j : Nat) : Int)) 659 (max tk0 (ty : Int)) := by
          show fup (fup (fup I 659 (max tk0 (ty : Int))) 653 (num xs 6)) 654 ((n - j : Nat) : Int) = _
          rw [fup_comm (i := 659) (j := 653) (by decide), fup_comm (i := 659) (j := 654) (by decide)]
        rw [e] at R2
        exact R2
      · rw [fup_n (by decide), fup_n (by decide)]
        exact h59
theorem m_byFar (hm : mOK h) (hR : RepR I A c l) (hG : Good B c l) (hB : B ≤ 1000000) (hx : isLs (A 41) xs) (hl : let0 (c.1 13) xs) (hQ : ∀ I' A', RepR I' A' (byFarS c xs) l → Q none (zM h I' A')) :
    zE 146 0 [some (.inr 29), none, none, none] [] (zM h I A) Q := by
  obtain ⟨hb, hw, hlen, hle, hT⟩ := hl
  have gv := hG.1
  have hV : (0 ≤ c.1 3 ∧ c.1 3 ≤ 3) ∧ (0 ≤ c.1 4 ∧ c.1 4 ≤ 20) ∧ (0 ≤ c.1 6 ∧ c.1 6 ≤ 1000) ∧ (1 ≤ c.1 12 ∧ c.1 12 ≤ 32) ∧ (0 ≤ c.1 13 ∧ c.1 13 ≤ 1000) ∧ c.1 20 ≤ 32 ∧ (0 ≤ c.1 28 ∧ c.1 28 ≤ B) ∧ (0 ≤ c.1 29 ∧ c.1 29 ≤ B) := by unfold gV at gv; omega
  have hlen10 : 10 ≤ xs.length := by omega
  have n2 := num_r (i := 2) hb (by omega)
  have n4 := num_r (i := 4) hb (by omega)
  obtain ⟨kn, hkn⟩ : ∃ n : Nat, num xs 2 = n := ⟨(num xs 2).toNat, by omega⟩
  obtain ⟨ty, hty⟩ : ∃ n : Nat, num xs 4 = n := ⟨(num xs 4).toNat, by omega⟩
  obtain ⟨tk, htk⟩ : ∃ n : Nat, c.1 6 = n := ⟨(c.1 6).toNat, by omega⟩
  obtain ⟨⟨a1, a2, a3⟩, a4, a5, a6, a7, a8, a9⟩ := id hR
  have i6 : I 652 = c.1 6 := a1 6 (by omega)
  have i4 : I 648 = c.1 4 := a1 4 (by omega)
  have c28 : A 37 4 = c.1 28 := a3 4 (by omega)
  have c29 : A 37 5 = c.1 29 := a3 5 (by omega)
  rw [yX11_byFar_0 hm]
  refine m_twoAt (i := 2) hm hx hb (by omega) (by omega) ?_
  simp only [Option.toList_some, List.cons_append, List.nil_append]
  rw [yX11_byFar_5 hm]
  refine m_twoAt (i := 4) hm hx hb (by omega) (by omega) ?_
  simp only [Option.toList_some, List.cons_append, List.nil_append]
  rw [yX11_byFar_11 hm, i6]
  unfold byFarS at hQ
  by_cases q : num xs 2 ≤ c.1 6
  · rw [if_pos q] at hQ ⊢
    rw [yX11_byFar_31 hm, c29, zw_eq (by omega) (by omega), yX11_byFar_41 hm, i6]
    have R1 := hR.sN (i := 5) (v := c.1 29 + 1) (by omega)
    have hx1 : isLs (zu A 37 5 (c.1 29 + 1) 41) xs := fun i v z => (zu_na (by decide)).trans (hx i v z)
    have hy : s_in (fKeys c xs).1 ∧ 0 ≤ (fKeys c xs).2 ∧ (fKeys c xs).2 ≤ 20 := by
      have : ∀ (ks : Nat → Int) (d i : Nat) (y : sC × Int), s_in y.1 → 0 ≤ y.2 ∧ y.2 ≤ 20 → s_in (s_keys (c.1 3) (c.1 5) ks d i y).1 ∧ 0 ≤ (s_keys (c.1 3) (c.1 5) ks d i y).2 ∧ (s_keys (c.1 3) (c.1 5) ks d i y).2 ≤ 20 := by
        intro ks d
        induction d with
        | zero => exact fun i y z1 z2 => ⟨z1, z2⟩
        | succ d ih => exact fun i y z1 z2 => ih (i + 1) _ (s_press_in z1) (s_press_p z2)
      exact this _ _ _ _ hG.2.1.1 hV.2.1
    have e72 : ∀ l3, zE 146 72 [some (.inr 29), some (.inl (kn : Int)), some (.inl (ty : Int)), l3] [] (zM h (fup I 648 (fKeys c xs).2) (mW (zu A 37 5 (c.1 29 + 1)) 0 (fKeys c xs).1)) Q := by
      intro l3
      have R2 := (R1.sX (x := (fKeys c xs).1)).sI (k := 4) (v := (fKeys c xs).2) (by decide) (by decide) (by decide) (by decide) (by decide) (by decide)
      have hx2 : isLs (mW (zu A 37 5 (c.1 29 + 1)) 0 (fKeys c xs).1 41) xs := fun i v z => (mW_o (by decide)).trans (hx1 i v z)
      have j6 : fup I 648 (fKeys c xs).2 652 = c.1 6 := (fup_n (by decide)).trans i6
      have j59 : I 659 = c.1 6 := a2
      rw [yX11_byFar_72 hm, j6]
      rw [hty] at hQ
      have hN3 : ∀ i : Nat, (i : Int) < c.1 12 → (c.2.2.1 1 i).2.1 = c.1 7 + i := fun i hi => (hG.2.2.1.1 i hi).2.1
      have v12 : (vS (vS (xS (vS c 29 (c.1 29 + 1)) (fKeys c xs).1) 4 (fKeys c xs).2) 6 (max (c.1 6) (ty : Int))).1 12 = c.1 12 := by rw [vS_n (by decide), vS_n (by decide), xS_V, vS_n (by decide)]
      have v7 : (vS (vS (xS (vS c 29 (c.1 29 + 1)) (fKeys c xs).1) 4 (fKeys c xs).2) 6 (max (c.1 6) (ty : Int))).1 7 = c.1 7 := by rw [vS_n (by decide), vS_n (by decide), xS_V, vS_n (by decide)]
      have v20 : (vS (vS (xS (vS c 29 (c.1 29 + 1)) (fKeys c xs).1) 4 (fKeys c xs).2) 6 (max (c.1 6) (ty : Int))).1 20 = c.1 20 := by rw [vS_n (by decide), vS_n (by decide), xS_V, vS_n (by decide)]
      by_cases z : (ty : Int) ≤ c.1 6
      · rw [if_pos z]
        have R3 : RepR (fup (fup I 648 (fKeys c xs).2) 659 (max (c.1 6) (ty : Int))) (mW (zu A 37 5 (c.1 29 + 1)) 0 (fKeys c xs).1) (vS (vS (xS (vS c 29 (c.1 29 + 1)) (fKeys c xs).1) 4 (fKeys c xs).2) 6 (max (c.1 6) (ty : Int))) l := by
          have R3 := R2.sTk (v := max (c.1 6) (ty : Int))
          have e : max (c.1 6) (ty : Int) = c.1 6 := by omega
          rw [e] at R3 ⊢
          have e2 : fup (fup I (fM 4) (fKeys c xs).2) 652 (c.1 6) = fup I 648 (fKeys c xs).2 := fup_id ((fup_n (by decide)).trans i6)
          rw [e2] at R3
          exact R3
        refine m_byFar_s (kn := kn) (tk0 := c.1 6) hm hx2 hb hlen10 (by omega) R3 ((fup_n (by decide)).trans j59) (by rw [v12]; exact hV.2.2.2.1) (by rw [v20]; exact hV.2.2.2.2.2.1) (fun i hi => by rw [v7]; exact hN3 i (by rw [v12] at hi; exact hi)) ?_
        rw [hkn] at hQ
        exact hQ
      · rw [if_neg z, yX11_byFar_80 hm]
        have R3 : RepR (fup (fup (fup I 648 (fKeys c xs).2) 652 (ty : Int)) 659 (max (c.1 6) (ty : Int))) (mW (zu A 37 5 (c.1 29 + 1)) 0 (fKeys c xs).1) (vS (vS (xS (vS c 29 (c.1 29 + 1)) (fKeys c xs).1) 4 (fKeys c xs).2) 6 (max (c.1 6) (ty : Int))) l := by
          have R3 := R2.sTk (v := max (c.1 6) (ty : Int))
          have e : max (c.1 6) (ty : Int) = ty := by omega
          rw [e] at R3 ⊢
          exact R3
        refine m_byFar_s (kn := kn) (tk0 := c.1 6) hm hx2 hb hlen10 (by omega) R3 ((fup_n (by decide)).trans ((fup_n (by decide)).trans j59)) (by rw [v12]; exact hV.2.2.2.1) (by rw [v20]; exact hV.2.2.2.2.2.1) (fun i hi => by rw [v7]; exact hN3 i (by rw [v12] at hi; exact hi)) ?_
        rw [hkn] at hQ
        exact hQ
    have eK : fKeys c xs = s_keys (c.1 3) (c.1 5) (fun j => bt xs (8 + j - kn)) (ty - tk) tk (c.2.1, c.1 4) := by
      unfold fKeys
      rw [hkn, hty, htk, Int.toNat_natCast, Int.toNat_natCast, show ((ty : Int) - (tk : Int)).toNat = ty - tk by omega]
    have eI : I = fup I 648 (c.1 4) := (fup_id i4).symm
    have eA : zu A 37 5 (c.1 29 + 1) = mW (zu A 37 5 (c.1 29 + 1)) 0 c.2.1 := (mW_id (R1.2.1)).symm
    rw [hkn, hty]
    by_cases z : (ty : Int) ≤ c.1 6
    · have e0 : ty - tk = 0 := by omega
      rw [e0] at eK
      have eK' : fKeys c xs = (c.2.1, c.1 4) := eK
      rw [eK'] at e72
      rw [yX11_byFar_46 hm, if_pos z, eI, eA]
      exact e72 _
    · rw [eI, eA, htk]
      have i4' : I = I := rfl
      refine m_press_l (kn := kn) (ty := ty) (pen := c.1 5) (prog := c.1 3) (A := zu A 37 5 (c.1 29 + 1)) hm (a1 5 (by omega)) (a1 3 (by omega)) hV.1 hx1 (by omega) (by omega) (by omega) (ty - tk) tk (c.2.1, c.1 4) (by omega) (by omega) hG.2.1.1 hV.2.1 ?_
      rw [← eK]
      exact e72
  · rw [if_neg q] at hQ ⊢
    rw [yX11_byFar_20 hm, c28, zw_eq (by omega) (by omega), yX11_byFar_30 hm]
    exact hQ _ _ (hR.sN (i := 4) (v := c.1 28 + 1) (by omega))
end mFar2
