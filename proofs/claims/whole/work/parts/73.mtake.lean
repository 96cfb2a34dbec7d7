/-! THE MODEL TAKES A LETTER -/
theorem fnd_congr {f g : Nat → Int} {v : Int} : ∀ (d i : Nat), (∀ k, i ≤ k → k < i + d → f k = g k) → fnd f v d i = fnd g v d i
  | 0, _, _ => rfl
  | d + 1, i, h => by
    have e1 : fnd f v (d + 1) i = if f i = v then some i else fnd f v d (i + 1) := rfl
    have e2 : fnd g v (d + 1) i = if g i = v then some i else fnd g v d (i + 1) := rfl
    rw [e1, e2, h i (by omega) (by omega), fnd_congr d (i + 1) (fun k h1 h2 => h k (by omega) (by omega))]
def takenS (c : cg) (j : Nat) (xs : List Int) : cg := if j = 0 then byFarS c xs else byNearS c xs
def kindL (j : Nat) : Int := if j = 0 then 75 else 83
def letJ (T : Int) (j : Nat) (xs : List Int) : Prop := if j = 0 then let0 T xs else let1 T xs
theorem letJ_b {T : Int} {j : Nat} {xs : List Int} (h : letJ T j xs) (hT : T ≤ 1000) : byteL xs ∧ wholeL (kindL j) xs ∧ 10 ≤ xs.length ∧ xs.length ≤ 1010 := by
  unfold letJ kindL at *
  by_cases q : j = 0
  · rw [if_pos q] at h ⊢
    obtain ⟨h1, h2, h3, h4, h5⟩ := h
    have a := num_bt (xs := xs) (i := 2)
    by_cases z : xs.length ≤ 3
    · exfalso
      omega
    · have n2 := num_r (i := 2) h1 (by omega)
      exact ⟨h1, h2, by omega, by omega⟩
  · rw [if_neg q] at h ⊢
    exact ⟨h.1, h.2.1, by have := h.2.2.1; omega, h.2.2.2.1⟩
section mTake
variable {h : zH} {I : Nat → Int} {A A' : Nat → Nat → Int} {c : cg} {l : lg} {Q : Option zV → zH → Prop} {B : Int} {xs : List Int}
theorem m_byNear (hm : mOK h) (hR : RepR I A c l) (hG : Good B c l) (hB : B ≤ 1000000) (hx : isLs (A 41) xs) (hsz : I 674 = xs.length) (hl : let1 (c.1 13) xs) (hQ : ∀ I' A', RepR I' A' (byNearS c xs) l → Q none (zM h I' A')) :
    zE 147 0 [some (.inr 29), none, none, none, none] [] (zM h I A) Q := by
  obtain ⟨hb, hw, h13, h1010, h6, h24, h31, b8, b9, b10, wf⟩ := id hl
  have gv := hG.1
  have hV : (1 ≤ c.1 20 ∧ c.1 20 ≤ 32) ∧ c.1 12 ≤ 32 ∧ (0 ≤ c.1 26 ∧ c.1 26 ≤ B) ∧ (0 ≤ c.1 28 ∧ c.1 28 ≤ B) ∧ (0 ≤ c.1 29 ∧ c.1 29 ≤ B) := by unfold gV at gv; omega
  obtain ⟨n, hn⟩ : ∃ n : Nat, c.1 20 = n := ⟨(c.1 20).toNat, by omega⟩
  obtain ⟨⟨a1, a2, a3⟩, a4, a5, a6, a7, a8, a9⟩ := id hR
  have i20 : I 663 = n := (a1 20 (by omega)).trans hn
  have i18 : I 667 = c.1 18 := a1 18 (by omega)
  have c26 : A 37 2 = c.1 26 := a3 2 (by omega)
  have c28 : A 37 4 = c.1 28 := a3 4 (by omega)
  have c29 : A 37 5 = c.1 29 := a3 5 (by omega)
  have e1 : A 41 1 = bt xs 1 := hx.at (by omega)
  rw [yX11_byNear_0 hm, e1, i18]
  unfold byNearS at hQ
  by_cases q : bt xs 1 = c.1 18
  · rw [if_pos q] at hQ ⊢
    rw [hn, Int.toNat_natCast] at hQ
    rw [yX11_byNear_24 hm]
    refine m_twoAt (i := 2) hm hx hb (by omega) (by omega) ?_
    simp only [Option.toList_some, List.cons_append, List.nil_append]
    rw [yX11_byNear_29 hm, i20]
    refine m_stateOf (base := 34) hm (by omega) ?_
    have eF : fnd (fun i => A 34 (34 + i)) (num xs 2) n 0 = fnd (fun i => (c.2.2.1 0 i).2.1) (num xs 2) n 0 := fnd_congr n 0 (fun k _ hk => (a6 k (by omega)).2.1)
    rw [eF]
    simp only [Option.toList_some, List.cons_append, List.nil_append]
    rw [yX11_byNear_41 hm]
    cases hF : fnd (fun i => (c.2.2.1 0 i).2.1) (num xs 2) n 0 with
    | none =>
      rw [hF] at hQ
      have R1 := hR.sN (i := 4) (v := c.1 28 + 1) (by omega)
      obtain ⟨e34, -⟩ := R1.new34 (n := n) ((vS_n (by decide)).trans hn) (by omega)
      rw [if_neg (fun z => z rfl), yX11_byNear_47 hm, c28, zw_eq (by omega) (by omega), yX11_byNear_57 hm]
      refine m_nearNewest hm i20 (by omega) (by omega) ?_
      show zE 147 66 _ [.inl ((34 + (n - 1) : Nat) : Int), .inr 34, .inl (num xs 2)] _ Q
      rw [yX11_byNear_66 hm, Int.toNat_natCast, e34]
      refine ⟨⟨by omega, by omega⟩, ?_⟩
      have hQ' : ∀ I' A', RepR I' A' (nOwes (vS c 28 (c.1 28 + 1)) (num xs 2)) l → Q none (zM h I' A') := hQ
      unfold nOwes at hQ'
      by_cases z : (newN (vS c (24 + 4) (c.1 28 + 1))).2.1 ≤ num xs 2
      · rw [if_pos z] at hQ' ⊢
        rw [yX11_byNear_75 hm]
        exact hQ' _ _ R1
      · rw [if_neg z] at hQ' ⊢
        rw [yX11_byNear_70 hm, yX11_byNear_75 hm]
        exact ⟨Or.inr rfl, hQ' _ _ (R1.sI (k := 17) (v := 1) (by decide) (by decide) (by decide) (by decide) (by decide) (by decide))⟩
    | some j =>
      rw [hF] at hQ
      obtain ⟨-, hj, hj2, -⟩ := fnd_some hF
      have hj3 : (c.2.2.1 0 j).2.1 = num xs 2 := hj2
      have R1 : RepR I (zu A 37 5 (c.1 29 + 1)) (vS c 29 (c.1 29 + 1)) l := hR.sN (i := 5) (v := c.1 29 + 1) (by omega)
      dsimp only
      rw [if_pos (by omega), yX11_byNear_76 hm, c29, zw_eq (by omega) (by omega), yX11_byNear_86 hm, i20]
      refine m_below (base := 34) (gone := j) (T := c.2.2.1 0) hm (by omega) (by omega) (fun i hi => R1.2.2.2.1 i (by rw [vS_n (by decide)]; omega)) (fun i hi => by rw [← hj3]; exact hG.2.2.1.2.2 i j hi (by omega)) (fun hi => by omega) ?_
      intro A2 hT2 hA2
      have hx2 : isLs (A2 41) xs := fun i v z => (hA2 41 i (by unfold reg; omega)).trans ((zu_na (by decide)).trans (hx i v z))
      show zE 147 98 _ [.inl ((n - j : Nat) : Int), .inr 29] _ Q
      have R2 := R1.dropN (n := n) (gone := j) (A' := A2) ((vS_n (by decide)).trans hn) (by omega) (by omega) (by rw [vS_n (by decide)]; exact hV.2.1) hT2 hA2
      have j20 : fup I 663 ((n - j : Nat) : Int) 663 = ((n - j : Nat) : Int) := fup_s
      rw [yX11_byNear_98 hm, yX11_byNear_101 hm, j20]
      refine m_stateOf (base := 34) hm (by omega) ?_
      have t0 := hT2 0 (by omega)
      have e34 : A2 34 (34 + 0) = num xs 2 := by
        rw [t0.2.1, Nat.zero_add]
        exact hj3
      have eF2 : fnd (fun i => A2 34 (34 + i)) (num xs 2) (n - j) 0 = some 0 := by
        obtain ⟨m, hm2⟩ : ∃ m, n - j = m + 1 := ⟨n - j - 1, by omega⟩
        rw [hm2]
        show (if A2 34 (34 + 0) = num xs 2 then some 0 else _) = some 0
        rw [if_pos e34]
      rw [eF2]
      simp only [Option.toList_some, List.cons_append, List.nil_append]
      rw [yX11_byNear_112 hm]
      refine m_twoAt (i := 4) hm hx2 hb (by omega) (by omega) ?_
      simp only [Option.toList_some, List.cons_append, List.nil_append]
      rw [yX11_byNear_118 hm]
      refine m_twoAt (i := 6) hm hx2 hb (by omega) (by omega) ?_
      simp only [Option.toList_some, List.cons_append, List.nil_append]
      have j14 : fup I 663 ((n - j : Nat) : Int) 662 = c.1 14 := (fup_n (by decide)).trans (a1 14 (by omega))
      have j74 : fup I 663 ((n - j : Nat) : Int) 674 = xs.length := (fup_n (by decide)).trans hsz
      have R3 := R2.sI (k := 14) (v := max (c.1 14) (num xs 6)) (by decide) (by decide) (by decide) (by decide) (by decide) (by decide)
      have G3 : Good (B + 1) (nPre c j xs) l := good_nPre hG hl (by omega)
      have h00 : ((nPre c j xs).2.2.1 0 0).2.1 = num xs 2 := by
        show (c.2.2.1 0 (0 + j)).2.1 = num xs 2
        rw [Nat.zero_add]
        exact hj3
      have e142 : ∀ l4, zE 147 142 [some (.inr 29), some (.inl (num xs 2)), some (.inl 34), some (.inl (num xs 4)), l4] [] (zM h (fup (fup I 663 ((n - j : Nat) : Int)) 662 (max (c.1 14) (num xs 6))) A2) Q := fun l4 =>
        m_byNear_n (c := nPre c j xs) hm R3 G3 hx2 ((fup_n (by decide)).trans j74) hl h00 hQ
      rw [yX11_byNear_125 hm, j14]
      by_cases z : num xs 6 ≤ c.1 14
      · rw [if_pos z]
        have e := e142 none
        rw [show max (c.1 14) (num xs 6) = c.1 14 by omega, fup_id j14] at e
        exact e
      · rw [if_neg z, yX11_byNear_132 hm]
        refine m_twoAt (i := 6) hm hx2 hb (by omega) (by omega) ?_
        show zE 147 139 _ [.inl (num xs 6), .inr 29] _ Q
        have e := e142 none
        rw [show max (c.1 14) (num xs 6) = num xs 6 by omega] at e
        rw [yX11_byNear_139 hm]
        exact e
  · rw [if_neg q] at hQ ⊢
    rw [yX11_byNear_13 hm, c26, zw_eq (by omega) (by omega), yX11_byNear_23 hm]
    exact hQ _ _ (hR.sN (i := 2) (v := c.1 26 + 1) (by omega))
/-- whether the bytes are such -/
theorem m_taken_t {j : Nat} {chg : Int} (hm : mOK h) (hj : j < 2) (hx : isLs (A 41) xs) (hb : byteL xs) (hsz : I 674 = xs.length) (h10 : 10 ≤ xs.length) (h1100 : xs.length ≤ 1100) {l3 l4 : Option zV}
    (h1 : wholeL (kindL j) xs → zE 148 56 [some (.inr 29), some (.inl (j : Int)), some (.inl chg), l3, l4] [.inl 1] (zM h I A) Q) (h2 : ¬ wholeL (kindL j) xs → zE 148 56 [some (.inr 29), some (.inl (j : Int)), some (.inl chg), l3, l4] [.inl 0] (zM h I A) Q) :
    zE 148 0 [some (.inr 29), some (.inl (j : Int)), some (.inl chg), l3, l4] [] (zM h I A) Q := by
  have e0 : A 41 0 = xs.getD 0 (-1) := hx.at (by omega)
  have w2 : zw ((xs.length : Int) - 2) = ((xs.length - 2 : Nat) : Int) := by
    rw [zw_eq (by omega) (by omega)]
    omega
  have e55 : ¬ wholeL (kindL j) xs → zE 148 55 [some (.inr 29), some (.inl (j : Int)), some (.inl chg), l3, l4] [] (zM h I A) Q := by
    intro no
    rw [yX11_taken_55 hm]
    exact h2 no
  have e25 : zE 148 25 [some (.inr 29), some (.inl (j : Int)), some (.inl chg), l3, l4] [.inl (kindL j), .inl (xs.getD 0 (-1))] (zM h I A) Q := by
    rw [yX11_taken_25 hm]
    by_cases q : xs.getD 0 (-1) = kindL j
    · rw [if_neg (fun z => z q), yX11_taken_28 hm, hsz, w2]
      refine m_twoAt hm hx hb (by omega) (by omega) ?_
      simp only [Option.toList_some, List.cons_append, List.nil_append]
      rw [yX11_taken_38 hm, hsz, w2]
      refine m_sumOf hm hx hb (by omega) (by omega) ?_
      show zE 148 48 _ [.inl (sm (xs.take (xs.length - 2))), .inl (num xs (xs.length - 2))] _ Q
      rw [yX11_taken_48 hm]
      by_cases y : num xs (xs.length - 2) = sm (xs.take (xs.length - 2))
      · rw [if_neg (fun z => z y), yX11_taken_51 hm]
        exact h1 ⟨q, y.symm⟩
      · rw [if_pos y]
        exact e55 (fun z => y z.2.symm)
    · rw [if_pos q]
      exact e55 (fun z => q z.1)
  rw [yX11_taken_0 hm, hsz, if_neg (by omega), yX11_taken_8 hm, e0]
  unfold kindL at e25
  by_cases q : j = 0
  · rw [if_pos q] at e25
    rw [if_neg (by omega), yX11_taken_18 hm]
    exact e25
  · rw [if_neg q] at e25
    rw [if_pos (by omega), yX11_taken_23 hm]
    exact e25
theorem m_taken_b {j : Nat} {chg : Int} (hm : mOK h) (hR : RepR I A c l) (hG : Good B c l) (hB : B ≤ 1000000) (hj : j < 2) (hx : isLs (A 41) xs) (hb : byteL xs) (hsz : I 674 = xs.length) (h10 : 10 ≤ xs.length) (h1100 : xs.length ≤ 1100) (hw : ¬ wholeL (kindL j) xs)
    (hQ : ∀ I' A', RepR I' A' (vS c 27 (c.1 27 + 1)) l → Q none (zM h I' A')) : zE 148 0 [some (.inr 29), some (.inl (j : Int)), some (.inl chg), none, none] [] (zM h I A) Q := by
  have gv := hG.1
  have hV : 0 ≤ c.1 27 ∧ c.1 27 ≤ B := by unfold gV at gv; omega
  have c27 : A 37 3 = c.1 27 := hR.1.2.2 3 (by omega)
  refine m_taken_t hm hj hx hb hsz h10 h1100 (fun z => absurd z hw) (fun _ => ?_)
  rw [yX11_taken_56 hm, if_neg (fun z => z rfl), yX11_taken_61 hm, c27, zw_eq (by omega) (by omega), yX11_taken_71 hm]
  exact hQ _ _ (hR.sN (i := 3) (v := c.1 27 + 1) (by omega))
theorem m_taken {j : Nat} (hm : mOK h) (hR : RepR I A c l) (hG : Good B c l) (hB : B ≤ 1000000) (hj : j < 2) (hx : isLs (A 41) xs) (hsz : I 674 = xs.length) (hl : letJ (c.1 13) j xs)
    (hQ : ∀ I' A', RepR I' A' (takenS c j xs) l → Q none (zM h I' A')) : zE 148 0 [some (.inr 29), some (.inl (j : Int)), some (.inl 0), none, none] [] (zM h I A) Q := by
  have gv := hG.1
  have hT : c.1 13 ≤ 1000 := by unfold gV at gv; omega
  obtain ⟨hb, hw, h10, h1010⟩ := letJ_b hl hT
  refine m_taken_t hm hj hx hb hsz h10 (by omega) (fun _ => ?_) (fun z => absurd hw z)
  have e95 : ∀ (j : Int) I' A' l3 l4, RepR I' A' (takenS c j.toNat xs) l → j.toNat < 2 → (∀ I' A', RepR I' A' (takenS c j.toNat xs) l → Q none (zM h I' A')) → zE 148 95 [some (.inr 29), some (.inl j), some (.inl 0), l3, l4] [] (zM h I' A') Q := by
    intro j I' A' l3 l4 R _ hQ
    rw [yX11_taken_95 hm, if_pos rfl, yX11_taken_121 hm]
    exact hQ _ _ R
  rw [yX11_taken_56 hm, if_pos (by decide), yX11_taken_72 hm]
  unfold takenS letJ at *
  by_cases q : j = 0
  · rw [if_pos q] at hQ hl
    rw [if_neg (by omega), yX11_taken_84 hm]
    refine m_byFar hm hR hG hB hx hl ?_
    intro I2 A2 R2
    simp only [Option.toList_none, List.nil_append]
    rw [yX11_taken_88 hm, yX11_taken_95 hm, if_pos rfl, yX11_taken_121 hm]
    exact hQ _ _ R2
  · rw [if_neg q] at hQ hl
    rw [if_pos (by omega), yX11_taken_91 hm]
    refine m_byNear hm hR hG hB hx hsz hl ?_
    intro I2 A2 R2
    simp only [Option.toList_none, List.nil_append]
    rw [yX11_taken_95 hm, if_pos rfl, yX11_taken_121 hm]
    exact hQ _ _ R2
theorem good_takenS {j : Nat} (hG : Good B c l) (hl : letJ (c.1 13) j xs) : Good (B + 1) (takenS c j xs) l := by
  unfold takenS letJ at *
  by_cases q : j = 0
  · rw [if_pos q] at hl ⊢
    exact good_byFar hG hl
  · rw [if_neg q] at hl ⊢
    exact good_byNear hG hl
end mTake
