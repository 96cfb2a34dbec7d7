/-! WHAT IS ASKED, and the model's answers -/
def ovl (c : cg) (only : Int) (k : Nat) : sC := (fun p => match lst (fun i => laid only (c.1 22) (c.2.2.2.2 i) && decide (c.2.2.2.2 i 2 = (p : Int))) k with | some j => c.2.2.2.2 j 3 + 384 | none => (newN c).1.1 p, match lst (fun i => laid only (c.1 22) (c.2.2.2.2 i)) k with | some j => (c.2.2.2.2 j 4, c.2.2.2.2 j 5) | none => (newN c).1.2)
def seenS (c : cg) (e : Int) : sC := if e = 0 then (newN c).1 else if e = 1 then c.2.1 else ovl c (if e = 2 then 1 else 0) (c.1 21).toNat
def cellA (c : cg) (e r q w : Int) : Int := if (0 ≤ e ∧ e ≤ 3) ∧ (0 ≤ r ∧ r < 8 ∧ 0 ≤ q ∧ q < 24) ∧ (w = 0 ∨ w = 1) then (if w = 0 then (seenS c e).1 (24 * r + q).toNat % 128 else (seenS c e).1 (24 * r + q).toNat / 128) else -1
def cursA (c : cg) (e a : Int) : Int := if (0 ≤ e ∧ e ≤ 3) ∧ (a = 0 ∨ a = 1) then (if a = 0 then (seenS c e).2.1 else (seenS c e).2.2) else -1
def stateA (c : cg) (e w : Int) : Int := if e = 0 then fRep (c.1 13) (c.1 14) (newN c).2.1 (c.1 20) (c.1 16) (c.1 17) (c.1 18) (c.1 19) w else if e = 1 then fRep (c.1 6) (c.1 7) (newF c).2.1 (c.1 12) (c.1 9) (c.1 10) (c.1 11) (c.1 4) w else -1
def keptA (c : cg) (e i : Int) : Int := if e = 0 ∧ 0 ≤ i ∧ i < c.1 20 then (c.2.2.1 0 i.toNat).2.1 else if e = 1 ∧ 0 ≤ i ∧ i < c.1 12 then (c.2.2.1 1 i.toNat).2.1 else -1
def guessA (c : cg) (i w : Int) : Int := if 0 ≤ i ∧ i < c.1 21 then gRep (c.1 22) (c.2.2.2.2 i.toNat) w else -2
def letterA (l : lg) (line k w : Int) : Int := if (line = 0 ∨ line = 1) ∧ 0 ≤ k ∧ k < ((l line.toNat).length : Nat) then (if w < 0 then -1 else if w = 0 then ((l line.toNat).getD k.toNat []).length else ((l line.toNat).getD k.toNat []).getD (w - 1).toNat (-1)) else -1
def countA (c : cg) (l : lg) (w : Int) : Int := if 0 ≤ w ∧ w < 10 then c.1 (24 + w.toNat) else if w = 10 then c.1 0 else if w = 11 then c.1 21 else if w = 12 then c.1 22 else if w = 13 then c.1 23 else if w = 14 then (l 0).length else if w = 15 then (l 1).length else -1
theorem get_some {ys : List Int} {x : Nat} (h : x < ys.length) : ys[x]? = some (ys.getD x (-1)) := by
  rw [List.getD_eq_getElem?_getD, List.getElem?_eq_getElem h]
  rfl
section mAsk
variable {h : zH} {I : Nat → Int} {A A' : Nat → Nat → Int} {c : cg} {l : lg} {Q : Option zV → zH → Prop} {B : Int}
theorem m_over_l {e : Int} {m : Nat} (hm : mOK h) (he : e = 2 ∨ e = 3) (hR : RepR I A c l) (hG : Good B c l) (hn : c.1 21 = m)
    (hQ : ∀ A', wk A A' → mS A' 68 (ovl c (if e = 2 then 1 else 0) m) → Q (some (.inl 68)) (zM h I A')) :
    ∀ (d k : Nat) (A1 : Nat → Nat → Int), k + d = m → wk A A1 → mS A1 68 (ovl c (if e = 2 then 1 else 0) k) → zE 158 40 [some (.inr 29), some (.inl e), some (.inl (k : Int))] [] (zM h I A1) Q := by
  have gv := hG.1
  have hV : 0 ≤ c.1 21 ∧ c.1 21 ≤ 60 := by unfold gV at gv; omega
  have i21 : I 677 = m := (hR.1.1 21 (by omega)).trans hn
  have i22 : I 678 = c.1 22 := hR.1.1 22 (by omega)
  intro d
  induction d with
  | zero =>
    intro k A1 hk hw hS
    have ek : k = m := by omega
    subst ek
    rw [yX11_screenOf_40 hm, i21, if_pos (by omega), yX11_screenOf_151 hm]
    exact hQ A1 hw hS
  | succ d ih =>
    intro k A1 hk hw hS
    have rg : ∀ q, q < 6 → A1 (42 + q) k = c.2.2.2.2 k q := fun q hq => (hw _ _ (Or.inl (Or.inr (Or.inr (by omega))))).trans (hR.2.2.2.2.2.1 k (by omega) q hq)
    have g1 : A1 43 k = c.2.2.2.2 k 1 := rg 1 (by omega)
    have g2 : A1 44 k = c.2.2.2.2 k 2 := rg 2 (by omega)
    have g3 : A1 45 k = c.2.2.2.2 k 3 := rg 3 (by omega)
    have g4 : A1 46 k = c.2.2.2.2 k 4 := rg 4 (by omega)
    have g5 : A1 47 k = c.2.2.2.2 k 5 := rg 5 (by omega)
    have go := hG.2.2.2.2.1 k (by omega)
    unfold gOK at go
    have e145 : ∀ A2, wk A A2 → mS A2 68 (ovl c (if e = 2 then 1 else 0) (k + 1)) → zE 158 145 [some (.inr 29), some (.inl e), some (.inl (k : Int))] [] (zM h I A2) Q := by
      intro A2 w2 s2
      rw [yX11_screenOf_145 hm, zw_eq (by omega) (by omega)]
      exact ih (k + 1) A2 (by omega) w2 s2
    have e69 : laid (if e = 2 then 1 else 0) (c.1 22) (c.2.2.2.2 k) = true → zE 158 69 [some (.inr 29), some (.inl e), some (.inl (k : Int))] [] (zM h I A1) Q := by
      intro la
      rw [yX11_screenOf_69 hm, Int.toNat_natCast, g4, yX11_screenOf_82 hm, Int.toNat_natCast, zu_na (by decide), g5, yX11_screenOf_95 hm, Int.toNat_natCast, zu_na (by decide), zu_na (by decide), g2]
      refine ⟨⟨by omega, by omega⟩, ⟨by omega, by omega⟩, ⟨by omega, by omega⟩, ?_⟩
      have eA : zu (zu A1 32 68 (c.2.2.2.2 k 4)) 33 68 (c.2.2.2.2 k 5) = mW A1 68 ((ovl c (if e = 2 then 1 else 0) k).1, c.2.2.2.2 k 4, c.2.2.2.2 k 5) := by
        have e1 : zu (zu (mW A1 68 (ovl c (if e = 2 then 1 else 0) k)) 32 68 (c.2.2.2.2 k 4)) 33 68 (c.2.2.2.2 k 5) = mW A1 68 ((ovl c (if e = 2 then 1 else 0) k).1, c.2.2.2.2 k 4, c.2.2.2.2 k 5) := by
          rw [mW_row, mW_col]
        rw [mW_id hS] at e1
        exact e1
      have eo2 : (ovl c (if e = 2 then 1 else 0) (k + 1)).2 = (c.2.2.2.2 k 4, c.2.2.2.2 k 5) := by
        show (match lst (fun i => laid (if e = 2 then 1 else 0) (c.1 22) (c.2.2.2.2 i)) (k + 1) with | some j => (c.2.2.2.2 j 4, c.2.2.2.2 j 5) | none => (newN c).1.2) = _
        rw [lst_s, if_pos la]
      rw [eA]
      by_cases z : c.2.2.2.2 k 2 = -1
      · rw [if_neg (fun y => y z), yX11_screenOf_105 hm]
        refine e145 _ (hw.tr (wk_W (by omega))) ?_
        have : (ovl c (if e = 2 then 1 else 0) (k + 1)) = ((ovl c (if e = 2 then 1 else 0) k).1, c.2.2.2.2 k 4, c.2.2.2.2 k 5) := by
          refine Prod.ext ?_ eo2
          funext p
          show (match lst (fun i => laid (if e = 2 then 1 else 0) (c.1 22) (c.2.2.2.2 i) && decide (c.2.2.2.2 i 2 = (p : Int))) (k + 1) with | some j => c.2.2.2.2 j 3 + 384 | none => (newN c).1.1 p) = _
          rw [lst_s, if_neg (by rw [Bool.and_eq_true]; exact fun y => absurd (of_decide_eq_true y.2) (by omega))]
          rfl
        rw [this]
        exact mS_W
      · obtain ⟨ce, hce⟩ : ∃ n : Nat, c.2.2.2.2 k 2 = n := ⟨(c.2.2.2.2 k 2).toNat, by omega⟩
        have w1 : zw (13056 + (ce : Int)) = ((192 * 68 + ce : Nat) : Int) := by
          rw [zw_eq (by omega) (by omega)]
          omega
        have r1 : ∀ X a i, 33 < a → mW A1 68 X a i = A1 a i := fun X a i ha => mW_o (by omega)
        have ec := mW_cell (A := A1) (s := 68) (X := ((ovl c (if e = 2 then 1 else 0) k).1, c.2.2.2.2 k 4, c.2.2.2.2 k 5)) (k := ce) (v := c.2.2.2.2 k 3 + 384) (by omega)
        rw [show (c.2.2.2.2 k 3 + 384) % 128 = c.2.2.2.2 k 3 by omega, show (c.2.2.2.2 k 3 + 384) / 128 = 3 by omega] at ec
        rw [if_pos z, yX11_screenOf_108 hm, Int.toNat_natCast, r1 _ _ _ (by decide), r1 _ _ _ (by decide), g2, g3, hce, w1, Int.toNat_natCast, yX11_screenOf_129 hm, Int.toNat_natCast, zu_na (by decide), r1 _ _ _ (by decide), g2, hce, w1, Int.toNat_natCast, ec]
        refine ⟨⟨by omega, by omega⟩, ⟨by omega, by omega⟩, ⟨by omega, by omega⟩, ⟨by omega, by omega⟩, ⟨by omega, by omega⟩, e145 _ (hw.tr (wk_W (by omega))) ?_⟩
        have : (ovl c (if e = 2 then 1 else 0) (k + 1)) = (fup (ovl c (if e = 2 then 1 else 0) k).1 ce (c.2.2.2.2 k 3 + 384), c.2.2.2.2 k 4, c.2.2.2.2 k 5) := by
          refine Prod.ext ?_ eo2
          funext p
          show (match lst (fun i => laid (if e = 2 then 1 else 0) (c.1 22) (c.2.2.2.2 i) && decide (c.2.2.2.2 i 2 = (p : Int))) (k + 1) with | some j => c.2.2.2.2 j 3 + 384 | none => (newN c).1.1 p) = fup (ovl c (if e = 2 then 1 else 0) k).1 ce (c.2.2.2.2 k 3 + 384) p
          rw [lst_s]
          unfold fup
          by_cases y : p = ce
          · rw [if_pos y, if_pos (by rw [Bool.and_eq_true]; exact ⟨la, decide_eq_true (by rw [hce, y])⟩)]
          · rw [if_neg y, if_neg (by rw [Bool.and_eq_true]; exact fun u => absurd (of_decide_eq_true u.2) (by omega))]
            rfl
        rw [this]
        exact mS_W
    have eno : laid (if e = 2 then 1 else 0) (c.1 22) (c.2.2.2.2 k) ≠ true → ovl c (if e = 2 then 1 else 0) (k + 1) = ovl c (if e = 2 then 1 else 0) k := by
      intro la
      refine Prod.ext ?_ ?_
      · funext p
        show (match lst (fun i => laid (if e = 2 then 1 else 0) (c.1 22) (c.2.2.2.2 i) && decide (c.2.2.2.2 i 2 = (p : Int))) (k + 1) with | some j => c.2.2.2.2 j 3 + 384 | none => (newN c).1.1 p) = _
        rw [lst_s, if_neg (by rw [Bool.and_eq_true]; exact fun y => la y.1)]
        rfl
      · show (match lst (fun i => laid (if e = 2 then 1 else 0) (c.1 22) (c.2.2.2.2 i)) (k + 1) with | some j => (c.2.2.2.2 j 4, c.2.2.2.2 j 5) | none => (newN c).1.2) = _
        rw [lst_s, if_neg la]
        rfl
    rw [yX11_screenOf_40 hm, i21, if_neg (by omega), yX11_screenOf_48 hm]
    by_cases z : e = 2
    · rw [if_neg (fun y => y z), yX11_screenOf_53 hm, Int.toNat_natCast, g1, i22]
      refine ⟨⟨by omega, by omega⟩, ?_⟩
      by_cases y : c.2.2.2.2 k 1 ≤ c.1 22
      · rw [if_pos y]
        exact e69 (decide_eq_true (Or.inr y))
      · rw [if_neg y, yX11_screenOf_66 hm]
        have la : laid (if e = 2 then 1 else 0) (c.1 22) (c.2.2.2.2 k) ≠ true := by
          rw [if_pos z]
          intro u
          have := of_decide_eq_true u
          omega
        refine e145 A1 hw ?_
        rw [eno la]
        exact hS
    · rw [if_pos z]
      exact e69 (by rw [if_neg z]; exact decide_eq_true (Or.inl rfl))
/-- the slot of a screen that is asked for -/
theorem m_screenOf {e : Int} (hm : mOK h) (hR : RepR I A c l) (hG : Good B c l)
    (hQ : ∀ A' s, wk A A' → s < 69 → 0 ≤ e ∧ e ≤ 3 → mS A' s (seenS c e) → Q (some (.inl ((s : Nat) : Int))) (zM h I A')) (hN : ¬ (0 ≤ e ∧ e ≤ 3) → Q (some (.inl (-1))) (zM h I A)) {l2 : Option zV} :
    zE 158 0 [some (.inr 29), some (.inl e), l2] [] (zM h I A) Q := by
  have gv := hG.1
  have hV : (1 ≤ c.1 20 ∧ c.1 20 ≤ 32) ∧ (0 ≤ c.1 21 ∧ c.1 21 ≤ 60) := by unfold gV at gv; omega
  obtain ⟨w, hw⟩ : ∃ n : Nat, c.1 20 = n := ⟨(c.1 20).toNat, by omega⟩
  obtain ⟨m, hm2⟩ : ∃ n : Nat, c.1 21 = n := ⟨(c.1 21).toNat, by omega⟩
  have i20 : I 663 = w := (hR.1.1 20 (by omega)).trans hw
  obtain ⟨-, tN⟩ := hR.new34 hw (by omega)
  unfold seenS at hQ
  rw [yX11_screenOf_0 hm]
  by_cases e0 : e = 0
  · rw [if_pos e0] at hQ
    rw [if_neg (fun z => z e0), yX11_screenOf_4 hm]
    refine m_nearNewest hm i20 (by omega) (by omega) ?_
    simp only [Option.toList_some, List.cons_append, List.nil_append]
    rw [yX11_screenOf_8 hm]
    exact hQ A _ wk.rf (by omega) (by omega) tN.1
  · rw [if_neg e0] at hQ
    rw [if_pos e0, yX11_screenOf_9 hm]
    by_cases e1 : e = 1
    · rw [if_pos e1] at hQ
      rw [if_neg (fun z => z e1), yX11_screenOf_14 hm]
      exact hQ A 0 wk.rf (by omega) (by omega) hR.2.1
    · rw [if_neg e1, hm2, Int.toNat_natCast] at hQ
      rw [if_pos e1, yX11_screenOf_16 hm]
      have e28 : (e = 2 ∨ e = 3) → zE 158 28 [some (.inr 29), some (.inl e), l2] [] (zM h I A) Q := by
        intro he
        rw [yX11_screenOf_28 hm]
        refine m_nearNewest hm i20 (by omega) (by omega) ?_
        show zE 158 33 _ [.inl ((34 + (w - 1) : Nat) : Int), .inr 29] _ Q
        rw [yX11_screenOf_33 hm]
        refine m_copies (s := 68) hm (by omega) (by omega) (by omega) tN.1 ?_
        simp only [Option.toList_none, List.nil_append]
        rw [yX11_screenOf_38 hm]
        refine m_over_l (l := l) (A := A) hm he hR hG hm2 (fun A' w' s' => hQ A' 68 w' (by omega) (by omega) s') m 0 _ (by omega) (((wk_W (by omega)).tr (wk_zu (by omega) (by omega))).tr (wk_zu (by omega) (by omega))) ?_
        have : ovl c (if e = 2 then 1 else 0) 0 = (newN c).1 := rfl
        rw [this]
        exact mS_zu (by omega) (mS_zu (by omega) mS_W)
      by_cases e2 : e = 2
      · rw [if_pos e2]
        exact e28 (Or.inl e2)
      · rw [if_neg e2, yX11_screenOf_21 hm]
        by_cases e3 : e = 3
        · rw [if_pos e3]
          exact e28 (Or.inr e3)
        · rw [if_neg e3, yX11_screenOf_26 hm]
          exact hN (by omega)
theorem m_cell {e r q w : Int} (hm : mOK h) (hR : RepR I A c l) (hG : Good B c l) (hQ : ∀ A', RepR I A' c l → Q (some (.inl (cellA c e r q w))) (zM h I A')) {l5 l6 : Option zV} :
    zE 159 0 [some (.inr 29), some (.inl e), some (.inl r), some (.inl q), some (.inl w), l5, l6] [] (zM h I A) Q := by
  have gv := hG.1
  have hV : c.1 12 ≤ 33 ∧ c.1 20 ≤ 33 := by unfold gV at gv; omega
  have no : ∀ A' l5, RepR I A' c l → ¬ ((0 ≤ e ∧ e ≤ 3) ∧ (0 ≤ r ∧ r < 8 ∧ 0 ≤ q ∧ q < 24) ∧ (w = 0 ∨ w = 1)) → zE 159 21 [some (.inr 29), some (.inl e), some (.inl r), some (.inl q), some (.inl w), l5, l6] [] (zM h I A') Q := by
    intro A' l5 R z
    have := hQ A' R
    unfold cellA at this
    rw [if_neg z] at this
    rw [yX11_cell_21 hm]
    exact this
  rw [yX11_cell_0 hm]
  refine m_screenOf hm hR hG ?_ ?_
  · intro A' s hw hs he hS
    have R' : RepR I A' c l := hR.fr hV.1 hV.2 (fun _ _ => rfl) (fun a i z => hw a i (Or.inl z))
    simp only [Option.toList_some, List.cons_append, List.nil_append]
    rw [yX11_cell_5 hm, if_neg (by omega), yX11_cell_13 hm]
    refine m_isCell ?_
    simp only [Option.toList_some, List.cons_append, List.nil_append]
    rw [yX11_cell_18 hm]
    by_cases p : 0 ≤ r ∧ r < 8 ∧ 0 ≤ q ∧ q < 24
    · obtain ⟨rr, hr⟩ : ∃ n : Nat, r = n := ⟨r.toNat, by omega⟩
      obtain ⟨qq, hq⟩ : ∃ n : Nat, q = n := ⟨q.toNat, by omega⟩
      have q' := hQ A' R'
      unfold cellA at q'
      have hc := hS.1 (24 * rr + qq) (by omega)
      rw [if_pos p, if_pos (by decide), yX11_cell_23 hm]
      by_cases w0 : w = 0
      · rw [if_pos ⟨he, p, Or.inl w0⟩, if_pos w0, show (24 * r + q).toNat = 24 * rr + qq by omega] at q'
        rw [if_neg (fun z => z w0), yX11_cell_43 hm, hr, hq, ix3 (by omega) (by omega) (by omega), Int.toNat_natCast, hc.1, yX11_cell_70 hm]
        exact ⟨⟨by omega, by omega⟩, q'⟩
      · rw [if_pos w0, yX11_cell_53 hm]
        by_cases w1 : w = 1
        · rw [if_pos ⟨he, p, Or.inr w1⟩, if_neg w0, show (24 * r + q).toNat = 24 * rr + qq by omega] at q'
          rw [if_neg (fun z => z w1), yX11_cell_59 hm, hr, hq, ix3 (by omega) (by omega) (by omega), Int.toNat_natCast, hc.2, yX11_cell_70 hm]
          exact ⟨⟨by omega, by omega⟩, q'⟩
        · rw [if_neg (fun z => by omega)] at q'
          rw [if_pos w1, yX11_cell_69 hm, yX11_cell_70 hm]
          exact q'
    · rw [if_neg p, if_neg (fun z => z rfl)]
      exact no A' _ R' (fun z => p z.2.1)
  · intro ne
    simp only [Option.toList_some, List.cons_append, List.nil_append]
    rw [yX11_cell_5 hm, if_pos rfl]
    exact no A _ hR (fun z => ne z.1)
theorem m_cursor {e a : Int} (hm : mOK h) (hR : RepR I A c l) (hG : Good B c l) (hQ : ∀ A', RepR I A' c l → Q (some (.inl (cursA c e a))) (zM h I A')) {l3 : Option zV} :
    zE 160 0 [some (.inr 29), some (.inl e), some (.inl a), l3] [] (zM h I A) Q := by
  have gv := hG.1
  have hV : c.1 12 ≤ 33 ∧ c.1 20 ≤ 33 := by unfold gV at gv; omega
  unfold cursA at hQ
  rw [yX11_cursor_0 hm]
  refine m_screenOf hm hR hG ?_ ?_
  · intro A' s hw hs he hS
    have R' : RepR I A' c l := hR.fr hV.1 hV.2 (fun _ _ => rfl) (fun a i z => hw a i (Or.inl z))
    have q' := hQ A' R'
    simp only [Option.toList_some, List.cons_append, List.nil_append]
    rw [yX11_cursor_5 hm, if_pos (by omega), yX11_cursor_13 hm]
    by_cases a0 : a = 0
    · rw [if_pos ⟨he, Or.inl a0⟩, if_pos a0] at q'
      rw [if_neg (fun z => z a0), yX11_cursor_17 hm, Int.toNat_natCast, hS.2.1, yX11_cursor_41 hm]
      exact ⟨⟨by omega, by omega⟩, q'⟩
    · rw [if_pos a0, yX11_cursor_26 hm]
      by_cases a1 : a = 1
      · rw [if_pos ⟨he, Or.inr a1⟩, if_neg a0] at q'
        rw [if_neg (fun z => z a1), yX11_cursor_31 hm, Int.toNat_natCast, hS.2.2, yX11_cursor_41 hm]
        exact ⟨⟨by omega, by omega⟩, q'⟩
      · rw [if_neg (by omega)] at q'
        rw [if_pos a1, yX11_cursor_40 hm, yX11_cursor_41 hm]
        exact q'
  · intro ne
    have q' := hQ A hR
    rw [if_neg (fun z => ne z.1)] at q'
    simp only [Option.toList_some, List.cons_append, List.nil_append]
    rw [yX11_cursor_5 hm, if_neg (fun z => z rfl), yX11_cursor_11 hm]
    exact q'
theorem m_alike (hm : mOK h) (hR : RepR I A c l) (hG : Good B c l) (hQ : ∀ r : Int, (r = 0 ∨ r = 1) → (r = 1 ↔ likeX c.2.1 (newN c).1) → Q (some (.inl r)) (zM h I A)) :
    zE 161 0 [some (.inr 29)] [] (zM h I A) Q := by
  have gv := hG.1
  have hV : 1 ≤ c.1 20 ∧ c.1 20 ≤ 32 := by unfold gV at gv; omega
  obtain ⟨w, hw⟩ : ∃ n : Nat, c.1 20 = n := ⟨(c.1 20).toNat, by omega⟩
  have i20 : I 663 = w := (hR.1.1 20 (by omega)).trans hw
  obtain ⟨-, tN⟩ := hR.new34 hw (by omega)
  rw [yX11_alike_0 hm]
  refine m_nearNewest hm i20 (by omega) (by omega) ?_
  show zE 161 6 _ [.inl ((34 + (w - 1) : Nat) : Int), .inl 0, .inr 29] _ Q
  rw [yX11_alike_6 hm]
  refine m_same (a := 0) hm (by omega) (by omega) hR.2.1 tN.1 ?_
  intro r hr hl
  simp only [Option.toList_some, List.cons_append, List.nil_append]
  rw [yX11_alike_9 hm]
  exact ⟨hr, hQ r hr hl⟩
theorem m_kept {e i : Int} (hm : mOK h) (hR : RepR I A c l) (hG : Good B c l) (hQ : Q (some (.inl (keptA c e i))) (zM h I A)) : zE 163 0 [some (.inr 29), some (.inl e), some (.inl i)] [] (zM h I A) Q := by
  have gv := hG.1
  have hV : (1 ≤ c.1 20 ∧ c.1 20 ≤ 32) ∧ (1 ≤ c.1 12 ∧ c.1 12 ≤ 32) := by unfold gV at gv; omega
  have i20 : I 663 = c.1 20 := hR.1.1 20 (by omega)
  have i12 : I 654 = c.1 12 := hR.1.1 12 (by omega)
  unfold keptA at hQ
  have no : ¬ (e = 0 ∧ 0 ≤ i ∧ i < c.1 20) → ¬ (e = 1 ∧ 0 ≤ i ∧ i < c.1 12) → zE 163 32 [some (.inr 29), some (.inl e), some (.inl i)] [] (zM h I A) Q := by
    intro a b
    rw [if_neg a, if_neg b] at hQ
    rw [yX11_kept_32 hm]
    exact hQ
  have e9 : (e = 0 ∨ e = 1) → zE 163 9 [some (.inr 29), some (.inl e), some (.inl i)] [] (zM h I A) Q := by
    intro he
    rw [yX11_kept_9 hm]
    by_cases i0 : i < 0
    · rw [if_pos i0]
      exact no (by omega) (by omega)
    · rw [if_neg i0, yX11_kept_13 hm]
      by_cases e0 : e = 0
      · rw [if_neg (fun z => z e0), yX11_kept_18 hm, i20, yX11_kept_29 hm]
        by_cases z : i < c.1 20
        · obtain ⟨k, hk⟩ : ∃ n : Nat, i = n := ⟨i.toNat, by omega⟩
          have t := (hR.2.2.2.1 k (by omega)).2.1
          rw [if_pos ⟨e0, by omega, z⟩, hk, Int.toNat_natCast] at hQ
          rw [if_pos z, yX11_kept_34 hm, if_neg (fun z => z e0), yX11_kept_42 hm, yX11_kept_48 hm, hk, zw_eq (by omega) (by omega), show (34 + (k : Int)).toNat = 34 + k by omega, t]
          exact ⟨⟨by omega, by omega⟩, hQ⟩
        · rw [if_neg z]
          exact no (by omega) (by omega)
      · rw [if_pos e0, yX11_kept_25 hm, i12, yX11_kept_29 hm]
        by_cases z : i < c.1 12
        · obtain ⟨k, hk⟩ : ∃ n : Nat, i = n := ⟨i.toNat, by omega⟩
          have t := (hR.2.2.1 k (by omega)).2.1
          rw [if_neg (fun y => e0 y.1), if_pos ⟨by omega, by omega, z⟩, hk, Int.toNat_natCast] at hQ
          rw [if_pos z, yX11_kept_34 hm, if_pos e0, yX11_kept_47 hm, yX11_kept_48 hm, hk, zw_eq (by omega) (by omega), show (1 + (k : Int)).toNat = 1 + k by omega, t]
          exact ⟨⟨by omega, by omega⟩, hQ⟩
        · rw [if_neg z]
          exact no (by omega) (by omega)
  rw [yX11_kept_0 hm]
  by_cases e0 : e = 0
  · rw [if_pos e0]
    exact e9 (Or.inl e0)
  · rw [if_neg e0, yX11_kept_4 hm]
    by_cases e1 : e = 1
    · rw [if_neg (fun z => z e1)]
      exact e9 (Or.inr e1)
    · rw [if_pos e1]
      exact no (by omega) (by omega)
theorem m_letter {line k w : Int} (hm : mOK h) (hR : RepR I A c l) (hG : Good B c l) (hQ : Q (some (.inl (letterA l line k w))) (zM h I A)) {l4 : Option zV} : zE 165 0 [some (.inr 29), some (.inl line), some (.inl k), some (.inl w), l4] [] (zM h I A) Q := by
  unfold letterA at hQ
  rw [yX11_letter_0 hm]
  refine m_isLetterOf hm hR ?_
  intro b hb hb2
  simp only [Option.toList_some, List.cons_append, List.nil_append]
  rw [yX11_letter_6 hm]
  by_cases z : (line = 0 ∨ line = 1) ∧ 0 ≤ k ∧ k < ((l line.toNat).length : Nat)
  · have b1 := hb2.2 z
    rw [if_pos z] at hQ
    obtain ⟨p1, p2, p3⟩ := z
    obtain ⟨j, hj⟩ : ∃ n : Nat, line = n := ⟨line.toNat, by omega⟩
    obtain ⟨k', hk'⟩ : ∃ n : Nat, k = n := ⟨k.toNat, by omega⟩
    subst hj hk'
    rw [Int.toNat_natCast] at p3
    rw [Int.toNat_natCast, Int.toNat_natCast] at hQ
    have hj2 : j < 2 := by omega
    have h40 := hG.2.2.2.2.2.1 j hj2
    obtain ⟨m1, m2, m3⟩ := (hR.2.2.2.2.2.2 j hj2).2 k' (by omega)
    rw [if_pos (by omega), yX11_letter_11 hm, ix40 (by omega) (by omega), Int.toNat_natCast, m1]
    refine ⟨⟨by omega, by omega⟩, ?_⟩
    by_cases w0 : w = 0
    · rw [if_neg (by omega), if_pos w0] at hQ
      rw [if_neg (fun y => y w0), yX11_letter_28 hm]
      exact hQ
    · rw [if_pos w0, yX11_letter_31 hm]
      by_cases w1 : w < 1
      · rw [if_pos (by omega)] at hQ
        rw [if_pos w1, yX11_letter_64 hm, yX11_letter_65 hm]
        exact hQ
      · rw [if_neg (by omega), if_neg w0] at hQ
        rw [if_neg w1, yX11_letter_36 hm]
        by_cases w2 : (((l j).getD k' []).length : Nat) < w
        · have e : ((l j).getD k' []).getD (w - 1).toNat (-1) = -1 := by
            rw [List.getD_eq_getElem?_getD, List.getElem?_eq_none (by omega)]
            rfl
          rw [e] at hQ
          rw [if_pos w2, yX11_letter_64 hm, yX11_letter_65 hm]
          exact hQ
        · obtain ⟨x, hx⟩ : ∃ n : Nat, w = n + 1 := ⟨(w - 1).toNat, by omega⟩
          have e3 : A 39 (1100 * (40 * j + k') + x) = ((l j).getD k' []).getD x (-1) := m3 x _ (get_some (by omega))
          have w9 : zw (zw (zw (1100 * ((40 * j + k' : Nat) : Int)) + w) - 1) = ((1100 * (40 * j + k') + x : Nat) : Int) := by
            rw [zw_eq (x := 1100 * ((40 * j + k' : Nat) : Int)) (by omega) (by omega), zw_eq (x := 1100 * ((40 * j + k' : Nat) : Int) + w) (by omega) (by omega), zw_eq (by omega) (by omega)]
            omega
          rw [show (w - 1).toNat = x by omega] at hQ
          rw [if_neg w2, yX11_letter_42 hm, ix40 (by omega) (by omega), w9, Int.toNat_natCast, e3, yX11_letter_65 hm]
          exact ⟨⟨by omega, by omega⟩, hQ⟩
  · have b1 : b ≠ 1 := fun y => z (hb2.1 y)
    rw [if_neg z] at hQ
    rw [if_neg (by omega), yX11_letter_9 hm]
    exact hQ
theorem m_guessQ {i w : Int} (hm : mOK h) (hR : RepR I A c l) (hG : Good B c l) (hQ : Q (some (.inl (guessA c i w))) (zM h I A)) : zE 164 0 [some (.inr 29), some (.inl i), some (.inl w)] [] (zM h I A) Q := by
  have gv := hG.1
  have hV : 0 ≤ c.1 21 ∧ c.1 21 ≤ 60 := by unfold gV at gv; omega
  have i21 : I 677 = c.1 21 := hR.1.1 21 (by omega)
  have i22 : I 678 = c.1 22 := hR.1.1 22 (by omega)
  unfold guessA at hQ
  rw [yX11_guess__0 hm]
  by_cases z : 0 ≤ i ∧ i < c.1 21
  · rw [if_pos z] at hQ
    obtain ⟨k, hk⟩ : ∃ n : Nat, i = n := ⟨i.toNat, by omega⟩
    subst hk
    rw [Int.toNat_natCast] at hQ
    have rg := hR.2.2.2.2.2.1 k (by omega)
    have g0 : A 42 k = c.2.2.2.2 k 0 := rg 0 (by omega)
    have g1 : A 43 k = c.2.2.2.2 k 1 := rg 1 (by omega)
    have g2 : A 44 k = c.2.2.2.2 k 2 := rg 2 (by omega)
    have g3 : A 45 k = c.2.2.2.2 k 3 := rg 3 (by omega)
    have g4 : A 46 k = c.2.2.2.2 k 4 := rg 4 (by omega)
    have g5 : A 47 k = c.2.2.2.2 k 5 := rg 5 (by omega)
    have go := hG.2.2.2.2.1 k (by omega)
    unfold gOK at go
    have bd : (0 : Int) ≤ (k : Int) ∧ (k : Int) < 60 := by omega
    unfold gRep at hQ
    rw [if_neg (by omega), yX11_guess__4 hm, i21, if_pos (by omega), yX11_guess__15 hm]
    by_cases wz : w < 0 ∨ 7 < w
    · rw [if_neg (by omega), if_neg (by omega), if_neg (by omega), if_neg (by omega), if_neg (by omega), if_neg (by omega), if_neg (by omega), if_neg (by omega)] at hQ
      rw [if_pos wz, yX11_guess__166 hm]
      exact hQ
    · rw [if_neg wz]
      have : w = 0 ∨ w = 1 ∨ w = 2 ∨ w = 3 ∨ w = 4 ∨ w = 5 ∨ w = 6 ∨ w = 7 := by omega
      rcases this with rfl | rfl | rfl | rfl | rfl | rfl | rfl | rfl
      · show zE 164 64 _ _ _ _
        rw [yX11_guess__64 hm, Int.toNat_natCast, g0]; exact ⟨bd, hQ⟩
      · show zE 164 71 _ _ _ _
        rw [yX11_guess__71 hm, Int.toNat_natCast, g1]; exact ⟨bd, hQ⟩
      · show zE 164 78 _ _ _ _
        have hQ' : Q (some (.inl (if c.2.2.2.2 k 2 < 0 then -1 else c.2.2.2.2 k 2 / 24))) (zM h I A) := hQ
        rw [yX11_guess__78 hm, Int.toNat_natCast, g2]
        refine ⟨bd, ?_⟩
        by_cases y : c.2.2.2.2 k 2 = -1
        · rw [if_pos (by omega)] at hQ'
          rw [if_neg (fun u => u y), yX11_guess__88 hm, yX11_guess__101 hm]
          exact hQ'
        · rw [if_neg (by omega)] at hQ'
          rw [if_pos y, yX11_guess__92 hm, Int.toNat_natCast, g2, tdiv_pos (by omega), zw_eq (by omega) (by omega), yX11_guess__101 hm]
          exact ⟨bd, hQ'⟩
      · show zE 164 102 _ _ _ _
        have hQ' : Q (some (.inl (if c.2.2.2.2 k 2 < 0 then -1 else c.2.2.2.2 k 2 % 24))) (zM h I A) := hQ
        rw [yX11_guess__102 hm, Int.toNat_natCast, g2]
        refine ⟨bd, ?_⟩
        by_cases y : c.2.2.2.2 k 2 = -1
        · rw [if_pos (by omega)] at hQ'
          rw [if_neg (fun u => u y), yX11_guess__112 hm, yX11_guess__125 hm]
          exact hQ'
        · rw [if_neg (by omega)] at hQ'
          rw [if_pos y, yX11_guess__116 hm, Int.toNat_natCast, g2, tmod_pos (by omega), zw_eq (by omega) (by omega), yX11_guess__125 hm]
          exact ⟨bd, hQ'⟩
      · show zE 164 126 _ _ _ _
        rw [yX11_guess__126 hm, Int.toNat_natCast, g3]; exact ⟨bd, hQ⟩
      · show zE 164 133 _ _ _ _
        have hQ' : Q (some (.inl (if c.2.2.2.2 k 1 ≤ c.1 22 then 1 else 0))) (zM h I A) := hQ
        rw [yX11_guess__133 hm, Int.toNat_natCast, g1, i22]
        refine ⟨bd, ?_⟩
        by_cases y : c.2.2.2.2 k 1 ≤ c.1 22
        · rw [if_pos y] at hQ'
          rw [if_neg (by omega), yX11_guess__146 hm, yX11_guess__151 hm]
          exact hQ'
        · rw [if_neg y] at hQ'
          rw [if_pos (by omega), yX11_guess__150 hm, yX11_guess__151 hm]
          exact hQ'
      · show zE 164 152 _ _ _ _
        rw [yX11_guess__152 hm, Int.toNat_natCast, g4]; exact ⟨bd, hQ⟩
      · show zE 164 159 _ _ _ _
        rw [yX11_guess__159 hm, Int.toNat_natCast, g5]; exact ⟨bd, hQ⟩
  · rw [if_neg z] at hQ
    by_cases y : i < 0
    · rw [if_pos y, yX11_guess__12 hm]
      exact hQ
    · rw [if_neg y, yX11_guess__4 hm, i21, if_neg (by omega), yX11_guess__12 hm]
      exact hQ
theorem m_count {w : Int} (hm : mOK h) (hR : RepR I A c l) (hQ : Q (some (.inl (countA c l w))) (zM h I A)) : zE 166 0 [some (.inr 29), some (.inl w)] [] (zM h I A) Q := by
  have i0 : I 651 = c.1 0 := hR.1.1 0 (by omega)
  have i21 : I 677 = c.1 21 := hR.1.1 21 (by omega)
  have i22 : I 678 = c.1 22 := hR.1.1 22 (by omega)
  have i23 : I 679 = c.1 23 := hR.1.1 23 (by omega)
  have l0 := (hR.2.2.2.2.2.2 0 (by omega)).1
  have l1 := (hR.2.2.2.2.2.2 1 (by omega)).1
  unfold countA at hQ
  rw [yX11_count_0 hm]
  by_cases z : w < 10 ∨ 15 < w
  · rw [if_pos z, yX11_count_74 hm]
    by_cases y : 0 ≤ w ∧ w < 10
    · rw [if_pos y] at hQ
      have e := hR.1.2.2 w.toNat (by omega)
      rw [if_neg (by omega), yX11_count_78 hm, if_neg (by omega), yX11_count_84 hm, e, yX11_count_94 hm]
      exact ⟨y, hQ⟩
    · rw [if_neg y, if_neg (by omega), if_neg (by omega), if_neg (by omega), if_neg (by omega), if_neg (by omega), if_neg (by omega)] at hQ
      by_cases x : w < 0
      · rw [if_pos x, yX11_count_93 hm, yX11_count_94 hm]
        exact hQ
      · rw [if_neg x, yX11_count_78 hm, if_pos (by omega), yX11_count_93 hm, yX11_count_94 hm]
        exact hQ
  · rw [if_neg z]
    rw [if_neg (by omega)] at hQ
    have : w = 10 ∨ w = 11 ∨ w = 12 ∨ w = 13 ∨ w = 14 ∨ w = 15 := by omega
    rcases this with rfl | rfl | rfl | rfl | rfl | rfl
    · show zE 166 40 _ _ _ _
      rw [yX11_count_40 hm, i0]; exact hQ
    · show zE 166 45 _ _ _ _
      rw [yX11_count_45 hm, i21]; exact hQ
    · show zE 166 50 _ _ _ _
      rw [yX11_count_50 hm, i22]; exact hQ
    · show zE 166 55 _ _ _ _
      rw [yX11_count_55 hm, i23]; exact hQ
    · show zE 166 60 _ _ _ _
      rw [yX11_count_60 hm, l0]; exact hQ
    · show zE 166 67 _ _ _ _
      rw [yX11_count_67 hm, l1]; exact hQ
theorem m_state {e w : Int} (hm : mOK h) (hR : RepR I A c l) (hG : Good B c l) (hQ : Q (some (.inl (stateA c e w))) (zM h I A)) {l3 : Option zV} : zE 162 0 [some (.inr 29), some (.inl e), some (.inl w), l3] [] (zM h I A) Q := by
  have gv := hG.1
  have hV : (1 ≤ c.1 20 ∧ c.1 20 ≤ 32) ∧ (1 ≤ c.1 12 ∧ c.1 12 ≤ 32) := by unfold gV at gv; omega
  obtain ⟨n, hn⟩ : ∃ n : Nat, c.1 20 = n := ⟨(c.1 20).toNat, by omega⟩
  obtain ⟨m, hm2⟩ : ∃ n : Nat, c.1 12 = n := ⟨(c.1 12).toNat, by omega⟩
  have i4 : I 648 = c.1 4 := hR.1.1 4 (by omega)
  have i6 : I 652 = c.1 6 := hR.1.1 6 (by omega)
  have i7 : I 653 = c.1 7 := hR.1.1 7 (by omega)
  have i9 : I 655 = c.1 9 := hR.1.1 9 (by omega)
  have i10 : I 657 = c.1 10 := hR.1.1 10 (by omega)
  have i11 : I 658 = c.1 11 := hR.1.1 11 (by omega)
  have i12 : I 654 = c.1 12 := hR.1.1 12 (by omega)
  have i13 : I 661 = c.1 13 := hR.1.1 13 (by omega)
  have i14 : I 662 = c.1 14 := hR.1.1 14 (by omega)
  have i16 : I 664 = c.1 16 := hR.1.1 16 (by omega)
  have i17 : I 666 = c.1 17 := hR.1.1 17 (by omega)
  have i18 : I 667 = c.1 18 := hR.1.1 18 (by omega)
  have i19 : I 668 = c.1 19 := hR.1.1 19 (by omega)
  have i20 : I 663 = c.1 20 := hR.1.1 20 (by omega)
  obtain ⟨t20, -⟩ := hR.new34 hn (by omega)
  have t12 : A 34 m = (newF c).2.1 := by
    have t := hR.2.2.1 (m - 1) (by omega)
    have eN : newF c = c.2.2.1 1 (m - 1) := by
      unfold newF
      rw [hm2, show ((m : Int) - 1).toNat = m - 1 by omega]
    rw [← eN, show 1 + (m - 1) = m by omega] at t
    exact t.2.1
  unfold stateA at hQ
  rw [yX11_state_0 hm]
  by_cases e0 : e = 0
  · rw [if_pos e0] at hQ ⊢
    unfold fRep at hQ
    rw [yX11_state_11 hm, if_neg (fun z => z e0), yX11_state_15 hm, yX11_state_20 hm]
    by_cases wz : w < 0 ∨ 7 < w
    · rw [if_neg (by omega), if_neg (by omega), if_neg (by omega), if_neg (by omega), if_neg (by omega), if_neg (by omega), if_neg (by omega), if_neg (by omega)] at hQ
      rw [if_pos wz, yX11_state_217 hm]
      exact hQ
    · rw [if_neg wz]
      have : w = 0 ∨ w = 1 ∨ w = 2 ∨ w = 3 ∨ w = 4 ∨ w = 5 ∨ w = 6 ∨ w = 7 := by omega
      rcases this with rfl | rfl | rfl | rfl | rfl | rfl | rfl | rfl
      · show zE 162 68 _ _ _ _
        rw [yX11_state_68 hm, if_neg (by decide), yX11_state_72 hm, i13, yX11_state_83 hm]; exact hQ
      · show zE 162 84 _ _ _ _
        rw [yX11_state_84 hm, if_neg (by decide), yX11_state_88 hm, i14, yX11_state_99 hm]; exact hQ
      · show zE 162 100 _ _ _ _
        rw [yX11_state_100 hm, if_neg (by decide), yX11_state_108 hm]
        refine m_nearNewest hm (i20.trans hn) (by omega) (by omega) ?_
        show zE 162 112 _ [.inl ((34 + (n - 1) : Nat) : Int), .inr 34] _ Q
        rw [yX11_state_112 hm, yX11_state_119 hm, Int.toNat_natCast, t20]
        exact ⟨⟨by omega, by omega⟩, hQ⟩
      · show zE 162 121 _ _ _ _
        rw [yX11_state_121 hm, if_neg (by decide), yX11_state_125 hm, i20, yX11_state_136 hm]; exact hQ
      · show zE 162 137 _ _ _ _
        rw [yX11_state_137 hm, if_neg (by decide), yX11_state_141 hm, i16, yX11_state_152 hm]; exact hQ
      · show zE 162 153 _ _ _ _
        have hQ' : Q (some (.inl (if c.1 17 = 0 then 0 else 1))) (zM h I A) := hQ
        rw [yX11_state_153 hm, if_neg (by decide), yX11_state_157 hm, i17]
        by_cases y : c.1 17 = 0
        · rw [if_pos y] at hQ' ⊢
          rw [yX11_state_168 hm, yX11_state_184 hm]; exact hQ'
        · rw [if_neg y] at hQ' ⊢
          rw [yX11_state_164 hm, yX11_state_184 hm]; exact hQ'
      · show zE 162 185 _ _ _ _
        rw [yX11_state_185 hm, if_neg (by decide), yX11_state_189 hm, i18, yX11_state_200 hm]; exact hQ
      · show zE 162 201 _ _ _ _
        rw [yX11_state_201 hm, if_neg (by decide), yX11_state_205 hm, i19, yX11_state_216 hm]; exact hQ
  · rw [if_neg e0] at hQ ⊢
    rw [yX11_state_4 hm]
    by_cases e1 : e = 1
    · rw [if_pos e1] at hQ ⊢
      unfold fRep at hQ
      rw [yX11_state_11 hm, if_pos e0, yX11_state_19 hm, yX11_state_20 hm]
      by_cases wz : w < 0 ∨ 7 < w
      · rw [if_neg (by omega), if_neg (by omega), if_neg (by omega), if_neg (by omega), if_neg (by omega), if_neg (by omega), if_neg (by omega), if_neg (by omega)] at hQ
        rw [if_pos wz, yX11_state_217 hm]
        exact hQ
      · rw [if_neg wz]
        have : w = 0 ∨ w = 1 ∨ w = 2 ∨ w = 3 ∨ w = 4 ∨ w = 5 ∨ w = 6 ∨ w = 7 := by omega
        rcases this with rfl | rfl | rfl | rfl | rfl | rfl | rfl | rfl
        · show zE 162 68 _ _ _ _
          rw [yX11_state_68 hm, if_pos rfl, yX11_state_79 hm, i6, yX11_state_83 hm]; exact hQ
        · show zE 162 84 _ _ _ _
          rw [yX11_state_84 hm, if_pos rfl, yX11_state_95 hm, i7, yX11_state_99 hm]; exact hQ
        · show zE 162 100 _ _ _ _
          have w9 : zw (zw (1 + (m : Int)) - 1) = (m : Int) := by
            rw [zw_eq (x := 1 + (m : Int)) (by omega) (by omega), zw_eq (by omega) (by omega)]
            omega
          rw [yX11_state_100 hm, if_pos rfl, yX11_state_115 hm, yX11_farNewest_0 hm, i12, hm2, w9]
          show zE 162 119 _ [.inl (m : Int), .inr 34] _ Q
          rw [yX11_state_119 hm, Int.toNat_natCast, t12]
          exact ⟨⟨by omega, by omega⟩, hQ⟩
        · show zE 162 121 _ _ _ _
          rw [yX11_state_121 hm, if_pos rfl, yX11_state_132 hm, i12, yX11_state_136 hm]; exact hQ
        · show zE 162 137 _ _ _ _
          rw [yX11_state_137 hm, if_pos rfl, yX11_state_148 hm, i9, yX11_state_152 hm]; exact hQ
        · show zE 162 153 _ _ _ _
          have hQ' : Q (some (.inl (if c.1 10 = 0 then 0 else 1))) (zM h I A) := hQ
          rw [yX11_state_153 hm, if_pos rfl, yX11_state_172 hm, i10]
          by_cases y : c.1 10 = 0
          · rw [if_pos y] at hQ' ⊢
            rw [yX11_state_183 hm, yX11_state_184 hm]; exact hQ'
          · rw [if_neg y] at hQ' ⊢
            rw [yX11_state_179 hm, yX11_state_184 hm]; exact hQ'
        · show zE 162 185 _ _ _ _
          rw [yX11_state_185 hm, if_pos rfl, yX11_state_196 hm, i11, yX11_state_200 hm]; exact hQ
        · show zE 162 201 _ _ _ _
          rw [yX11_state_201 hm, if_pos rfl, yX11_state_212 hm, i4, yX11_state_216 hm]; exact hQ
    · rw [if_neg e1] at hQ ⊢
      rw [yX11_state_9 hm]
      exact hQ
end mAsk
