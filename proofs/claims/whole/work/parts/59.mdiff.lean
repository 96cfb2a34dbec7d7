/-! THE MODEL'S DIFFERENCE: what changed in a row -/
theorem dF_snoc (X Y : Nat → Int) (b : Nat) : ∀ d i, dF X Y b (d + 1) i = if dF X Y b d i ≠ -1 then dF X Y b d i else if Y (b + (i + d)) = X (b + (i + d)) then -1 else ((i + d : Nat) : Int)
  | 0, i => by
    have e1 : dF X Y b 0 i = -1 := rfl
    have e2 : dF X Y b (0 + 1) i = if Y (b + i) = X (b + i) then -1 else (i : Int) := rfl
    rw [e1, e2, if_neg (show ¬ ((-1 : Int) ≠ -1) from fun q => q rfl)]
    rfl
  | d + 1, i => by
    have e1 : dF X Y b (d + 1 + 1) i = if Y (b + i) = X (b + i) then dF X Y b (d + 1) (i + 1) else i := rfl
    have e2 : dF X Y b (d + 1) i = if Y (b + i) = X (b + i) then dF X Y b d (i + 1) else i := rfl
    rw [e1, e2]
    by_cases q : Y (b + i) = X (b + i)
    · rw [if_pos q, if_pos q, dF_snoc X Y b d (i + 1), show i + 1 + d = i + (d + 1) by omega]
    · rw [if_neg q, if_neg q, if_pos (by omega)]
def fl3 (I : Nat → Int) (f l n : Int) : Nat → Int := fup (fup (fup I 675 f) 676 l) 674 n
section mDiff
variable {h : zH} {I : Nat → Int} {A : Nat → Nat → Int} {X Y : sC} {Q : Option zV → zH → Prop} {f l n v : Int}
theorem fl3_4 : fl3 I f l n 674 = n := fup_s
theorem fl3_5 : fl3 I f l n 675 = f := (fup_n (by decide)).trans ((fup_n (by decide)).trans fup_s)
theorem fl3_6 : fl3 I f l n 676 = l := (fup_n (by decide)).trans fup_s
theorem fup_comm {g : Nat → Int} {i j : Nat} {v w : Int} (hij : i ≠ j) : fup (fup g i v) j w = fup (fup g j w) i v := by
  funext k
  unfold fup
  by_cases h1 : k = j
  · have h2 : k ≠ i := fun e => hij (e.symm.trans h1)
    rw [if_pos h1, if_neg h2, if_pos h1]
  · rw [if_neg h1, if_neg h1]
theorem fl3_s5 : fup (fl3 I f l n) 675 v = fl3 I v l n := by
  unfold fl3
  rw [fup_comm (by decide), fup_comm (i := 676) (by decide), fup_two]
theorem fl3_s6 : fup (fl3 I f l n) 676 v = fl3 I f v n := by
  unfold fl3
  rw [fup_comm (by decide), fup_two]
theorem fl3_s4 : fup (fl3 I f l n) 674 v = fl3 I f l v := by
  unfold fl3
  rw [fup_two]
theorem fl3_id : fl3 I (I 675) (I 676) (I 674) = I := by
  unfold fl3
  rw [fup_id rfl, fup_id rfl, fup_id rfl]
theorem ix3 {s row c : Nat} (hs : s ≤ 1000) (hr : row ≤ 100) (hc : c ≤ 1000) : zw (zw (zw (192 * (s : Int)) + zw (24 * (row : Int))) + (c : Int)) = ((192 * s + (24 * row + c) : Nat) : Int) := by
  rw [zw_eq (x := 192 * (s : Int)) (by omega) (by omega), zw_eq (x := 24 * (row : Int)) (by omega) (by omega), zw_eq (x := 192 * (s : Int) + 24 * (row : Int)) (by omega) (by omega), zw_eq (by omega) (by omega)]
  omega
theorem m_differs_l {a b row : Nat} (hm : mOK h) (ha : a < 69) (hb : b < 69) (hr : row < 8) (hX : mS A a X) (hY : mS A b Y) {l0 : Int}
    (hQ : Q (some (.inl (if dF X.1 Y.1 (24 * row) 24 0 = -1 then 0 else 1))) (zM h (fl3 I (dF X.1 Y.1 (24 * row) 24 0) (if dF X.1 Y.1 (24 * row) 24 0 = -1 then l0 else dL X.1 Y.1 (24 * row) 24) n) A)) :
    ∀ (d i : Nat) (l5 l6 : Option zV), i + d = 24 → zE 137 8 [some (.inr 29), some (.inl (a : Int)), some (.inl (b : Int)), some (.inl (row : Int)), some (.inl (i : Int)), l5, l6] [] (zM h (fl3 I (dF X.1 Y.1 (24 * row) i 0) (if dF X.1 Y.1 (24 * row) i 0 = -1 then l0 else dL X.1 Y.1 (24 * row) i) n) A) Q := by
  intro d
  induction d with
  | zero =>
    intro i l5 l6 hi
    have e : i = 24 := by omega
    subst e
    rw [yX11_differs_8 hm, if_pos (by omega), yX11_differs_108 hm, fl3_5]
    by_cases q : dF X.1 Y.1 (24 * row) 24 0 = -1
    · rw [if_pos q] at hQ
      rw [if_pos q, yX11_differs_120 hm, yX11_differs_121 hm]
      exact ⟨Or.inl rfl, hQ⟩
    · rw [if_neg q] at hQ
      rw [if_neg q, yX11_differs_116 hm, yX11_differs_121 hm]
      exact ⟨Or.inr rfl, hQ⟩
  | succ d ih =>
    intro i l5 l6 hi
    have hx := hX.1 (24 * row + i) (by omega)
    have hy := hY.1 (24 * row + i) (by omega)
    have iv := fun l5 l6 => ih (i + 1) l5 l6 (by omega)
    have eL : dL X.1 Y.1 (24 * row) (i + 1) = if Y.1 (24 * row + i) = X.1 (24 * row + i) then dL X.1 Y.1 (24 * row) i else (i : Int) := rfl
    rw [dF_snoc, eL, show 0 + i = i by omega] at iv
    rw [yX11_differs_8 hm, if_neg (by omega), yX11_differs_15 hm, ix3 (by omega) (by omega) (by omega), ix3 (by omega) (by omega) (by omega), Int.toNat_natCast, Int.toNat_natCast, hx.1, hy.1]
    refine ⟨⟨by omega, by omega⟩, ⟨by omega, by omega⟩, ?_⟩
    have e102 : ∀ l5 l6 (W : zH), zE 137 8 [some (.inr 29), some (.inl (a : Int)), some (.inl (b : Int)), some (.inl (row : Int)), some (.inl ((i + 1 : Nat) : Int)), l5, l6] [] W Q → zE 137 102 [some (.inr 29), some (.inl (a : Int)), some (.inl (b : Int)), some (.inl (row : Int)), some (.inl (i : Int)), l5, l6] [] W Q := by
      intro l5 l6 W hW
      rw [xX11_differs_102, zw_eq (by omega) (by omega)]
      exact hW
    by_cases e : Y.1 (24 * row + i) = X.1 (24 * row + i)
    · rw [if_neg (fun q => q (by rw [e])), yX11_differs_62 hm, Int.toNat_natCast, Int.toNat_natCast, hx.2, hy.2, if_neg (fun q => q (by rw [e])), yX11_differs_79 hm]
      refine ⟨⟨by omega, by omega⟩, ⟨by omega, by omega⟩, e102 _ _ _ ?_⟩
      have i1 := iv (some (.inl ((192 * a + (24 * row + i) : Nat) : Int))) (some (.inl ((192 * b + (24 * row + i) : Nat) : Int)))
      rw [if_pos e, if_pos e] at i1
      by_cases q : dF X.1 Y.1 (24 * row) i 0 = -1
      · rw [if_neg (fun z => z q), if_pos rfl] at i1
        rw [if_pos q, q]
        exact i1
      · rw [if_pos q] at i1
        exact i1
    · have e82 : zE 137 82 [some (.inr 29), some (.inl (a : Int)), some (.inl (b : Int)), some (.inl (row : Int)), some (.inl (i : Int)), some (.inl ((192 * a + (24 * row + i) : Nat) : Int)), some (.inl ((192 * b + (24 * row + i) : Nat) : Int))] [] (zM h (fl3 I (dF X.1 Y.1 (24 * row) i 0) (if dF X.1 Y.1 (24 * row) i 0 = -1 then l0 else dL X.1 Y.1 (24 * row) i) n) A) Q := by
        have i1 := iv (some (.inl ((192 * a + (24 * row + i) : Nat) : Int))) (some (.inl ((192 * b + (24 * row + i) : Nat) : Int)))
        rw [if_neg e, if_neg e] at i1
        rw [yX11_differs_82 hm, fl3_5]
        by_cases q : dF X.1 Y.1 (24 * row) i 0 = -1
        · rw [if_neg (fun z => z q), if_neg (by omega)] at i1
          rw [if_neg (fun z => z q), yX11_differs_90 hm, fl3_s5, yX11_differs_96 hm, fl3_s6]
          exact e102 _ _ _ i1
        · rw [if_pos q, if_neg q] at i1
          rw [if_pos q, yX11_differs_96 hm, fl3_s6]
          exact e102 _ _ _ i1
      by_cases q : X.1 (24 * row + i) % 128 = Y.1 (24 * row + i) % 128
      · rw [if_neg (fun z => z q), yX11_differs_62 hm, Int.toNat_natCast, Int.toNat_natCast, hx.2, hy.2, if_pos (by omega)]
        exact ⟨⟨by omega, by omega⟩, ⟨by omega, by omega⟩, e82⟩
      · rw [if_pos q]
        exact e82
theorem m_differs {a b row : Nat} (hm : mOK h) (ha : a < 69) (hb : b < 69) (hr : row < 8) (hX : mS A a X) (hY : mS A b Y)
    (hQ : Q (some (.inl (if dF X.1 Y.1 (24 * row) 24 0 = -1 then 0 else 1))) (zM h (fl3 I (dF X.1 Y.1 (24 * row) 24 0) (if dF X.1 Y.1 (24 * row) 24 0 = -1 then l else dL X.1 Y.1 (24 * row) 24) n) A)) {l4 l5 l6 : Option zV} :
    zE 137 0 [some (.inr 29), some (.inl (a : Int)), some (.inl (b : Int)), some (.inl (row : Int)), l4, l5, l6] [] (zM h (fl3 I f l n) A) Q := by
  rw [yX11_differs_0 hm, fl3_s5, yX11_differs_5 hm]
  exact m_differs_l (l0 := l) hm ha hb hr hX hY hQ 24 0 l5 l6 (by omega)
theorem m_areLike_l {b row f l : Nat} (hm : mOK h) (hb : b < 69) (hr : row < 8) (hY : mS A b Y) (hf : f ≤ l) (hl : l < 24) {l1 l2 : Option zV} :
    ∀ (d c : Nat) (is : Int), c + d = l + 1 → f ≤ c → (is = 0 ∨ is = 1) → Q (some (.inl (if is = 1 ∧ dU Y.1 (24 * row) (Y.1 (24 * row + f)) d c = true then 1 else 0))) (zM h (fl3 I f l n) A) →
    zE 138 20 [some (.inr 29), l1, l2, some (.inl ((192 * b + 24 * row : Nat) : Int)), some (.inl is), some (.inl (c : Int))] [] (zM h (fl3 I f l n) A) Q := by
  intro d
  induction d with
  | zero =>
    intro c is hc hfc his hQ
    rw [yX11_areLike_20 hm, fl3_6, if_pos (by omega), yX11_areLike_93 hm]
    refine ⟨his, ?_⟩
    rcases his with rfl | rfl
    · rw [if_neg (fun q => absurd q.1 (by decide))] at hQ
      exact hQ
    · rw [if_pos ⟨rfl, rfl⟩] at hQ
      exact hQ
  | succ d ih =>
    intro c is hc hfc his hQ
    have hx := hY.1 (24 * row + c) (by omega)
    have hy := hY.1 (24 * row + f) (by omega)
    have eU : dU Y.1 (24 * row) (Y.1 (24 * row + f)) (d + 1) c = if Y.1 (24 * row + c) = Y.1 (24 * row + f) then dU Y.1 (24 * row) (Y.1 (24 * row + f)) d (c + 1) else false := rfl
    have i1 : zw (((192 * b + 24 * row : Nat) : Int) + (c : Int)) = ((192 * b + (24 * row + c) : Nat) : Int) := by
      rw [zw_eq (by omega) (by omega)]; omega
    have i2 : zw (((192 * b + 24 * row : Nat) : Int) + (f : Int)) = ((192 * b + (24 * row + f) : Nat) : Int) := by
      rw [zw_eq (by omega) (by omega)]; omega
    have e85 : ∀ s0 : Int, (s0 = 0 ∨ s0 = 1) → Q (some (.inl (if s0 = 1 ∧ dU Y.1 (24 * row) (Y.1 (24 * row + f)) d (c + 1) = true then 1 else 0))) (zM h (fl3 I f l n) A) → zE 138 85 [some (.inr 29), l1, l2, some (.inl ((192 * b + 24 * row : Nat) : Int)), some (.inl is), some (.inl (c : Int))] [.inl s0] (zM h (fl3 I f l n) A) Q := by
      intro s0 hs0 q
      rw [yX11_areLike_85 hm, zw_eq (by omega) (by omega)]
      exact ih (c + 1) s0 (by omega) (by omega) hs0 q
    rw [yX11_areLike_20 hm, fl3_6, if_neg (by omega), yX11_areLike_29 hm]
    rcases his with rfl | rfl
    · rw [if_neg (fun q => absurd q.1 (by decide))] at hQ
      rw [if_pos rfl, yX11_areLike_84 hm]
      refine e85 0 (Or.inl rfl) ?_
      rw [if_neg (fun q => absurd q.1 (by decide))]
      exact hQ
    · rw [if_neg (by decide), yX11_areLike_34 hm, fl3_5, i1, i2, Int.toNat_natCast, Int.toNat_natCast, hx.1, hy.1]
      refine ⟨⟨by omega, by omega⟩, ⟨by omega, by omega⟩, ?_⟩
      rw [eU] at hQ
      by_cases e : Y.1 (24 * row + c) = Y.1 (24 * row + f)
      · rw [if_pos e] at hQ
        rw [if_neg (fun q => q (by rw [e])), yX11_areLike_57 hm, fl3_5, i1, i2, Int.toNat_natCast, Int.toNat_natCast, hx.2, hy.2, if_neg (fun q => q (by rw [e])), yX11_areLike_80 hm]
        exact ⟨⟨by omega, by omega⟩, ⟨by omega, by omega⟩, e85 1 (Or.inr rfl) hQ⟩
      · rw [if_neg e, if_neg (fun q => absurd q.2 (by decide))] at hQ
        have e84 : zE 138 84 [some (.inr 29), l1, l2, some (.inl ((192 * b + 24 * row : Nat) : Int)), some (.inl 1), some (.inl (c : Int))] [] (zM h (fl3 I f l n) A) Q := by
          rw [yX11_areLike_84 hm]
          refine e85 0 (Or.inl rfl) ?_
          rw [if_neg (fun q => absurd q.1 (by decide))]
          exact hQ
        by_cases q : Y.1 (24 * row + c) % 128 = Y.1 (24 * row + f) % 128
        · rw [if_neg (fun z => z q), yX11_areLike_57 hm, fl3_5, i1, i2, Int.toNat_natCast, Int.toNat_natCast, hx.2, hy.2, if_pos (by omega)]
          exact ⟨⟨by omega, by omega⟩, ⟨by omega, by omega⟩, e84⟩
        · rw [if_pos q]
          exact e84
theorem m_areLike {b row f l : Nat} (hm : mOK h) (hb : b < 69) (hr : row < 8) (hY : mS A b Y) (hf : f ≤ l) (hl : l < 24)
    (hQ : Q (some (.inl (if dUn Y.1 (24 * row) f l = true then 1 else 0))) (zM h (fl3 I f l n) A)) {l3 l4 l5 : Option zV} :
    zE 138 0 [some (.inr 29), some (.inl (b : Int)), some (.inl (row : Int)), l3, l4, l5] [] (zM h (fl3 I f l n) A) Q := by
  have i1 : zw (zw (192 * (b : Int)) + zw (24 * (row : Int))) = ((192 * b + 24 * row : Nat) : Int) := by
    rw [zw_eq (x := 192 * (b : Int)) (by omega) (by omega), zw_eq (x := 24 * (row : Int)) (by omega) (by omega), zw_eq (by omega) (by omega)]; omega
  rw [yX11_areLike_0 hm, i1, fl3_5]
  refine m_areLike_l hm hb hr hY hf hl (l + 1 - f) f 1 (by omega) (by omega) (Or.inr rfl) ?_
  have e : dU Y.1 (24 * row) (Y.1 (24 * row + f)) (l + 1 - f) f = dUn Y.1 (24 * row) f l := by
    rw [show l + 1 - f = (l - f) + 1 by omega]
    show (if Y.1 (24 * row + f) = Y.1 (24 * row + f) then dU Y.1 (24 * row) (Y.1 (24 * row + f)) (l - f) (f + 1) else false) = _
    rw [if_pos rfl]
    rfl
  rw [e]
  by_cases q : dUn Y.1 (24 * row) f l = true
  · rw [if_pos q] at hQ
    rw [if_pos ⟨rfl, q⟩]
    exact hQ
  · rw [if_neg q] at hQ
    rw [if_neg (fun z => q z.2)]
    exact hQ
/-- a row's share: its bytes, counted -/
theorem m_rows_n {a b row : Nat} {acc wr : Int} (hm : mOK h) (ha : a < 69) (hb : b < 69) (hr : row < 8) (hX : mS A a X) (hY : mS A b Y) (hacc : 0 ≤ acc ∧ acc ≤ 1000) {l6 l7 l8 : Option zV}
    (h0 : dF X.1 Y.1 (24 * row) 24 0 = -1 → ∀ f l, zE 139 180 [some (.inr 29), some (.inl (a : Int)), some (.inl (b : Int)), some (.inl wr), some (.inl acc), some (.inl (row : Int)), l6, l7, l8] [] (zM h (fl3 I f l n) A) Q)
    (h1 : ∀ (f l : Nat), dF X.1 Y.1 (24 * row) 24 0 = f → dL X.1 Y.1 (24 * row) 24 = l → f ≤ l → l < 24 → ∀ is to : Int, is = (if dUn Y.1 (24 * row) f l = true then 1 else 0) → to = (if dUn Y.1 (24 * row) f l = true then (f : Int) else l) → (if wr ≠ 0 then
      zE 139 79 [some (.inr 29), some (.inl (a : Int)), some (.inl (b : Int)), some (.inl wr), some (.inl (acc + dN X.1 Y.1 (24 * row))), some (.inl (row : Int)), some (.inl is), some (.inl to), l8] [] (zM h (fl3 I f l n) A) Q
      else zE 139 180 [some (.inr 29), some (.inl (a : Int)), some (.inl (b : Int)), some (.inl wr), some (.inl (acc + dN X.1 Y.1 (24 * row))), some (.inl (row : Int)), some (.inl is), some (.inl to), l8] [] (zM h (fl3 I f l n) A) Q)) :
    zE 139 13 [some (.inr 29), some (.inl (a : Int)), some (.inl (b : Int)), some (.inl wr), some (.inl acc), some (.inl (row : Int)), l6, l7, l8] [] (zM h (fl3 I f l n) A) Q := by
  rw [yX11_rowsOf_13 hm]
  refine m_differs hm ha hb hr hX hY ?_
  simp only [Option.toList_some, List.cons_append, List.nil_append]
  rw [yX11_rowsOf_21 hm]
  by_cases q : dF X.1 Y.1 (24 * row) 24 0 = -1
  · rw [if_pos q, if_pos q, if_neg (fun z => z rfl), yX11_rowsOf_24 hm]
    exact h0 q _ _
  · obtain ⟨f', l', e1, e2, e3, e4⟩ := dFL X.1 Y.1 (24 * row) q
    have eN : dN X.1 Y.1 (24 * row) = if dUn Y.1 (24 * row) f' l' then 6 else 4 + 2 * ((l' : Int) - f' + 1) := by
      unfold dN
      rw [if_neg q, e1, e2, Int.toNat_natCast, Int.toNat_natCast]
    have h1' := h1 f' l' e1 e2 e3 e4
    rw [if_neg q, if_neg q, if_pos (by decide), e1, e2, yX11_rowsOf_27 hm]
    refine m_areLike hm hb hr hY e3 e4 ?_
    simp only [Option.toList_some, List.cons_append, List.nil_append]
    rw [yX11_rowsOf_34 hm]
    by_cases u : dUn Y.1 (24 * row) f' l' = true
    · have h2 := h1' 1 f' (by rw [if_pos u]) (by rw [if_pos u])
      rw [eN, if_pos u] at h2
      rw [if_pos u, if_neg (by decide), yX11_rowsOf_41 hm, fl3_5, yX11_rowsOf_52 hm, fl3_5, zw_eq (x := (f' : Int) - f') (by omega) (by omega), zw_eq (x := (f' : Int) - f' + 1) (by omega) (by omega), zw_eq (x := 2 * ((f' : Int) - f' + 1)) (by omega) (by omega), zw_eq (x := 4 + 2 * ((f' : Int) - f' + 1)) (by omega) (by omega), zw_eq (by omega) (by omega), show acc + (4 + 2 * ((f' : Int) - f' + 1)) = acc + 6 by omega]
      by_cases w : wr ≠ 0
      · rw [if_pos w] at h2 ⊢
        exact h2
      · rw [if_neg w] at h2 ⊢
        rw [yX11_rowsOf_76 hm]
        exact h2
    · have h2 := h1' 0 l' (by rw [if_neg u]) (by rw [if_neg u])
      rw [eN, if_neg u] at h2
      rw [if_neg u, if_pos rfl, yX11_rowsOf_48 hm, fl3_6, yX11_rowsOf_52 hm, fl3_5, zw_eq (x := (l' : Int) - f') (by omega) (by omega), zw_eq (x := (l' : Int) - f' + 1) (by omega) (by omega), zw_eq (x := 2 * ((l' : Int) - f' + 1)) (by omega) (by omega), zw_eq (x := 4 + 2 * ((l' : Int) - f' + 1)) (by omega) (by omega), zw_eq (by omega) (by omega)]
      by_cases w : wr ≠ 0
      · rw [if_pos w] at h2 ⊢
        exact h2
      · rw [if_neg w] at h2 ⊢
        rw [yX11_rowsOf_76 hm]
        exact h2
theorem m_rows0_l {a b : Nat} (hm : mOK h) (ha : a < 69) (hb : b < 69) (hX : mS A a X) (hY : mS A b Y) :
    ∀ (d row : Nat) (acc : Int), row + d = 8 → 0 ≤ acc → acc ≤ 52 * row → (∀ f l, Q (some (.inl (dBy X.1 Y.1 d row acc))) (zM h (fl3 I f l n) A)) →
    ∀ (f l : Int) (l6 l7 l8 : Option zV), zE 139 6 [some (.inr 29), some (.inl (a : Int)), some (.inl (b : Int)), some (.inl 0), some (.inl acc), some (.inl (row : Int)), l6, l7, l8] [] (zM h (fl3 I f l n) A) Q := by
  intro d
  induction d with
  | zero =>
    intro row acc hr h0 h1 hQ f l l6 l7 l8
    rw [yX11_rowsOf_6 hm, if_pos (by omega), yX11_rowsOf_186 hm]
    exact hQ f l
  | succ d ih =>
    intro row acc hr h0 h1 hQ f l l6 l7 l8
    have hN := dN_r X.1 Y.1 (24 * row)
    have eB : dBy X.1 Y.1 (d + 1) row acc = dBy X.1 Y.1 d (row + 1) (acc + dN X.1 Y.1 (24 * row)) := rfl
    rw [eB] at hQ
    have key := ih (row + 1) (acc + dN X.1 Y.1 (24 * row)) (by omega) (by omega) (by omega) hQ
    rw [yX11_rowsOf_6 hm, if_neg (by omega)]
    refine m_rows_n hm ha hb (by omega) hX hY ⟨h0, by omega⟩ ?_ ?_
    · intro q f l
      have e0 : dN X.1 Y.1 (24 * row) = 0 := by
        unfold dN
        rw [if_pos q]
      rw [e0, Int.add_zero] at key
      rw [yX11_rowsOf_180 hm, zw_eq (by omega) (by omega)]
      exact key f l _ _ _
    · intro f l e1 e2 e3 e4 is to e5 e6
      rw [if_neg (fun z => z rfl), yX11_rowsOf_180 hm, zw_eq (by omega) (by omega)]
      exact key f l _ _ _
theorem m_rows0 {a b : Nat} (hm : mOK h) (ha : a < 69) (hb : b < 69) (hX : mS A a X) (hY : mS A b Y) (hQ : ∀ f l, Q (some (.inl (dBy X.1 Y.1 8 0 0))) (zM h (fl3 I f l n) A)) {l4 l5 l6 l7 l8 : Option zV} :
    zE 139 0 [some (.inr 29), some (.inl (a : Int)), some (.inl (b : Int)), some (.inl 0), l4, l5, l6, l7, l8] [] (zM h (fl3 I f l n) A) Q := by
  rw [yX11_rowsOf_0 hm]
  exact m_rows0_l hm ha hb hX hY 8 0 0 (by omega) (by omega) (by omega) hQ f l _ _ _
end mDiff
