/-! THE MODEL'S DIFFERENCE: written -/
section mDiff2
variable {h : zH} {I : Nat → Int} {A : Nat → Nat → Int} {X Y : sC} {Q : Option zV → zH → Prop} {f l n v : Int} {g : Nat → Int} {ys : List Int}
theorem mS_hW {s : Nat} (hS : mS A s X) : mS (hW A g) s X :=
  ⟨fun k hk => ⟨(hW_o (by decide)).trans (hS.1 k hk).1, (hW_o (by decide)).trans (hS.1 k hk).2⟩, (hW_o (by decide)).trans hS.2.1, (hW_o (by decide)).trans hS.2.2⟩
theorem m_adds3 {v : Int} (hm : mOK h) (hl : ys.length < 1100) (hg : isLs g ys) (hQ : ∀ g', isLs g' (ys ++ [v]) → Q none (zM h (fl3 I f l ((ys ++ [v]).length : Nat)) (hW A g'))) : zE 128 0 [some (.inr 29), some (.inl v)] [] (zM h (fl3 I f l ys.length) (hW A g)) Q :=
  m_adds (I := fup (fup I 675 f) 676 l) hm hl hg hQ
theorem m_cells_l {b row : Nat} {to : Nat} (hm : mOK h) (hb : b < 69) (hr : row < 8) (hY : mS A b Y) (hto : to < 24) {l1 l3 l4 l6 : Option zV} :
    ∀ (d c : Nat) (ys : List Int) (g : Nat → Int), c + d = to + 1 → isLs g ys → ys.length + 2 * d ≤ 1000 → (∀ g' l8, isLs g' (ys ++ dCs Y.1 (24 * row) d c) → zE 139 180 [some (.inr 29), l1, some (.inl (b : Int)), l3, l4, some (.inl (row : Int)), l6, some (.inl (to : Int)), l8] [] (zM h (fl3 I f l ((ys ++ dCs Y.1 (24 * row) d c).length : Nat)) (hW A g')) Q) →
    zE 139 121 [some (.inr 29), l1, some (.inl (b : Int)), l3, l4, some (.inl (row : Int)), l6, some (.inl (to : Int)), some (.inl (c : Int))] [] (zM h (fl3 I f l ys.length) (hW A g)) Q := by
  intro d
  induction d with
  | zero =>
    intro c ys g hc hg hl hQ
    have q := hQ g
    unfold dCs at q
    rw [List.append_nil] at q
    rw [yX11_rowsOf_121 hm, if_pos (by omega)]
    exact q _ hg
  | succ d ih =>
    intro c ys g hc hg hl hQ
    unfold dCs at hQ
    have hy := hY.1 (24 * row + c) (by omega)
    rw [yX11_rowsOf_121 hm, if_neg (by omega), yX11_rowsOf_128 hm, ix3 (by omega) (by omega) (by omega), Int.toNat_natCast, hW_o (by decide), hy.1]
    refine ⟨⟨by omega, by omega⟩, m_adds3 hm (by omega) hg ?_⟩
    intro g1 q1
    simp only [Option.toList_none, List.nil_append]
    rw [yX11_rowsOf_151 hm, ix3 (by omega) (by omega) (by omega), Int.toNat_natCast, hW_o (by decide), hy.2]
    refine ⟨⟨by omega, by omega⟩, m_adds3 hm (by rw [List.length_append, List.length_singleton]; omega) q1 ?_⟩
    intro g2 q2
    simp only [Option.toList_none, List.nil_append]
    rw [yX11_rowsOf_174 hm, zw_eq (by omega) (by omega)]
    refine ih (c + 1) _ g2 (by omega) q2 (by simp only [List.length_append, List.length_singleton]; omega) ?_
    simp only [List.append_assoc, List.cons_append, List.nil_append]
    exact hQ
theorem m_rows1_l {a b : Nat} (hm : mOK h) (ha : a < 69) (hb : b < 69) (hX : mS A a X) (hY : mS A b Y) :
    ∀ (d row : Nat) (acc : Int) (ys : List Int) (g : Nat → Int), row + d = 8 → 0 ≤ acc → acc ≤ 52 * row → isLs g ys → ys.length + 52 * d ≤ 1000 → (∀ r f l g', isLs g' (ys ++ dRows X.1 Y.1 d row) → Q (some (.inl r)) (zM h (fl3 I f l ((ys ++ dRows X.1 Y.1 d row).length : Nat)) (hW A g'))) →
    ∀ (f l : Int) (l6 l7 l8 : Option zV), zE 139 6 [some (.inr 29), some (.inl (a : Int)), some (.inl (b : Int)), some (.inl 1), some (.inl acc), some (.inl (row : Int)), l6, l7, l8] [] (zM h (fl3 I f l ys.length) (hW A g)) Q := by
  intro d
  induction d with
  | zero =>
    intro row acc ys g hr h0 h1 hg hl hQ f l l6 l7 l8
    have q := hQ acc f l g
    unfold dRows at q
    rw [List.append_nil] at q
    rw [yX11_rowsOf_6 hm, if_pos (by omega), yX11_rowsOf_186 hm]
    exact q hg
  | succ d ih =>
    intro row acc ys g hr h0 h1 hg hl hQ f l l6 l7 l8
    unfold dRows at hQ
    have hN := dN_r X.1 Y.1 (24 * row)
    rw [yX11_rowsOf_6 hm, if_neg (by omega)]
    refine m_rows_n hm ha hb (by omega) (mS_hW hX) (mS_hW hY) ⟨h0, by omega⟩ ?_ ?_
    · intro q f l
      rw [if_pos q, List.nil_append] at hQ
      rw [yX11_rowsOf_180 hm, zw_eq (by omega) (by omega)]
      exact ih (row + 1) acc ys g (by omega) h0 (by omega) hg (by omega) hQ f l _ _ _
    · intro f l e1 e2 e3 e4 is to e5 e6
      have hL := dRow_len (Y := Y.1) (row := row) e3 e4
      rw [e1, e2, Int.toNat_natCast, Int.toNat_natCast, if_neg (by omega)] at hQ
      rw [if_pos (by decide), yX11_rowsOf_79 hm]
      have eR : dRow Y.1 row f l = [(row : Int)] ++ [is] ++ [(f : Int)] ++ [(l : Int)] ++ dCs Y.1 (24 * row) (to + 1 - f).toNat f := by
        unfold dRow
        rw [e5, e6]
        by_cases u : dUn Y.1 (24 * row) f l = true
        · rw [if_pos u, if_pos u, if_pos u, show ((f : Int) + 1 - f).toNat = 1 by omega]
          simp only [List.append_assoc, List.cons_append, List.nil_append, u, if_true]
        · rw [if_neg u, if_neg u, if_neg u, show ((l : Int) + 1 - f).toNat = l - f + 1 by omega]
          simp only [List.append_assoc, List.cons_append, List.nil_append, u] <;> rfl
      have hto : (f : Int) ≤ to ∧ to < 24 := by
        rw [e6]
        split <;> omega
      obtain ⟨t, rfl⟩ : ∃ t : Nat, to = t := ⟨to.toNat, by omega⟩
      rw [eR] at hQ hL
      have hl2 : 4 + 2 * ((t : Int) + 1 - f).toNat ≤ 52 := by
        simp only [List.length_append, List.length_singleton, dCs_len] at hL
        omega
      refine m_adds3 hm (by omega) hg ?_
      intro g1 q1
      simp only [Option.toList_none, List.nil_append]
      have e96 : zE 139 96 [some (.inr 29), some (.inl (a : Int)), some (.inl (b : Int)), some (.inl 1), some (.inl (acc + dN X.1 Y.1 (24 * row))), some (.inl (row : Int)), some (.inl is), some (.inl (t : Int)), l8] [.inl is, .inr 29] (zM h (fl3 I f l ((ys ++ [(row : Int)]).length : Nat)) (hW A g1)) Q := by
        rw [yX11_rowsOf_96 hm]
        refine m_adds3 hm (by rw [List.length_append, List.length_singleton]; omega) q1 ?_
        intro g2 q2
        simp only [Option.toList_none, List.nil_append]
        rw [yX11_rowsOf_99 hm, fl3_5]
        refine m_adds3 hm (by simp only [List.length_append, List.length_singleton]; omega) q2 ?_
        intro g3 q3
        simp only [Option.toList_none, List.nil_append]
        rw [yX11_rowsOf_107 hm, fl3_6]
        refine m_adds3 hm (by simp only [List.length_append, List.length_singleton]; omega) q3 ?_
        intro g4 q4
        simp only [Option.toList_none, List.nil_append]
        rw [yX11_rowsOf_115 hm, fl3_5]
        refine m_cells_l hm hb (by omega) hY (by omega) ((t : Int) + 1 - f).toNat f _ g4 (by omega) q4 (by simp only [List.length_append, List.length_singleton]; omega) ?_
        intro g5 l8 q5
        rw [yX11_rowsOf_180 hm, zw_eq (by omega) (by omega)]
        refine ih (row + 1) (acc + dN X.1 Y.1 (24 * row)) _ g5 (by omega) (by omega) (by omega) q5 (by simp only [List.length_append, List.length_singleton, dCs_len]; omega) ?_ f l _ _ _
        simp only [List.append_assoc, List.cons_append, List.nil_append] at hQ ⊢
        exact hQ
      rw [yX11_rowsOf_85 hm]
      by_cases u : dUn Y.1 (24 * row) f l = true
      · have e5' : is = 1 := by rw [e5, if_pos u]
        rw [e5'] at e96 ⊢
        rw [if_neg (by decide), yX11_rowsOf_91 hm]
        exact e96
      · have e5' : is = 0 := by rw [e5, if_neg u]
        rw [e5'] at e96 ⊢
        rw [if_pos rfl, yX11_rowsOf_95 hm]
        exact e96
theorem m_rows1 {a b : Nat} (hm : mOK h) (ha : a < 69) (hb : b < 69) (hX : mS A a X) (hY : mS A b Y) (hg : isLs g ys) (hl : ys.length + 416 ≤ 1000) (hQ : ∀ r f l g', isLs g' (ys ++ dRows X.1 Y.1 8 0) → Q (some (.inl r)) (zM h (fl3 I f l ((ys ++ dRows X.1 Y.1 8 0).length : Nat)) (hW A g'))) {l4 l5 l6 l7 l8 : Option zV} :
    zE 139 0 [some (.inr 29), some (.inl (a : Int)), some (.inl (b : Int)), some (.inl 1), l4, l5, l6, l7, l8] [] (zM h (fl3 I f l ys.length) (hW A g)) Q := by
  rw [yX11_rowsOf_0 hm]
  exact m_rows1_l hm ha hb hX hY 8 0 0 ys g (by omega) (by omega) (by omega) hg (by omega) hQ f l _ _ _
/-- all but the screens that are worked on -/
def wk (A A' : Nat → Nat → Int) : Prop := ∀ a i, (live a i ∨ a = 41) → A' a i = A a i
theorem wk.rf : wk A A := fun _ _ _ => rfl
theorem wk.tr {A' A'' : Nat → Nat → Int} (h1 : wk A A') (h2 : wk A' A'') : wk A A'' := fun a i q => (h2 a i q).trans (h1 a i q)
theorem wk.S {A' : Nat → Nat → Int} {s : Nat} (hw : wk A A') (hs : s < 67) (hS : mS A s X) : mS A' s X := mS_fr hs (fun a i q => hw a i (Or.inl q)) hS
theorem wk_W {s : Nat} (hs : 67 ≤ s) : wk A (mW A s X) := by
  intro a i q
  unfold mW
  unfold live at q
  rw [if_neg (by omega), if_neg (by omega), if_neg (by omega), if_neg (by omega)]
theorem wk_zu {s a : Nat} (hs : 67 ≤ s) (ha : 32 ≤ a ∧ a ≤ 35) : wk A (zu A a s v) := by
  intro x i q
  unfold live at q
  refine if_neg ?_
  omega
/-- a screen copied to the one that is worked on, and scrolled -/
theorem m_work {a k : Nat} (hm : mOK h) (ha : a < 67) (hk : k ≤ 8) (hX : mS A a X)
    (hQ : ∀ A', wk A A' → mS A' 67 (scr k X.1, X.2) → Q none (zM h I A')) {l3 : Option zV} :
    zE 108 0 [some (.inr 29), some (.inl (a : Int)), some (.inl 67), none] [] (zM h I A) (fun r h' => ∃ A1, r = none ∧ h' = zM h I A1 ∧ zE 109 0 [some (.inr 29), some (.inl 67), some (.inl (k : Int)), l3] [] (zM h I A1) Q) := by
  refine m_copies (s := 67) hm (by omega) (by omega) (by omega) hX ⟨_, rfl, rfl, ?_⟩
  have hS : mS (zu (zu (mW A 67 X) 34 67 (A 34 a)) 35 67 (A 35 a)) 67 X := mS_zu (by omega) (mS_zu (by omega) mS_W)
  have hw : wk A (zu (zu (mW A 67 X) 34 67 (A 34 a)) 35 67 (A 35 a)) := ((wk_W (by omega)).tr (wk_zu (by omega) (by omega))).tr (wk_zu (by omega) (by omega))
  rw [← mW_id hS]
  refine m_scrolls (s := 67) hm (by omega) hk ?_
  exact hQ _ (hw.tr (wk_W (by omega))) mS_W
theorem dBy_acc (X Y : Nat → Int) : ∀ d row acc, dBy X Y d row acc = dBy X Y d row 0 + acc
  | 0, _, acc => by
    show acc = 0 + acc
    omega
  | d + 1, row, acc => by
    show dBy X Y d (row + 1) (acc + dN X Y (24 * row)) = dBy X Y d (row + 1) (0 + dN X Y (24 * row)) + acc
    rw [dBy_acc X Y d (row + 1) (acc + dN X Y (24 * row)), dBy_acc X Y d (row + 1) (0 + dN X Y (24 * row))]
    omega
theorem m_diff_l {a b : Nat} (hm : mOK h) (ha : a < 67) (hb : b < 67) (hX : mS A a X) (hY : mS A b Y) :
    ∀ (d k best : Nat) (few : Int), k + d = 9 → 1 ≤ few → (∀ A' f l l4 l6, wk A A' → zE 140 69 [some (.inr 29), some (.inl (a : Int)), some (.inl (b : Int)), some (.inl ((dBest X.1 Y.1 d k best few : Nat) : Int)), l4, some (.inl 9), l6] [] (zM h (fl3 I f l n) A') Q) →
    ∀ (A' : Nat → Nat → Int) (f l : Int) (l6 : Option zV), wk A A' → zE 140 8 [some (.inr 29), some (.inl (a : Int)), some (.inl (b : Int)), some (.inl (best : Int)), some (.inl (few - 1)), some (.inl (k : Int)), l6] [] (zM h (fl3 I f l n) A') Q := by
  intro d
  induction d with
  | zero =>
    intro k best few hk hf hQ A' f l l6 hw
    have e : k = 9 := by omega
    subst e
    rw [yX11_difference_8 hm, if_pos (by omega)]
    exact hQ A' f l _ _ hw
  | succ d ih =>
    intro k best few hk hf hQ A' f l l6 hw
    rw [yX11_difference_8 hm, if_neg (by omega), yX11_difference_15 hm]
    refine (m_work (k := k) (l3 := none) (Q := fun r h' => zE 140 30 [some (.inr 29), some (.inl (a : Int)), some (.inl (b : Int)), some (.inl (best : Int)), some (.inl (few - 1)), some (.inl (k : Int)), l6] (r.toList ++ []) h' Q) hm ha (by omega) (hw.S ha hX) ?_).mono ?_
    · intro A2 hw2 hS2
      simp only [Option.toList_none, List.nil_append]
      rw [yX11_difference_30 hm]
      refine m_rows0 (a := 67) hm (by omega) (by omega) hS2 ((hw.tr hw2).S hb hY) ?_
      intro f l
      have hr := dBy_r (scr k X.1) Y.1 8 0 0
      have ea := dBy_acc (scr k X.1) Y.1 8 0 1
      have eB : dBest X.1 Y.1 (d + 1) k best few = if few ≤ dBy (scr k X.1) Y.1 8 0 1 then dBest X.1 Y.1 d (k + 1) best few else dBest X.1 Y.1 d (k + 1) k (dBy (scr k X.1) Y.1 8 0 1) := rfl
      rw [eB] at hQ
      simp only [Option.toList_some, List.cons_append, List.nil_append]
      rw [yX11_difference_38 hm, if_neg (by omega), yX11_difference_46 hm]
      by_cases q : few ≤ dBy (scr k X.1) Y.1 8 0 1
      · rw [if_pos q] at hQ
        rw [if_neg (by show ¬ dBy (scr k X.1) Y.1 8 0 0 < few - 1; omega), yX11_difference_53 hm, yX11_difference_63 hm, zw_eq (by omega) (by omega)]
        exact ih (k + 1) best few (by omega) hf hQ A2 f l _ (hw.tr hw2)
      · rw [if_neg q] at hQ
        rw [if_pos (by show dBy (scr k X.1) Y.1 8 0 0 < few - 1; omega), yX11_difference_56 hm, yX11_difference_63 hm, zw_eq (by omega) (by omega)]
        have := ih (k + 1) k (dBy (scr k X.1) Y.1 8 0 1) (by omega) (by omega) hQ A2 f l (some (.inl (dBy (scr k X.1) Y.1 8 0 0))) (hw.tr hw2)
        rw [show dBy (scr k X.1) Y.1 8 0 1 - 1 = dBy (scr k X.1) Y.1 8 0 0 by omega] at this
        exact this
    · rintro r h' ⟨A1, rfl, rfl, q⟩
      simp only [Option.toList_none, List.nil_append]
      rw [yX11_difference_22 hm]
      exact q
theorem m_difference {a b : Nat} (hm : mOK h) (ha : a < 67) (hb : b < 67) (hX : mS A a X) (hY : mS A b Y) (hg : isLs (A 41) ys) (hl : ys.length + 417 ≤ 1000)
    (hQ : ∀ A' f l, wk A (hW A' (A 41)) → isLs (A' 41) (ys ++ dDiff X.1 Y.1) → Q none (zM h (fl3 I f l ((ys ++ dDiff X.1 Y.1).length : Nat)) A')) {l3 l4 l5 l6 : Option zV} :
    zE 140 0 [some (.inr 29), some (.inl (a : Int)), some (.inl (b : Int)), l3, l4, l5, l6] [] (zM h (fl3 I f l ys.length) A) Q := by
  have e69 : ∀ A' f l l4 l6, wk A A' → zE 140 69 [some (.inr 29), some (.inl (a : Int)), some (.inl (b : Int)), some (.inl ((dSh X.1 Y.1 : Nat) : Int)), l4, some (.inl 9), l6] [] (zM h (fl3 I f l ys.length) A') Q := by
    intro A' f l l4 l6 hw
    have hk8 : dSh X.1 Y.1 ≤ 8 := dBest_r X.1 Y.1 8 1 0 _ (by omega) (by omega)
    rw [yX11_difference_69 hm]
    refine (m_work (k := dSh X.1 Y.1) (l3 := none) (Q := fun r h' => zE 140 83 [some (.inr 29), some (.inl (a : Int)), some (.inl (b : Int)), some (.inl ((dSh X.1 Y.1 : Nat) : Int)), l4, some (.inl 9), l6] (r.toList ++ []) h' Q) hm ha hk8 (hw.S ha hX) ?_).mono ?_
    · intro A2 hw2 hS2
      have hw3 := hw.tr hw2
      have hg2 : isLs (A2 41) ys := fun i v q => (hw3 41 i (Or.inr rfl)).trans (hg i v q)
      have e2 : A2 = hW A2 (A2 41) := hW_id.symm
      simp only [Option.toList_none, List.nil_append]
      rw [yX11_difference_83 hm, e2]
      refine m_adds3 hm (by omega) hg2 ?_
      intro g1 q1
      simp only [Option.toList_none, List.nil_append]
      rw [yX11_difference_88 hm]
      refine m_rows1 (a := 67) hm (by omega) (by omega) hS2 (hw3.S hb hY) q1 (by rw [List.length_append, List.length_singleton]; omega) ?_
      intro r f l g2 q2
      simp only [Option.toList_some, List.cons_append, List.nil_append]
      rw [yX11_difference_96 hm]
      have eD : ys ++ [((dSh X.1 Y.1 : Nat) : Int)] ++ dRows (scr (dSh X.1 Y.1) X.1) Y.1 8 0 = ys ++ dDiff X.1 Y.1 := by
        rw [List.append_assoc]
        rfl
      rw [eD] at q2 ⊢
      refine hQ _ f l ?_ ?_
      · rw [hW_W]
        intro x i q
        by_cases e41 : x = 41
        · subst e41
          exact hW_s
        · rw [hW_o e41]
          exact hw3 x i q
      · intro i v q
        exact hW_s.trans (q2 i v q)
    · rintro r h' ⟨A1, rfl, rfl, q⟩
      simp only [Option.toList_none, List.nil_append]
      rw [yX11_difference_76 hm]
      exact q
  rw [yX11_difference_0 hm, yX11_difference_8 hm, if_neg (by decide), yX11_difference_15 hm]
  refine (m_work (k := 0) (l3 := none) (Q := fun r h' => zE 140 30 [some (.inr 29), some (.inl (a : Int)), some (.inl (b : Int)), some (.inl 0), some (.inl (-1)), some (.inl 0), l6] (r.toList ++ []) h' Q) hm ha (by omega) hX ?_).mono ?_
  · intro A2 hw2 hS2
    simp only [Option.toList_none, List.nil_append]
    rw [yX11_difference_30 hm]
    refine m_rows0 (a := 67) hm (by omega) (by omega) hS2 (hw2.S hb hY) ?_
    intro f l
    have ea := dBy_acc (scr 0 X.1) Y.1 8 0 1
    have hr := dBy_r (scr 0 X.1) Y.1 8 0 0
    simp only [Option.toList_some, List.cons_append, List.nil_append]
    rw [yX11_difference_38 hm, if_pos rfl, yX11_difference_56 hm, yX11_difference_63 hm, zw_eq (by omega) (by omega)]
    have := m_diff_l (A := A) (I := I) (n := ys.length) hm ha hb hX hY 8 1 0 (dBy (scr 0 X.1) Y.1 8 0 1) (by omega) (by omega) e69 A2 f l (some (.inl (dBy (scr 0 X.1) Y.1 8 0 0))) hw2
    rw [show dBy (scr 0 X.1) Y.1 8 0 1 - 1 = dBy (scr 0 X.1) Y.1 8 0 0 by omega] at this
    exact this
  · rintro r h' ⟨A1, rfl, rfl, q⟩
    simp only [Option.toList_none, List.nil_append]
    rw [yX11_difference_22 hm]
    exact q
end mDiff2
