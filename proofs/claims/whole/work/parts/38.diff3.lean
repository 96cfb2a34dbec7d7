/-! THE CLASS'S DIFF: what is appended -/
def dCs (Y : Nat → Int) (b : Nat) : Nat → Nat → List Int
  | 0, _ => []
  | n + 1, c => Y (b + c) % 128 :: Y (b + c) / 128 :: dCs Y b n (c + 1)
theorem dCs_len (Y : Nat → Int) (b : Nat) : ∀ n c, (dCs Y b n c).length = 2 * n
  | 0, _ => rfl
  | n + 1, c => by
    show (dCs Y b n (c + 1)).length + 1 + 1 = 2 * (n + 1)
    rw [dCs_len Y b n (c + 1)]
    omega
def dRow (Y : Nat → Int) (row f l : Nat) : List Int :=
  [(row : Int), if dUn Y (24 * row) f l then 1 else 0, (f : Int), (l : Int)] ++ dCs Y (24 * row) (if dUn Y (24 * row) f l then 1 else l - f + 1) f
theorem dRow_len {Y : Nat → Int} {row f l : Nat} (h1 : f ≤ l) (h2 : l < 24) : (dRow Y row f l).length ≤ 52 := by
  unfold dRow
  rw [List.length_append, dCs_len]
  simp only [List.length_cons, List.length_nil]
  split <;> omega
def dRows (X Y : Nat → Int) : Nat → Nat → List Int
  | 0, _ => []
  | d + 1, row => (if dF X Y (24 * row) 24 0 = -1 then [] else dRow Y row (dF X Y (24 * row) 24 0).toNat (dL X Y (24 * row) 24).toNat) ++ dRows X Y d (row + 1)
def dDiff (A Y : Nat → Int) : List Int := (dSh A Y : Int) :: dRows (scr (dSh A Y) A) Y 8 0
theorem dRows_len (X Y : Nat → Int) : ∀ d row, (dRows X Y d row).length ≤ 52 * d
  | 0, _ => Nat.le_refl _
  | d + 1, row => by
    unfold dRows
    rw [List.length_append]
    have h1 := dRows_len X Y d (row + 1)
    by_cases e : dF X Y (24 * row) 24 0 = -1
    · rw [if_pos e, List.length_nil]; omega
    · rw [if_neg e]
      obtain ⟨f, l, e1, e2, e3, e4⟩ := dFL X Y _ e
      rw [e1, e2, Int.toNat_natCast, Int.toNat_natCast]
      have := dRow_len (Y := Y) (row := row) e3 e4
      omega
section zDiff3
variable {h : zH} {a s l m : Nat} {g : Nat → Int} {xs : List Int} {Q : Option zV → zH → Prop}
theorem c_Lput8 {v : Int} (hk : lOK h l m) (hl : xs.length < m) (hg : isLs g xs) (hv : 0 ≤ v ∧ v < 256) (hQ : ∀ g', isLs g' (xs ++ [v]) → Q none (zLet h l g' ((xs ++ [v]).length : Nat))) : zE 31 0 [some (.inr l), some (.inl v)] [] (zLet h l g xs.length) Q := by
  refine c_Lput hk hl hg (by omega) ?_
  rw [Int.emod_eq_of_lt hv.1 hv.2]
  exact hQ
theorem zCells_Let {n : Int} (hn : zR h 384 s ≠ zR h 192 l) : zCells (zLet h l g n) s = zCells h s := by
  funext i
  exact if_neg hn
theorem c_row_l {row : Nat} (hk : lOK h l m) (hs : sOK h s) (hn : zR h 384 s ≠ zR h 192 l) (hr : row < 8) (hY : ∀ i, i < 192 → 0 ≤ zCells h s i ∧ zCells h s i < 32768) {l3 l4 l5 : Option zV} {e : Nat} (he : e < 24) :
    ∀ (n c : Nat) (xs : List Int) (g : Nat → Int) (l8 : Option zV), c + n = e + 1 → isLs g xs → xs.length + 2 * n ≤ m →
    (∀ g', isLs g' (xs ++ dCs (zCells h s) (24 * row) n c) → Q none (zLet h l g' ((xs ++ dCs (zCells h s) (24 * row) n c).length : Nat))) →
    zE 168 56 [some (.inr l), some (.inr s), some (.inl (row : Int)), l3, l4, l5, some (.inl (e : Int)), some (.inl (c : Int)), l8] [] (zLet h l g xs.length) Q := by
  intro n
  induction n with
  | zero =>
    intro c xs g l8 hc hg hm hQ
    rw [xX0_appendRow_56, if_pos (by omega), xX0_appendRow_98]
    have := hQ g
    unfold dCs at this
    rw [List.append_nil] at this
    exact this hg
  | succ n ih =>
    intro c xs g l8 hc hg hm hQ
    have hv := hY (24 * row + c) (by omega)
    rw [xX0_appendRow_56, if_neg (by omega), xX0_appendRow_63]
    refine ⟨hs.1, r_at0 (show sOK (zLet h l g xs.length) s from hs) hr (by omega) ?_⟩
    rw [zCells_Let hn]
    simp only [Option.toList_some, List.cons_append, List.nil_append]
    generalize hV : zCells h s (24 * row + c) = V at hv
    unfold dCs at hQ
    rw [hV] at hQ
    rw [xX0_appendRow_70, tmod_pos hv.1, zw_eq (by omega) (by omega)]
    refine ⟨by decide, hk.1, c_Lput8 hk (by omega) hg (by omega) ?_⟩
    intro g1 hg1
    simp only [Option.toList_none, List.nil_append]
    rw [xX0_appendRow_82, tdiv_pos hv.1, zw_eq (by omega) (by omega)]
    refine ⟨by decide, hk.1, c_Lput8 hk (by rw [List.length_append, List.length_singleton]; omega) hg1 (by omega) ?_⟩
    intro g2 hg2
    simp only [Option.toList_none, List.nil_append]
    rw [xX0_appendRow_92, zw_eq (by omega) (by omega)]
    refine ih (c + 1) _ g2 _ (by omega) hg2 (by simp only [List.length_append, List.length_singleton]; omega) ?_
    simp only [List.append_assoc, List.cons_append, List.nil_append]
    exact hQ
theorem c_row {row f e : Nat} (hk : lOK h l m) (hs : sOK h s) (hn : zR h 384 s ≠ zR h 192 l) (hr : row < 8) (hY : ∀ i, i < 192 → 0 ≤ zCells h s i ∧ zCells h s i < 32768) (hf : f ≤ e) (he : e < 24) (hg : isLs g xs) (hm : xs.length + 52 ≤ m)
    (hQ : ∀ g', isLs g' (xs ++ dRow (zCells h s) row f e) → Q none (zLet h l g' ((xs ++ dRow (zCells h s) row f e).length : Nat))) {l5 l6 l7 l8 : Option zV} :
    zE 168 0 [some (.inr l), some (.inr s), some (.inl (row : Int)), some (.inl (f : Int)), some (.inl (e : Int)), l5, l6, l7, l8] [] (zLet h l g xs.length) Q := by
  rw [xX0_appendRow_0]
  refine c_uni (show sOK (zLet h l g xs.length) s from hs) hr hf he ?_
  rw [zCells_Let hn]
  simp only [Option.toList_some, List.cons_append, List.nil_append]
  have eU : dU (zCells h s) (24 * row) (zCells h s (24 * row + f)) (e - f) (f + 1) = dUn (zCells h s) (24 * row) f e := rfl
  rw [eU, xX0_appendRow_8]
  unfold dRow at hQ
  refine ⟨hk.1, c_Lput8 hk (by omega) hg (by omega) ?_⟩
  intro g1 hg1
  simp only [Option.toList_none, List.nil_append]
  rw [xX0_appendRow_15]
  by_cases u : dUn (zCells h s) (24 * row) f e = true
  · simp only [if_pos u] at hQ ⊢
    rw [if_neg (by decide), xX0_appendRow_21, xX0_appendRow_26]
    refine ⟨hk.1, c_Lput8 hk (by rw [List.length_append, List.length_singleton]; omega) hg1 (by omega) ?_⟩
    intro g2 hg2
    simp only [Option.toList_none, List.nil_append]
    rw [xX0_appendRow_29]
    refine ⟨hk.1, c_Lput8 hk (by simp only [List.length_append, List.length_singleton]; omega) hg2 (by omega) ?_⟩
    intro g3 hg3
    simp only [Option.toList_none, List.nil_append]
    rw [xX0_appendRow_34]
    refine ⟨hk.1, c_Lput8 hk (by simp only [List.length_append, List.length_singleton]; omega) hg3 (by omega) ?_⟩
    intro g4 hg4
    simp only [Option.toList_none, List.nil_append]
    rw [xX0_appendRow_40, if_neg (by decide), xX0_appendRow_45, xX0_appendRow_51]
    refine c_row_l hk hs hn hr hY (e := f) (by omega) 1 f _ g4 _ rfl hg4 (by simp only [List.length_append, List.length_singleton]; omega) ?_
    simp only [List.append_assoc, List.cons_append, List.nil_append] at hQ ⊢
    exact hQ
  · simp only [if_neg u] at hQ ⊢
    rw [if_pos trivial, xX0_appendRow_25, xX0_appendRow_26]
    refine ⟨hk.1, c_Lput8 hk (by rw [List.length_append, List.length_singleton]; omega) hg1 (by omega) ?_⟩
    intro g2 hg2
    simp only [Option.toList_none, List.nil_append]
    rw [xX0_appendRow_29]
    refine ⟨hk.1, c_Lput8 hk (by simp only [List.length_append, List.length_singleton]; omega) hg2 (by omega) ?_⟩
    intro g3 hg3
    simp only [Option.toList_none, List.nil_append]
    rw [xX0_appendRow_34]
    refine ⟨hk.1, c_Lput8 hk (by simp only [List.length_append, List.length_singleton]; omega) hg3 (by omega) ?_⟩
    intro g4 hg4
    simp only [Option.toList_none, List.nil_append]
    rw [xX0_appendRow_40, if_pos rfl, xX0_appendRow_49, xX0_appendRow_51]
    refine c_row_l hk hs hn hr hY (e := e) he (e - f + 1) f _ g4 _ (by omega) hg4 (by simp only [List.length_append, List.length_singleton]; omega) ?_
    simp only [List.append_assoc, List.cons_append, List.nil_append] at hQ ⊢
    exact hQ
theorem c_app_l {k : Nat} (hk : lOK h l m) (ha : sOK h a) (hs : sOK h s) (hna : zR h 384 a ≠ zR h 192 l) (hn : zR h 384 s ≠ zR h 192 l) (hk8 : k ≤ 8) (hY : ∀ i, i < 192 → 0 ≤ zCells h s i ∧ zCells h s i < 32768) :
    ∀ (d row : Nat) (xs : List Int) (g : Nat → Int) (l5 : Option zV), row + d = 8 → isLs g xs → xs.length + 52 * d ≤ m →
    (∀ g', isLs g' (xs ++ dRows (scr k (zCells h a)) (zCells h s) d row) → Q none (zLet h l g' ((xs ++ dRows (scr k (zCells h a)) (zCells h s) d row).length : Nat))) →
    zE 167 14 [some (.inr l), some (.inr a), some (.inr s), some (.inl (k : Int)), some (.inl (row : Int)), l5] [] (zLet h l g xs.length) Q := by
  intro d
  induction d with
  | zero =>
    intro row xs g l5 hr hg hm hQ
    rw [xX0_append_14, if_pos (by omega), xX0_append_60]
    have := hQ g
    unfold dRows at this
    rw [List.append_nil] at this
    exact this hg
  | succ d ih =>
    intro row xs g l5 hr hg hm hQ
    have ha' : sOK (zLet h l g xs.length) a := ha
    have hs' : sOK (zLet h l g xs.length) s := hs
    unfold dRows at hQ
    rw [xX0_append_14, if_neg (by omega), xX0_append_21]
    refine c_first ha' hs' (by omega) hk8 ?_
    rw [zCells_Let hn, zCells_Let hna]
    simp only [Option.toList_some, List.cons_append, List.nil_append]
    rw [xX0_append_29]
    by_cases e : dF (scr k (zCells h a)) (zCells h s) (24 * row) 24 0 = -1
    · rw [if_pos e] at hQ
      rw [if_pos e, xX0_append_54, zw_eq (by omega) (by omega)]
      exact ih (row + 1) xs g _ (by omega) hg (by omega) hQ
    · rw [if_neg e] at hQ
      rw [if_neg e, xX0_append_37]
      obtain ⟨f, z, e1, e2, e3, e4⟩ := dFL _ _ _ e
      rw [e1, e2, Int.toNat_natCast, Int.toNat_natCast] at hQ
      refine c_last ha' hs' (by omega) hk8 ?_
      rw [zCells_Let hn, zCells_Let hna]
      simp only [Option.toList_some, List.cons_append, List.nil_append]
      rw [e1, e2, xX0_append_51]
      refine c_row hk hs hn (by omega) hY e3 e4 hg (by omega) ?_
      intro g' hg'
      simp only [Option.toList_none, List.nil_append]
      rw [xX0_append_54, zw_eq (by omega) (by omega)]
      have hL := dRow_len (Y := zCells h s) (row := row) e3 e4
      refine ih (row + 1) _ g' _ (by omega) hg' (by rw [List.length_append]; omega) ?_
      rw [List.append_assoc]
      exact hQ
theorem c_append (hk : lOK h l m) (ha : sOK h a) (hs : sOK h s) (hna : zR h 384 a ≠ zR h 192 l) (hn : zR h 384 s ≠ zR h 192 l) (hY : ∀ i, i < 192 → 0 ≤ zCells h s i ∧ zCells h s i < 32768)
    (hg : isLs g xs) (hm : xs.length + 417 ≤ m)
    (hQ : ∀ g', isLs g' (xs ++ dDiff (zCells h a) (zCells h s)) → Q none (zLet h l g' ((xs ++ dDiff (zCells h a) (zCells h s)).length : Nat))) {l3 l4 l5 : Option zV} :
    zE 167 0 [some (.inr l), some (.inr a), some (.inr s), l3, l4, l5] [] (zLet h l g xs.length) Q := by
  have ha' : sOK (zLet h l g xs.length) a := ha
  have hs' : sOK (zLet h l g xs.length) s := hs
  have hb : dSh (zCells h a) (zCells h s) ≤ 8 := dBest_r _ _ 8 1 0 _ rfl (by omega)
  unfold dDiff at hQ
  rw [xX0_append_0]
  refine c_best ha' hs' ?_
  rw [zCells_Let hn, zCells_Let hna]
  simp only [Option.toList_some, List.cons_append, List.nil_append]
  rw [xX0_append_5]
  refine ⟨hk.1, c_Lput8 hk (by omega) hg (by omega) ?_⟩
  intro g1 hg1
  simp only [Option.toList_none, List.nil_append]
  rw [xX0_append_11]
  refine c_app_l hk ha hs hna hn hb hY 8 0 _ g1 _ rfl hg1 (by rw [List.length_append, List.length_singleton]; omega) ?_
  simp only [List.append_assoc, List.cons_append, List.nil_append]
  exact hQ
end zDiff3
