/-! THE CLASS'S DIFF: the bytes that a shift costs, the best shift -/
theorem dL_ge (X Y : Nat → Int) (b : Nat) : ∀ n j, j < n → Y (b + j) ≠ X (b + j) → (j : Int) ≤ dL X Y b n
  | 0, j, hj, _ => absurd hj (by omega)
  | n + 1, j, hj, e => by
    unfold dL
    by_cases q : Y (b + n) = X (b + n)
    · rw [if_pos q]
      have hjn : j ≠ n := fun z => e (z ▸ q)
      exact dL_ge X Y b n j (by omega) e
    · rw [if_neg q]
      omega
theorem dF_ne (X Y : Nat → Int) (b : Nat) : ∀ d i, dF X Y b d i ≠ -1 → ∃ f : Nat, dF X Y b d i = f ∧ i ≤ f ∧ f < i + d ∧ Y (b + f) ≠ X (b + f)
  | 0, _, q => absurd rfl q
  | d + 1, i, q => by
    unfold dF at q ⊢
    by_cases e : Y (b + i) = X (b + i)
    · rw [if_pos e] at q ⊢
      obtain ⟨f, h1, h2, h3, h4⟩ := dF_ne X Y b d (i + 1) q
      exact ⟨f, h1, by omega, by omega, h4⟩
    · rw [if_neg e]
      exact ⟨i, rfl, by omega, by omega, e⟩
theorem dFL (X Y : Nat → Int) (b : Nat) : dF X Y b 24 0 ≠ -1 → ∃ f l : Nat, dF X Y b 24 0 = f ∧ dL X Y b 24 = l ∧ f ≤ l ∧ l < 24 := by
  intro q
  obtain ⟨f, h1, h2, h3, h4⟩ := dF_ne X Y b 24 0 q
  have h5 := dL_ge X Y b 24 f (by omega) h4
  have h6 := dL_lt X Y b 24
  exact ⟨f, (dL X Y b 24).toNat, h1, by omega, by omega, by omega⟩
def dUn (Y : Nat → Int) (b f l : Nat) : Bool := dU Y b (Y (b + f)) (l - f) (f + 1)
def dN (X Y : Nat → Int) (b : Nat) : Int :=
  if dF X Y b 24 0 = -1 then 0 else if dUn Y b (dF X Y b 24 0).toNat (dL X Y b 24).toNat then 6 else 4 + 2 * (dL X Y b 24 - dF X Y b 24 0 + 1)
theorem dN_r (X Y : Nat → Int) (b : Nat) : 0 ≤ dN X Y b ∧ dN X Y b ≤ 52 := by
  unfold dN
  by_cases e : dF X Y b 24 0 = -1
  · rw [if_pos e]; omega
  · rw [if_neg e]
    obtain ⟨f, l, h1, h2, h3, h4⟩ := dFL X Y b e
    rw [h1, h2]
    split <;> omega
def dBy (X Y : Nat → Int) : Nat → Nat → Int → Int
  | 0, _, acc => acc
  | d + 1, row, acc => dBy X Y d (row + 1) (acc + dN X Y (24 * row))
theorem dBy_r (X Y : Nat → Int) : ∀ d row acc, acc ≤ dBy X Y d row acc ∧ dBy X Y d row acc ≤ acc + 52 * d
  | 0, _, acc => by unfold dBy; omega
  | d + 1, row, acc => by
    unfold dBy
    have h1 := dN_r X Y (24 * row)
    have h2 := dBy_r X Y d (row + 1) (acc + dN X Y (24 * row))
    omega
def dBest (A Y : Nat → Int) : Nat → Nat → Nat → Int → Nat
  | 0, _, best, _ => best
  | d + 1, k, best, few => if few ≤ dBy (scr k A) Y 8 0 1 then dBest A Y d (k + 1) best few else dBest A Y d (k + 1) k (dBy (scr k A) Y 8 0 1)
theorem dBest_r (A Y : Nat → Int) : ∀ d k best few, k + d = 9 → best ≤ 8 → dBest A Y d k best few ≤ 8
  | 0, _, _, _, _, h => h
  | d + 1, k, best, few, e, h => by
    unfold dBest
    split
    · exact dBest_r A Y d (k + 1) best few (by omega) h
    · exact dBest_r A Y d (k + 1) k _ (by omega) (by omega)
def dSh (A Y : Nat → Int) : Nat := dBest A Y 8 1 0 (dBy (scr 0 A) Y 8 0 1)
section zDiff2
variable {h : zH} {a s : Nat} {A B : Nat → Int} {Q : Option zV → zH → Prop}
theorem c_bytes_l {k : Nat} (ha : sOK h a) (hs : sOK h s) (hk : k ≤ 8) : ∀ (d row : Nat) (acc : Int) (l5 l6 : Option zV), row + d = 8 → 0 ≤ acc → acc ≤ 1 + 52 * row → Q (some (.inl (dBy (scr k (zCells h a)) (zCells h s) d row acc))) h →
    zE 170 5 [some (.inr a), some (.inr s), some (.inl (k : Int)), some (.inl acc), some (.inl (row : Int)), l5, l6] [] h Q := by
  intro d
  induction d with
  | zero =>
    intro row acc l5 l6 hr h0 h1 hQ
    rw [xX0_bytesFor_5, if_pos (by omega), xX0_bytesFor_76]
    exact hQ
  | succ d ih =>
    intro row acc l5 l6 hr h0 h1 hQ
    unfold dBy at hQ
    rw [xX0_bytesFor_5, if_neg (by omega), xX0_bytesFor_12]
    refine c_first ha hs (by omega) hk ?_
    simp only [Option.toList_some, List.cons_append, List.nil_append]
    rw [xX0_bytesFor_20]
    have hN := dN_r (scr k (zCells h a)) (zCells h s) (24 * row)
    by_cases e : dF (scr k (zCells h a)) (zCells h s) (24 * row) 24 0 = -1
    · rw [if_pos e, xX0_bytesFor_70, zw_eq (by omega) (by omega)]
      have hz : dN (scr k (zCells h a)) (zCells h s) (24 * row) = 0 := by unfold dN; rw [if_pos e]
      rw [hz, Int.add_zero] at hQ
      exact ih (row + 1) acc _ _ (by omega) h0 (by omega) hQ
    · rw [if_neg e, xX0_bytesFor_28]
      refine c_last ha hs (by omega) hk ?_
      simp only [Option.toList_some, List.cons_append, List.nil_append]
      obtain ⟨f, l, e1, e2, e3, e4⟩ := dFL _ _ _ e
      have hz : dN (scr k (zCells h a)) (zCells h s) (24 * row) = if dUn (zCells h s) (24 * row) f l then 6 else 4 + 2 * ((l : Int) - f + 1) := by
        unfold dN
        rw [if_neg e, e1, e2, Int.toNat_natCast, Int.toNat_natCast]
      rw [e1, e2, xX0_bytesFor_36]
      refine c_uni hs (by omega) e3 e4 ?_
      simp only [Option.toList_some, List.cons_append, List.nil_append]
      rw [xX0_bytesFor_49]
      have eU : dU (zCells h s) (24 * row) (zCells h s (24 * row + f)) (l - f) (f + 1) = dUn (zCells h s) (24 * row) f l := rfl
      rw [eU]
      by_cases u : dUn (zCells h s) (24 * row) f l = true
      · rw [if_pos u, if_neg (by decide), xX0_bytesFor_52, xX0_bytesFor_68, xX0_bytesFor_70, zw_eq (by omega) (by omega), zw_eq (by omega) (by omega)]
        rw [hz, if_pos u] at hQ
        exact ih (row + 1) (acc + 6) _ _ (by omega) (by omega) (by omega) hQ
      · rw [if_neg u, if_pos rfl, xX0_bytesFor_57, xX0_bytesFor_68, xX0_bytesFor_70]
        rw [hz, if_neg u] at hQ
        simp (disch := omega) only [zw_eq]
        exact ih (row + 1) _ _ _ (by omega) (by omega) (by omega) hQ
theorem c_bytes {k : Nat} (ha : sOK h a) (hs : sOK h s) (hk : k ≤ 8) (hQ : Q (some (.inl (dBy (scr k (zCells h a)) (zCells h s) 8 0 1))) h) {l3 l4 l5 l6 : Option zV} :
    zE 170 0 [some (.inr a), some (.inr s), some (.inl (k : Int)), l3, l4, l5, l6] [] h Q := by
  rw [xX0_bytesFor_0]
  exact c_bytes_l ha hs hk 8 0 1 _ _ rfl (by omega) (by omega) hQ
theorem c_best_l (ha : sOK h a) (hs : sOK h s) : ∀ (d k best : Nat) (few : Int) (l5 : Option zV), k + d = 9 → Q (some (.inl (dBest (zCells h a) (zCells h s) d k best few : Nat))) h →
    zE 169 12 [some (.inr a), some (.inr s), some (.inl (best : Int)), some (.inl few), some (.inl (k : Int)), l5] [] h Q := by
  intro d
  induction d with
  | zero =>
    intro k best few l5 hk hQ
    rw [xX0_bestShift_12, if_pos (by omega), xX0_bestShift_46]
    exact hQ
  | succ d ih =>
    intro k best few l5 hk hQ
    unfold dBest at hQ
    rw [xX0_bestShift_12, if_neg (by omega), xX0_bestShift_19]
    refine c_bytes ha hs (by omega) ?_
    simp only [Option.toList_some, List.cons_append, List.nil_append]
    rw [xX0_bestShift_26]
    by_cases e : few ≤ dBy (scr k (zCells h a)) (zCells h s) 8 0 1
    · rw [if_pos e] at hQ
      rw [if_pos e, xX0_bestShift_40, zw_eq (by omega) (by omega)]
      exact ih (k + 1) best few _ (by omega) hQ
    · rw [if_neg e] at hQ
      rw [if_neg e, xX0_bestShift_34, xX0_bestShift_40, zw_eq (by omega) (by omega)]
      exact ih (k + 1) k _ _ (by omega) hQ
theorem c_best (ha : sOK h a) (hs : sOK h s) (hQ : Q (some (.inl (dSh (zCells h a) (zCells h s) : Nat))) h) {l2 l3 l4 l5 : Option zV} :
    zE 169 0 [some (.inr a), some (.inr s), l2, l3, l4, l5] [] h Q := by
  rw [xX0_bestShift_0]
  refine c_bytes (k := 0) ha hs (by omega) ?_
  simp only [Option.toList_some, List.cons_append, List.nil_append]
  rw [xX0_bestShift_8]
  exact c_best_l ha hs 8 1 0 _ _ rfl hQ
end zDiff2
