/-! THE CLASS'S DIFF: what changed in a row -/
def dF (X Y : Nat → Int) (b : Nat) : Nat → Nat → Int
  | 0, _ => -1
  | d + 1, i => if Y (b + i) = X (b + i) then dF X Y b d (i + 1) else i
def dL (X Y : Nat → Int) (b : Nat) : Nat → Int
  | 0 => -1
  | n + 1 => if Y (b + n) = X (b + n) then dL X Y b n else n
def dU (Y : Nat → Int) (b : Nat) (v : Int) : Nat → Nat → Bool
  | 0, _ => true
  | d + 1, i => if Y (b + i) = v then dU Y b v d (i + 1) else false
theorem dF_lt (X Y : Nat → Int) (b : Nat) : ∀ d i, -1 ≤ dF X Y b d i ∧ dF X Y b d i < i + d ∧ (dF X Y b d i ≠ -1 → (i : Int) ≤ dF X Y b d i)
  | 0, i => by unfold dF; omega
  | d + 1, i => by
    have := dF_lt X Y b d (i + 1)
    unfold dF
    split <;> omega
theorem dL_lt (X Y : Nat → Int) (b : Nat) : ∀ n, -1 ≤ dL X Y b n ∧ dL X Y b n < n
  | 0 => by unfold dL; omega
  | n + 1 => by
    have := dL_lt X Y b n
    unfold dL
    split <;> omega
section zDiff
variable {h : zH} {a s : Nat} {A B : Nat → Int} {Q : Option zV → zH → Prop}
def zCells (h : zH) (s : Nat) : Nat → Int := zA h (zR h 384 s)
theorem r_at {r c : Int} (hs : sOK h s) (hQ : Q (some (.inl (if 0 ≤ r ∧ r < 8 ∧ 0 ≤ c ∧ c < 24 then zCells h s (24 * r + c).toNat else 32))) h) : zE 56 0 [some (.inr s), some (.inl r), some (.inl c)] [] h Q := by
  have e := zScr_id (h := h) (s := s)
  rw [← e]
  refine c_at hs ?_
  rw [e]
  exact hQ
theorem r_atk {k row c : Nat} (hs : sOK h s) (hr : row < 8) (hc : c < 24) (hk : k ≤ 8) (hQ : Q (some (.inl (scr k (zCells h s) (24 * row + c)))) h) : zE 56 0 [some (.inr s), some (.inl ((row : Int) + k)), some (.inl (c : Int))] [] h Q := by
  refine r_at hs ?_
  unfold scr at hQ
  rw [if_neg (by omega)] at hQ
  by_cases hh : row + k < 8
  · rw [if_pos (by omega)] at hQ
    rw [if_pos (by omega), show (24 * ((row : Int) + k) + c).toNat = 24 * row + c + 24 * k by omega]
    exact hQ
  · rw [if_neg (by omega)] at hQ
    rw [if_neg (by omega)]
    exact hQ
theorem r_at0 {row c : Nat} (hs : sOK h s) (hr : row < 8) (hc : c < 24) (hQ : Q (some (.inl (zCells h s (24 * row + c)))) h) : zE 56 0 [some (.inr s), some (.inl (row : Int)), some (.inl (c : Int))] [] h Q := by
  refine r_at hs ?_
  rw [if_pos (by omega), show (24 * (row : Int) + c).toNat = 24 * row + c by omega]
  exact hQ
theorem c_first_l {k row : Nat} (ha : sOK h a) (hs : sOK h s) (hr : row < 8) (hk : k ≤ 8) : ∀ (d i : Nat), i + d = 24 → Q (some (.inl (dF (scr k (zCells h a)) (zCells h s) (24 * row) d i))) h →
    zE 171 3 [some (.inr a), some (.inr s), some (.inl (k : Int)), some (.inl (row : Int)), some (.inl (i : Int))] [] h Q := by
  intro d
  induction d with
  | zero =>
    intro i hi hQ
    rw [xX0_firstChange_3, if_pos (by omega), xX0_firstChange_38]
    exact hQ
  | succ d ih =>
    intro i hi hQ
    rw [xX0_firstChange_3, if_neg (by omega), xX0_firstChange_10]
    refine ⟨hs.1, r_at0 hs hr (by omega) ?_⟩
    simp only [Option.toList_some, List.cons_append, List.nil_append]
    rw [xX0_firstChange_17, zw_eq (by omega) (by omega)]
    refine ⟨ha.1, r_atk ha hr (by omega) hk ?_⟩
    simp only [Option.toList_some, List.cons_append, List.nil_append]
    rw [xX0_firstChange_26]
    unfold dF at hQ
    by_cases e : zCells h s (24 * row + i) = scr k (zCells h a) (24 * row + i)
    · rw [if_pos e] at hQ
      rw [if_pos e, xX0_firstChange_32, zw_eq (by omega) (by omega)]
      exact ih (i + 1) (by omega) hQ
    · rw [if_neg e] at hQ
      rw [if_neg e, xX0_firstChange_29]
      exact hQ
theorem c_first {k row : Nat} (ha : sOK h a) (hs : sOK h s) (hr : row < 8) (hk : k ≤ 8) (hQ : Q (some (.inl (dF (scr k (zCells h a)) (zCells h s) (24 * row) 24 0))) h) {l4 : Option zV} :
    zE 171 0 [some (.inr a), some (.inr s), some (.inl (k : Int)), some (.inl (row : Int)), l4] [] h Q := by
  rw [xX0_firstChange_0]
  exact c_first_l ha hs hr hk 24 0 rfl hQ
theorem c_last_l {k row : Nat} (ha : sOK h a) (hs : sOK h s) (hr : row < 8) (hk : k ≤ 8) : ∀ (n : Nat) (i : Int), i = (n : Int) - 1 → n ≤ 24 → Q (some (.inl (dL (scr k (zCells h a)) (zCells h s) (24 * row) n))) h →
    zE 172 4 [some (.inr a), some (.inr s), some (.inl (k : Int)), some (.inl (row : Int)), some (.inl i)] [] h Q := by
  intro n
  induction n with
  | zero =>
    intro i hi hn hQ
    rw [xX0_lastChange_4, if_pos (by omega), xX0_lastChange_37]
    exact hQ
  | succ n ih =>
    intro i hi hn hQ
    have hi' : i = (n : Int) := by omega
    subst hi'
    rw [xX0_lastChange_4, if_neg (by omega), xX0_lastChange_9]
    refine ⟨hs.1, r_at0 hs hr (by omega) ?_⟩
    simp only [Option.toList_some, List.cons_append, List.nil_append]
    rw [xX0_lastChange_16, zw_eq (by omega) (by omega)]
    refine ⟨ha.1, r_atk ha hr (by omega) hk ?_⟩
    simp only [Option.toList_some, List.cons_append, List.nil_append]
    rw [xX0_lastChange_25]
    unfold dL at hQ
    by_cases e : zCells h s (24 * row + n) = scr k (zCells h a) (24 * row + n)
    · rw [if_pos e] at hQ
      rw [if_pos e, xX0_lastChange_31, zw_eq (by omega) (by omega)]
      exact ih _ (by omega) (by omega) hQ
    · rw [if_neg e] at hQ
      rw [if_neg e, xX0_lastChange_28]
      exact hQ
theorem c_last {k row : Nat} (ha : sOK h a) (hs : sOK h s) (hr : row < 8) (hk : k ≤ 8) (hQ : Q (some (.inl (dL (scr k (zCells h a)) (zCells h s) (24 * row) 24))) h) {l4 : Option zV} :
    zE 172 0 [some (.inr a), some (.inr s), some (.inl (k : Int)), some (.inl (row : Int)), l4] [] h Q := by
  rw [xX0_lastChange_0]
  exact c_last_l ha hs hr hk 24 23 rfl (by omega) hQ
theorem c_uni_l {row f l : Nat} (hs : sOK h s) (hr : row < 8) (hf : f < 24) (hl : l < 24) : ∀ (d i : Nat), i + d = l + 1 → Q (some (.inl (if dU (zCells h s) (24 * row) (zCells h s (24 * row + f)) d i then 1 else 0))) h →
    zE 173 5 [some (.inr s), some (.inl (row : Int)), some (.inl (f : Int)), some (.inl (l : Int)), some (.inl (i : Int))] [] h Q := by
  intro d
  induction d with
  | zero =>
    intro i hi hQ
    rw [xX0_isUniform_5, if_pos (by omega), xX0_isUniform_35]
    exact ⟨Or.inr rfl, hQ⟩
  | succ d ih =>
    intro i hi hQ
    rw [xX0_isUniform_5, if_neg (by omega), xX0_isUniform_11]
    refine ⟨hs.1, r_at0 hs hr (by omega) ?_⟩
    simp only [Option.toList_some, List.cons_append, List.nil_append]
    rw [xX0_isUniform_18]
    refine ⟨hs.1, r_at0 hs hr hf ?_⟩
    simp only [Option.toList_some, List.cons_append, List.nil_append]
    rw [xX0_isUniform_24]
    unfold dU at hQ
    by_cases e : zCells h s (24 * row + i) = zCells h s (24 * row + f)
    · rw [if_pos e] at hQ
      rw [if_pos e, xX0_isUniform_29, zw_eq (by omega) (by omega)]
      exact ih (i + 1) (by omega) hQ
    · rw [if_neg e] at hQ
      rw [if_neg e, xX0_isUniform_27]
      exact ⟨Or.inl rfl, hQ⟩
theorem c_uni {row f l : Nat} (hs : sOK h s) (hr : row < 8) (hf : f ≤ l) (hl : l < 24) (hQ : Q (some (.inl (if dU (zCells h s) (24 * row) (zCells h s (24 * row + f)) (l - f) (f + 1) then 1 else 0))) h) {l4 : Option zV} :
    zE 173 0 [some (.inr s), some (.inl (row : Int)), some (.inl (f : Int)), some (.inl (l : Int)), l4] [] h Q := by
  rw [xX0_isUniform_0, zw_eq (by omega) (by omega)]
  exact c_uni_l hs hr (by omega) hl (l - f) (f + 1) (by omega) hQ
end zDiff
