/-! THE CLASS'S STATES -/
/-- what a row of states must be -/
def rsOK (h : zH) (so ra n : Nat) : Prop := (zK h so).1 = 18 ∧ zR h 512 so = ra ∧ zK h ra = (2, 32) ∧ zI h 514 so = n ∧ 1 ≤ n ∧ n ≤ 32 ∧ (∀ i, i < n → (zK h (zB h ra i)).1 = 17) ∧ (zK h 0).1 = 0
theorem rsOK.nz {h : zH} {so ra n i : Nat} (hr : rsOK h so ra n) (hi : i < n) : zB h ra i ≠ 0 := by
  intro e
  have h1 := hr.2.2.2.2.2.2.1 i hi
  rw [e, hr.2.2.2.2.2.2.2] at h1
  cases h1
/-- the first of d from i on whose number is v -/
def fnd (f : Nat → Int) (v : Int) : Nat → Nat → Option Nat
  | 0, _ => none
  | d + 1, i => if f i = v then some i else fnd f v d (i + 1)
theorem fnd_some {f : Nat → Int} {v : Int} : ∀ {d i j : Nat}, fnd f v d i = some j → i ≤ j ∧ j < i + d ∧ f j = v ∧ ∀ k, i ≤ k → k < j → f k ≠ v
  | 0, i, j, h => by cases h
  | d + 1, i, j, h => by
    unfold fnd at h
    split at h
    · rename_i hv
      cases h
      exact ⟨Nat.le_refl _, by omega, hv, fun k h1 h2 => by omega⟩
    · rename_i hv
      obtain ⟨h1, h2, h3, h4⟩ := fnd_some h
      refine ⟨by omega, by omega, h3, fun k k1 k2 => ?_⟩
      by_cases hk : k = i
      · subst hk; exact hv
      · exact h4 k (by omega) k2
theorem fnd_none {f : Nat → Int} {v : Int} : ∀ {d i : Nat}, fnd f v d i = none → ∀ k, i ≤ k → k < i + d → f k ≠ v
  | 0, i, h => fun k h1 h2 => by omega
  | d + 1, i, h => by
    unfold fnd at h
    split at h
    · cases h
    · rename_i hv
      intro k h1 h2
      by_cases hk : k = i
      · subst hk; exact hv
      · exact fnd_none h k (by omega) (by omega)
/-- how many of the first d from i on are below v -/
def gon (f : Nat → Int) (v : Int) : Nat → Nat → Nat
  | 0, i => i
  | d + 1, i => if f i < v then gon f v d (i + 1) else i
theorem gon_spec {f : Nat → Int} {v : Int} : ∀ (d i : Nat), i ≤ gon f v d i ∧ gon f v d i ≤ i + d ∧ (∀ k, i ≤ k → k < gon f v d i → f k < v) ∧ (gon f v d i < i + d → ¬ f (gon f v d i) < v)
  | 0, i => ⟨Nat.le_refl _, Nat.le_refl _, fun k h1 h2 => by unfold gon at h2; omega, fun h => by unfold gon at h; omega⟩
  | d + 1, i => by
    unfold gon
    split
    · rename_i hv
      obtain ⟨h1, h2, h3, h4⟩ := gon_spec (f := f) (v := v) d (i + 1)
      refine ⟨by omega, by omega, fun k k1 k2 => ?_, fun q => h4 (by omega)⟩
      by_cases hk : k = i
      · subst hk; exact hv
      · exact h3 k (by omega) k2
    · rename_i hv
      exact ⟨Nat.le_refl _, by omega, fun k k1 k2 => by omega, fun _ => hv⟩
theorem gon_s (f : Nat → Int) (v : Int) (d i : Nat) : gon f v (d + 1) i = if f i < v then gon f v d (i + 1) else i := rfl
/-- n rows turned m times -/
def rotm (g : Nat → Nat) (m n : Nat) : Nat → Nat := fun i => if i < n then g ((i + m) % n) else g i
theorem rotm_0 (g : Nat → Nat) (n : Nat) : rotm g 0 n = g := by
  funext i
  unfold rotm
  by_cases hi : i < n
  · rw [if_pos hi, Nat.add_zero, Nat.mod_eq_of_lt hi]
  · rw [if_neg hi]
theorem rotm_1 (g : Nat → Nat) (m n : Nat) (hn : 1 ≤ n) : rout (rotm g m n) 0 n = rotm g (m + 1) n := by
  funext i
  unfold rout rotm
  by_cases h1 : i + 1 < n
  · rw [if_pos ⟨Nat.zero_le _, h1⟩, if_pos h1, if_pos (by omega), show i + 1 + m = i + (m + 1) by omega]
  · rw [if_neg (by omega)]
    by_cases h2 : i + 1 = n
    · rw [if_pos h2, if_pos (by omega), if_pos (by omega), Nat.zero_add, show i + (m + 1) = m + n by omega, Nat.add_mod_right]
    · rw [if_neg h2, if_neg (by omega), if_neg (by omega)]
section zStsM
variable {h : zH} {so ra n : Nat} {Q : Option zV → zH → Prop}
theorem c_SFind {i : Int} (hr : rsOK h so ra n) (hQ : Q (some (.inr (if 0 ≤ i ∧ i < n then zB h ra i.toNat else 0))) h) : zE 68 0 [some (.inr so), some (.inl i)] [] h Q := by
  obtain ⟨r1, r2, r3, r4, r5, r6, r7, r8⟩ := hr
  simp only [xX9_find_0, xX9_find_4, xX9_find_12, xX9_find_18, xX9_find_27, xX9_find_28, r1, r2, r3, r4, true_and]
  by_cases hi : 0 ≤ i ∧ i < (n : Int)
  · rw [if_neg (by omega), if_neg (by omega), if_neg (by omega)]
    rw [if_pos hi] at hQ
    exact ⟨⟨by omega, by omega⟩, ⟨by omega, by omega⟩, hQ⟩
  · rw [if_neg hi] at hQ
    by_cases h0 : i < 0
    · rw [if_pos h0]; exact hQ
    · rw [if_neg h0, if_pos (by omega)]; exact hQ
theorem c_SFindN_l {v : Int} (hr : rsOK h so ra n) : ∀ (d i : Nat) (l3 : Option zV), i + d = n → Q (some (.inr (match fnd (fun i => zI h 449 (zB h ra i)) v d i with | some j => zB h ra j | none => 0))) h → zE 69 2 [some (.inr so), some (.inl v), some (.inl (i : Int)), l3] [] h Q := by
  obtain ⟨r1, r2, r3, r4, r5, r6, r7, r8⟩ := id hr
  intro d
  induction d with
  | zero =>
    intro i l3 hi hQ
    rw [xX9_findNumber_2, r4, if_pos (by omega), xX9_findNumber_43]
    exact ⟨r1, hQ⟩
  | succ d ih =>
    intro i l3 hi hQ
    have hnz := hr.nz (i := i) (by omega)
    rw [xX9_findNumber_2, r4, if_neg (by omega), xX9_findNumber_10, if_neg (by omega), xX9_findNumber_16, r2, r3, Int.toNat_natCast, if_neg hnz, xX9_findNumber_27, r7 i (by omega)]
    refine ⟨r1, r1, ⟨by show 2 ≤ 2; omega, by show 2 ≤ 4; omega⟩, ⟨by omega, by show (i : Int) < (32 : Nat); omega⟩, rfl, ?_⟩
    unfold fnd at hQ
    by_cases hv : zI h 449 (zB h ra i) = v
    · rw [if_pos hv] at hQ
      rw [if_neg (fun q => q hv), xX9_findNumber_35]
      exact hQ
    · rw [if_neg hv] at hQ
      rw [if_pos hv, xX9_findNumber_37, zw_eq (by omega) (by omega)]
      have := ih (i + 1) (some (.inr (zB h ra i))) (by omega) hQ
      rw [show ((i + 1 : Nat) : Int) = (i : Int) + 1 by omega] at this
      exact this
theorem c_SFindN {v : Int} (hr : rsOK h so ra n) (hQ : Q (some (.inr (match fnd (fun i => zI h 449 (zB h ra i)) v n 0 with | some j => zB h ra j | none => 0))) h) : zE 69 0 [some (.inr so), some (.inl v), none, none] [] h Q := by
  rw [xX9_findNumber_0]
  exact c_SFindN_l hr n 0 none (by omega) hQ
theorem c_SFull (hr : rsOK h so ra n) (hQ : Q (some (.inl (if n < 32 then 0 else 1))) h) : zE 70 0 [some (.inr so)] [] h Q := by
  obtain ⟨r1, r2, r3, r4, r5, r6, r7, r8⟩ := hr
  simp only [xX9_isFull_0, xX9_isFull_9, xX9_isFull_13, xX9_isFull_14, r1, r4, true_and]
  by_cases hn : n < 32
  · rw [if_pos (by omega)]
    rw [if_pos hn] at hQ
    exact ⟨Or.inl trivial, hQ⟩
  · rw [if_neg (by omega)]
    rw [if_neg hn] at hQ
    exact ⟨Or.inr trivial, hQ⟩
theorem c_SMove_l (hr : rsOK h so ra n) (hQ : Q none (zBs h ra (rout (zB h ra) 0 n))) :
    ∀ (d i : Nat), i + d = n → 0 < i → zE 74 9 [some (.inr so), some (.inr (zB h ra 0)), some (.inl (i : Int))] [] (zBs h ra (fun j => if j + 1 < i then zB h ra (j + 1) else zB h ra j)) Q := by
  obtain ⟨r1, r2, r3, r4, r5, r6, r7, r8⟩ := id hr
  intro d
  induction d with
  | zero =>
    intro i hi hki
    have hin : i = n := by omega
    subst hin
    have s1 : zI (zBs h ra (fun j => if j + 1 < i then zB h ra (j + 1) else zB h ra j)) 514 so = i := r4
    have s2 : (zK (zBs h ra (fun j => if j + 1 < i then zB h ra (j + 1) else zB h ra j)) so).1 = 18 := r1
    have s3 : zR (zBs h ra (fun j => if j + 1 < i then zB h ra (j + 1) else zB h ra j)) 512 so = ra := r2
    have s4 : zK (zBs h ra (fun j => if j + 1 < i then zB h ra (j + 1) else zB h ra j)) ra = (2, 32) := r3
    rw [xX9_moveFirstBehind_9, s1, if_pos (by omega), xX9_moveFirstBehind_43, s1, if_neg (by omega), xX9_moveFirstBehind_51, s1, if_neg (by omega), xX9_moveFirstBehind_60, s1, s3, s4, zw_eq (by omega) (by omega), zsB_Bs, xX9_moveFirstBehind_72]
    refine ⟨s2, s2, s2, s2, s2, ⟨by show 2 ≤ 2; omega, by show 2 ≤ 4; omega⟩, r7 0 (by omega), ⟨by omega, by show (i : Int) - 1 < (32 : Nat); omega⟩, ?_⟩
    have e : nup (fun j => if j + 1 < i then zB h ra (j + 1) else zB h ra j) ((i : Int) - 1).toNat (zB h ra 0) = rout (zB h ra) 0 i := by
      funext j
      unfold nup rout
      by_cases hj : j = ((i : Int) - 1).toNat
      · rw [if_pos hj, if_neg (by omega), if_pos (by omega)]
      · rw [if_neg hj]
        dsimp only
        by_cases hj2 : j + 1 < i
        · rw [if_pos hj2, if_pos ⟨Nat.zero_le _, hj2⟩]
        · rw [if_neg hj2, if_neg (by omega), if_neg (by omega)]
    rw [e]
    exact hQ
  | succ d ih =>
    intro i hi hki
    have s1 : zI (zBs h ra (fun j => if j + 1 < i then zB h ra (j + 1) else zB h ra j)) 514 so = n := r4
    have s2 : (zK (zBs h ra (fun j => if j + 1 < i then zB h ra (j + 1) else zB h ra j)) so).1 = 18 := r1
    have s3 : zR (zBs h ra (fun j => if j + 1 < i then zB h ra (j + 1) else zB h ra j)) 512 so = ra := r2
    have s4 : zK (zBs h ra (fun j => if j + 1 < i then zB h ra (j + 1) else zB h ra j)) ra = (2, 32) := r3
    have s5 : zB (zBs h ra (fun j => if j + 1 < i then zB h ra (j + 1) else zB h ra j)) ra i = zB h ra i := by
      rw [zB_Bs_s, if_neg (by omega)]
    have s6 : (zK (zBs h ra (fun j => if j + 1 < i then zB h ra (j + 1) else zB h ra j)) (zB h ra i)).1 = 17 := r7 i (by omega)
    rw [xX9_moveFirstBehind_9, s1, if_neg (by omega), xX9_moveFirstBehind_17, if_neg (by omega), xX9_moveFirstBehind_23, s3, s4, Int.toNat_natCast, s5, zw_eq (by omega) (by omega), s6, zsB_Bs, xX9_moveFirstBehind_37, zw_eq (by omega) (by omega)]
    refine ⟨s2, s2, s2, ⟨by show 2 ≤ 2; omega, by show 2 ≤ 4; omega⟩, ⟨by omega, by show (i : Int) < (32 : Nat); omega⟩, ⟨by show 2 ≤ 2; omega, by show 2 ≤ 4; omega⟩, rfl, ⟨by omega, by show (i : Int) - 1 < (32 : Nat); omega⟩, ?_⟩
    have e : nup (fun j => if j + 1 < i then zB h ra (j + 1) else zB h ra j) ((i : Int) - 1).toNat (zB h ra i) = (fun j => if j + 1 < i + 1 then zB h ra (j + 1) else zB h ra j) := by
      funext j
      unfold nup
      by_cases hj : j = ((i : Int) - 1).toNat
      · rw [if_pos hj, if_pos (by omega), show j + 1 = i by omega]
      · rw [if_neg hj]
        dsimp only
        by_cases hj2 : j + 1 < i
        · rw [if_pos hj2, if_pos (by omega)]
        · rw [if_neg hj2, if_neg (by omega)]
    rw [e]
    have := ih (i + 1) (by omega) (by omega)
    rw [show ((i + 1 : Nat) : Int) = (i : Int) + 1 by omega] at this
    exact this
theorem c_SMove (hr : rsOK h so ra n) (hQ : Q none (zBs h ra (rout (zB h ra) 0 n))) : zE 74 0 [some (.inr so), none, none] [] h Q := by
  obtain ⟨r1, r2, r3, r4, r5, r6, r7, r8⟩ := id hr
  rw [xX9_moveFirstBehind_0, r2, r3]
  refine ⟨r1, ⟨by show 2 ≤ 2; omega, by show 2 ≤ 4; omega⟩, ⟨by omega, by show (0 : Int) < (32 : Nat); omega⟩, ?_⟩
  have := c_SMove_l hr hQ (n - 1) 1 (by omega) (by omega)
  have e : zBs h ra (fun j => if j + 1 < 1 then zB h ra (j + 1) else zB h ra j) = h := by
    have e2 : (fun j => if j + 1 < 1 then zB h ra (j + 1) else zB h ra j) = zB h ra := by
      funext j
      rw [if_neg (by omega)]
    rw [e2, zBs_id]
  rw [e] at this
  exact this
theorem zBs_Bs (h : zH) (a : Nat) (g g' : Nat → Nat) : zBs (zBs h a g) a g' = zBs h a g' := by
  refine zH_ext rfl rfl rfl rfl ?_ rfl rfl
  funext x j
  rw [zB_Bs, zB_Bs, zB_Bs]
  by_cases h1 : x = a <;> simp [h1]
theorem rsOK_rot {m : Nat} (hr : rsOK h so ra n) : rsOK (zBs h ra (rotm (zB h ra) m n)) so ra n := by
  obtain ⟨r1, r2, r3, r4, r5, r6, r7, r8⟩ := hr
  refine ⟨r1, r2, r3, r4, r5, r6, fun i hi => ?_, r8⟩
  rw [zB_Bs_s]
  unfold rotm
  rw [if_pos hi]
  exact r7 _ (Nat.mod_lt _ (by omega))
theorem c_SDrop_r {m : Nat} {l1 : Option zV} (hr : rsOK h so ra n) (hm : m < n) (hQ : Q none (zsI (zBs h ra (rotm (zB h ra) m n)) 514 so (n - m : Nat))) :
    ∀ (d i : Nat), i + d = m → zE 72 39 [some (.inr so), l1, some (.inl (m : Int)), some (.inl (i : Int))] [] (zBs h ra (rotm (zB h ra) i n)) Q := by
  obtain ⟨r1, r2, r3, r4, r5, r6, r7, r8⟩ := id hr
  intro d
  induction d with
  | zero =>
    intro i hi
    have : i = m := by omega
    subst this
    have s1 : zI (zBs h ra (rotm (zB h ra) i n)) 514 so = n := r4
    have s2 : (zK (zBs h ra (rotm (zB h ra) i n)) so).1 = 18 := r1
    rw [xX9_dropBelow_39, if_pos (by omega), xX9_dropBelow_54, s1, zw_eq (by omega) (by omega), xX9_dropBelow_64, show (n : Int) - i = ((n - i : Nat) : Int) by omega]
    exact ⟨s2, s2, hQ⟩
  | succ d ih =>
    intro i hi
    rw [xX9_dropBelow_39, if_neg (by omega), xX9_dropBelow_44]
    refine ⟨r1, c_SMove (rsOK_rot hr) ?_⟩
    simp only [Option.toList_none, List.nil_append]
    rw [zB_Bs_s, rotm_1 _ _ _ r5, zBs_Bs, xX9_dropBelow_48, zw_eq (by omega) (by omega)]
    have := ih (i + 1) (by omega)
    rw [show ((i + 1 : Nat) : Int) = (i : Int) + 1 by omega] at this
    exact this
theorem c_SDrop_l {v : Int} (hr : rsOK h so ra n) (hQ : Q none (zsI (zBs h ra (rotm (zB h ra) (gon (fun i => zI h 449 (zB h ra i)) v (n - 1) 0) n)) 514 so (n - gon (fun i => zI h 449 (zB h ra i)) v (n - 1) 0 : Nat))) :
    ∀ (d i : Nat), i + d = n - 1 → gon (fun i => zI h 449 (zB h ra i)) v (n - 1) 0 = gon (fun i => zI h 449 (zB h ra i)) v d i → zE 72 2 [some (.inr so), some (.inl v), some (.inl (i : Int)), none] [] h Q := by
  obtain ⟨r1, r2, r3, r4, r5, r6, r7, r8⟩ := id hr
  have hend : ∀ i, i < n → gon (fun i => zI h 449 (zB h ra i)) v (n - 1) 0 = i → zE 72 37 [some (.inr so), some (.inl v), some (.inl (i : Int)), none] [] h Q := by
    intro i hi he
    rw [he] at hQ
    rw [xX9_dropBelow_37]
    have := c_SDrop_r (l1 := some (.inl v)) hr hi hQ i 0 (by omega)
    rw [rotm_0, zBs_id] at this
    exact this
  intro d
  induction d with
  | zero =>
    intro i hi hg
    rw [xX9_dropBelow_2, r4, zw_eq (by omega) (by omega), if_pos (by omega)]
    exact ⟨r1, hend i (by omega) hg⟩
  | succ d ih =>
    intro i hi hg
    have hnz := hr.nz (i := i) (by omega)
    rw [xX9_dropBelow_2, r4, zw_eq (by omega) (by omega), if_neg (by omega), xX9_dropBelow_12, if_neg (by omega), xX9_dropBelow_18, r2, r3, Int.toNat_natCast]
    refine ⟨r1, r1, ⟨by show 2 ≤ 2; omega, by show 2 ≤ 4; omega⟩, ⟨by omega, by show (i : Int) < (32 : Nat); omega⟩, ?_⟩
    rw [xX9_isBelow_0, if_neg hnz, xX9_isBelow_4, r7 i (by omega)]
    refine ⟨rfl, ?_⟩
    rw [gon_s] at hg
    by_cases hv : zI h 449 (zB h ra i) < v
    · rw [if_pos hv] at hg
      rw [if_neg (by omega)]
      simp only [xX9_isBelow_12, xX9_isBelow_17, Option.toList_some, List.cons_append, List.nil_append]
      refine ⟨Or.inr trivial, ?_⟩
      rw [xX9_dropBelow_28, if_neg (by omega), xX9_dropBelow_31, zw_eq (by omega) (by omega)]
      have := ih (i + 1) (by omega) hg
      rw [show ((i + 1 : Nat) : Int) = (i : Int) + 1 by omega] at this
      exact this
    · rw [if_neg hv] at hg
      rw [if_pos (by omega)]
      simp only [xX9_isBelow_16, xX9_isBelow_17, Option.toList_some, List.cons_append, List.nil_append]
      refine ⟨Or.inl trivial, ?_⟩
      rw [xX9_dropBelow_28, if_pos rfl]
      exact hend i (by omega) hg
theorem c_SDrop {v : Int} (hr : rsOK h so ra n) (hQ : Q none (zsI (zBs h ra (rotm (zB h ra) (gon (fun i => zI h 449 (zB h ra i)) v (n - 1) 0) n)) 514 so (n - gon (fun i => zI h 449 (zB h ra i)) v (n - 1) 0 : Nat))) : zE 72 0 [some (.inr so), some (.inl v), none, none] [] h Q := by
  rw [xX9_dropBelow_0]
  exact c_SDrop_l hr hQ (n - 1) 0 (by omega) rfl
end zStsM
