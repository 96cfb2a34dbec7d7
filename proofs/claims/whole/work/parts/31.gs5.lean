/-! THE CLASS'S GUESSES: settle, reset -/
section zSettle
variable {h : zH} {n : Nat} {g : Nat → Nat → Int} {Q : Option zV → zH → Prop}
theorem c_Gswap {i j : Nat} (hg : gRows h) (hi : i < 60) (hj : j < 60) (h1 : zB h 11 i ≠ 0) (h2 : zB h 11 j ≠ 0) (hQ : Q none (zBs h 11 (nup (nup (zB h 11) i (zB h 11 j)) j (zB h 11 i)))) : zE 24 0 [some (.inr 10), some (.inl (i : Int)), some (.inl (j : Int)), none] [] h Q := by
  obtain ⟨r1, r2, r3, r4, r5, r6⟩ := id hg
  have k1 := r5 i hi h1
  have k2 := r5 j hj h2
  simp only [xX3_swap_0, xX3_swap_4, xX3_swap_10, xX3_swap_14]
  rw [if_neg (by omega), if_neg (by omega), if_neg (by omega), if_pos (by omega), xX3_swap_21, r2, r3, Int.toNat_natCast, Int.toNat_natCast, k2, xX3_swap_40, xX3_swap_47, zK_sB, zR_sB, r2, r3, Int.toNat_natCast, k1]
  rw [zsB_as h, zsB_Bs]
  exact ⟨r1, ⟨by decide, by decide⟩, ⟨by omega, by show (i : Int) < (60 : Nat); omega⟩, r1, r1, ⟨by decide, by decide⟩, ⟨by omega, by show (j : Int) < (60 : Nat); omega⟩, ⟨by decide, by decide⟩, rfl, ⟨by omega, by show (i : Int) < (60 : Nat); omega⟩, r1, ⟨by decide, by decide⟩, rfl, ⟨by omega, by show (j : Int) < (60 : Nat); omega⟩, hQ⟩
theorem gRows_swap {i j : Nat} (hg : gRows h) (hi : i < 60) (hj : j < 60) (h1 : zB h 11 i ≠ 0) (h2 : zB h 11 j ≠ 0) : gRows (zBs h 11 (nup (nup (zB h 11) i (zB h 11 j)) j (zB h 11 i))) := by
  obtain ⟨r1, r2, r3, r4, r5, r6⟩ := hg
  -- the rows behind a swap are the rows at a swapped place
  have hsw : ∀ k, nup (nup (zB h 11) i (zB h 11 j)) j (zB h 11 i) k = zB h 11 (if k = j then i else if k = i then j else k) := by
    intro k
    unfold nup
    by_cases hkj : k = j
    · rw [if_pos hkj, if_pos hkj]
    · rw [if_neg hkj, if_neg hkj]
      by_cases hki : k = i
      · rw [if_pos hki, if_pos hki]
      · rw [if_neg hki, if_neg hki]
  have hlt : ∀ k, k < 60 → (if k = j then i else if k = i then j else k) < 60 := by
    intro k hk
    split
    · exact hi
    · split
      · exact hj
      · exact hk
  refine ⟨r1, r2, r3, r4, fun k hk => ?_, fun k m hk hm => ?_⟩
  · rw [zB_Bs_s, hsw k]
    exact r5 _ (hlt k hk)
  · rw [zB_Bs_s, hsw k, hsw m]
    intro h0 he
    have := r6 _ _ (hlt k hk) (hlt m hm) h0 he
    (repeat' split at this) <;> omega
theorem c_GDrop_l {gone : Nat} (hG : rG h n g) (hgn : gone ≤ n) (hQ : ∀ R : Nat → Nat, (∀ k, k < n - gone → R k = zB h 11 (k + gone)) → gRows (zBs h 11 R) → Q none (zsI (zBs h 11 R) 129 10 (n - gone : Nat))) :
    ∀ (d i : Nat) (R : Nat → Nat), i + d = n → gone ≤ i → gRows (zBs h 11 R) → (∀ k, k < i - gone → R k = zB h 11 (k + gone)) → (∀ k, i ≤ k → R k = zB h 11 k) → (∀ k, k < n → R k ≠ 0) → zE 23 2 [some (.inr 10), some (.inl (gone : Int)), some (.inl (i : Int))] [] (zBs h 11 R) Q := by
  obtain ⟨⟨r1, r2, r3, r4, r5, r6⟩, s1, s2, s3⟩ := id hG
  intro d
  induction d with
  | zero =>
    intro i R hi hgi hg hlo hhi hnz
    have t1 : zI (zBs h 11 R) 129 10 = n := s1
    rw [xX3_dropFirst_2, t1, if_pos (by omega), xX3_dropFirst_30, t1, zw_eq (by omega) (by omega), xX3_dropFirst_40, show (n : Int) - gone = ((n - gone : Nat) : Int) by omega]
    exact ⟨r1, r1, r1, hQ R (fun k hk => hlo k (by omega)) hg⟩
  | succ d ih =>
    intro i R hi hgi hg hlo hhi hnz
    have t1 : zI (zBs h 11 R) 129 10 = n := s1
    rw [xX3_dropFirst_2, t1, if_neg (by omega), xX3_dropFirst_10, if_neg (by omega), xX3_dropFirst_16, zw_eq (by omega) (by omega), show (i : Int) - gone = ((i - gone : Nat) : Int) by omega]
    have hB : zB (zBs h 11 R) 11 = R := zB_Bs_s h 11 R
    refine ⟨r1, r1, c_Gswap hg (by omega) (by omega) (by rw [hB]; exact hnz i (by omega)) (by rw [hB]; exact hnz _ (by omega)) ?_⟩
    have hg2 := gRows_swap hg (i := i) (j := i - gone) (by omega) (by omega) (by rw [hB]; exact hnz i (by omega)) (by rw [hB]; exact hnz _ (by omega))
    rw [hB, zBs_Bs] at hg2
    rw [hB, zBs_Bs]
    simp only [Option.toList_none, List.nil_append]
    rw [xX3_dropFirst_24, zw_eq (by omega) (by omega), show (i : Int) + 1 = ((i + 1 : Nat) : Int) by omega]
    refine ih (i + 1) _ (by omega) (by omega) hg2 (fun k hk => ?_) (fun k hk => ?_) (fun k hk => ?_)
    · unfold nup
      by_cases e1 : k = i - gone
      · rw [if_pos e1, e1, show i - gone + gone = i by omega]
        exact hhi i (Nat.le_refl _)
      · rw [if_neg e1, if_neg (by omega)]
        exact hlo k (by omega)
    · unfold nup
      by_cases e1 : k = i - gone
      · omega
      · rw [if_neg e1, if_neg (by omega)]
        exact hhi k (by omega)
    · unfold nup
      by_cases e1 : k = i - gone
      · rw [if_pos e1]; exact hnz i (by omega)
      · rw [if_neg e1]
        by_cases e2 : k = i
        · rw [if_pos e2]; exact hnz _ (by omega)
        · rw [if_neg e2]; exact hnz k hk
theorem c_GDrop {gone : Nat} (hG : rG h n g) (hgn : gone ≤ n) (hQ : ∀ R : Nat → Nat, (∀ k, k < n - gone → R k = zB h 11 (k + gone)) → gRows (zBs h 11 R) → Q none (zsI (zBs h 11 R) 129 10 (n - gone : Nat))) : zE 23 0 [some (.inr 10), some (.inl (gone : Int)), none] [] h Q := by
  rw [xX3_dropFirst_0]
  have := c_GDrop_l hG hgn hQ (n - gone) gone (zB h 11) (by omega) (Nat.le_refl _) (by rw [zBs_id]; exact hG.1) (fun k hk => by omega) (fun k _ => rfl) (fun k hk => hG.nz hk)
  rw [zBs_id] at this
  exact this
/-- the guesses' counts: right, confirmed -/
def zRC (h : zH) (r c : Int) : zH := (zK h, fun f x => if f = 132 ∧ x = 10 then r else if f = 131 ∧ x = 10 then c else zI h f x, zR h, zA h, zB h, zn h, zs h)
theorem zI_RC {r c : Int} {f x : Nat} : zI (zRC h r c) f x = if f = 132 ∧ x = 10 then r else if f = 131 ∧ x = 10 then c else zI h f x := rfl
theorem zI_RC_o {r c : Int} {f x : Nat} (h1 : f ≠ 132) (h2 : f ≠ 131) : zI (zRC h r c) f x = zI h f x := by
  rw [zI_RC, if_neg (fun q => h1 q.1), if_neg (fun q => h2 q.1)]
theorem zI_RC_r {r c : Int} : zI (zRC h r c) 132 10 = r := by
  rw [zI_RC, if_pos ⟨rfl, rfl⟩]
theorem zI_RC_c {r c : Int} : zI (zRC h r c) 131 10 = c := by
  rw [zI_RC, if_neg (by omega), if_pos ⟨rfl, rfl⟩]
theorem zRC_id : zRC h (zI h 132 10) (zI h 131 10) = h := by
  refine zH_ext rfl ?_ rfl rfl rfl rfl rfl
  funext f x
  rw [zI_RC]
  by_cases h1 : f = 132 ∧ x = 10
  · rw [if_pos h1, h1.1, h1.2]
  · rw [if_neg h1]
    by_cases h2 : f = 131 ∧ x = 10
    · rw [if_pos h2, h2.1, h2.2]
    · rw [if_neg h2]
theorem zRC_r {r c r' : Int} : zsI (zRC h r c) 132 10 r' = zRC h r' c := by
  refine zH_ext rfl ?_ rfl rfl rfl rfl rfl
  funext f x
  rw [zI_sI, zI_RC, zI_RC]
  by_cases h1 : f = 132 ∧ x = 10
  · rw [if_pos h1, if_pos h1]
  · rw [if_neg h1, if_neg h1, if_neg h1]
theorem zRC_c {r c c' : Int} : zsI (zRC h r c) 131 10 c' = zRC h r c' := by
  refine zH_ext rfl ?_ rfl rfl rfl rfl rfl
  funext f x
  rw [zI_sI, zI_RC, zI_RC]
  by_cases h2 : f = 131 ∧ x = 10
  · have h1 : ¬ (f = 132 ∧ x = 10) := fun q => absurd (h2.1.symm.trans q.1) (by decide)
    rw [if_pos h2, if_neg h1, if_pos h2]
  · rw [if_neg h2]
    by_cases h1 : f = 132 ∧ x = 10
    · rw [if_pos h1, if_pos h1]
    · rw [if_neg h1, if_neg h1, if_neg h2, if_neg h2]
theorem rG_RC {r c : Int} (hG : rG h n g) : rG (zRC h r c) n g := by
  obtain ⟨q, s1, s2, s3⟩ := hG
  exact ⟨gRows_eq q rfl rfl rfl, (zI_RC_o (by decide) (by decide)).trans s1, s2, fun i hi => gIs_eq (s3 i hi) rfl (fun f q1 q2 => zI_RC_o (fun e => absurd q2 (by rw [e]; decide)) (fun e => absurd q2 (by rw [e]; decide)))⟩
end zSettle
