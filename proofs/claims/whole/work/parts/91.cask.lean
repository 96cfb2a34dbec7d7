/-! THE CLASS'S CALLS: what it tells -/
section cAsk
variable {h0 h h' : zH} {N M : Nat} {w w' : Nat → Nat} {c : cg} {l : lg} {Q : Option zV → zH → Prop} {B : Int} {so ra n : Nat} {S : Nat → sT}
theorem cS_row (hS : cS h w so ra n S) {i : Nat} (hi : i < n) : (zK h (zB h ra i)).1 = 17 ∧ zR h 448 (zB h ra i) = zB h ra i + 1 ∧ sOK h (zB h ra i + 1) ∧ zR h 384 (zB h ra i + 1) = zB h ra i + 2 ∧ sIs h (zB h ra i) (S i) ∧ tOK h w ra (zB h ra i) ∧ zB h ra i ≠ 0 := by
  obtain ⟨s1, s2, s3, s4, s5, s6⟩ := hS
  obtain ⟨a1, a2⟩ := s3 i hi
  have ht := s1 i (by omega) a1
  have ht' := ht
  obtain ⟨t1, t2, t3, t4, t5, t6, t7, t8, t9⟩ := ht'
  exact ⟨t1, t2, ⟨t3, by rw [t4]; exact t5⟩, t4, a2, ht, a1⟩
theorem RepC.n20 (R : RepC h0 N M h w c l) : 1 ≤ c.1 20 ∧ c.1 20 ≤ 32 := by
  have := R.2.2.2.1.2.2.2.2
  omega
theorem RepC.n12 (R : RepC h0 N M h w c l) : 1 ≤ c.1 12 ∧ c.1 12 ≤ 32 := by
  have := R.2.2.2.2.1.2.2.2.2
  omega
theorem RepC.rN (R : RepC h0 N M h w c l) : rsOK h 5 6 (c.1 20).toNat := by
  have hn := R.n20
  have hS := R.2.2.2.1
  have hv : zI h 514 5 = c.1 20 := R.v 20 (by decide) (Or.inl (by decide))
  refine ⟨R.1.k5, R.1.r512_5, R.1.k6, by rw [hv]; omega, by omega, by omega, fun i hi => (cS_row hS hi).1, R.1.k0⟩
theorem RepC.rF (R : RepC h0 N M h w c l) : rsOK h 17 18 (c.1 12).toNat := by
  have hn := R.n12
  have hS := R.2.2.2.2.1
  have hv : zI h 514 17 = c.1 12 := R.v 12 (by decide) (Or.inl (by decide))
  refine ⟨R.1.k17, R.1.r512_17, R.1.k18, by rw [hv]; omega, by omega, by omega, fun i hi => (cS_row hS hi).1, R.1.k0⟩
theorem RepC.tN (R : RepC h0 N M h w c l) : ∃ t, zR h 513 5 = t ∧ (zK h t).1 = 17 ∧ zR h 448 t = t + 1 ∧ sOK h (t + 1) ∧ zR h 384 (t + 1) = t + 2 ∧ sIs h t (c.2.2.1 0 (c.1 20 - 1).toNat) ∧ tOK h w 6 t ∧ t ≠ 0 := by
  have hn := R.n20
  have hS := R.2.2.2.1
  have := cS_row hS (i := (c.1 20).toNat - 1) (by omega)
  have e : (c.1 20 - 1).toNat = (c.1 20).toNat - 1 := by omega
  refine ⟨zB h 6 ((c.1 20).toNat - 1), hS.2.2.2.1, ?_⟩
  rw [e]
  exact this
theorem RepC.tF (R : RepC h0 N M h w c l) : ∃ t, zR h 513 17 = t ∧ (zK h t).1 = 17 ∧ zR h 448 t = t + 1 ∧ sOK h (t + 1) ∧ zR h 384 (t + 1) = t + 2 ∧ sIs h t (c.2.2.1 1 (c.1 12 - 1).toNat) ∧ tOK h w 18 t ∧ t ≠ 0 := by
  have hn := R.n12
  have hS := R.2.2.2.2.1
  have := cS_row hS (i := (c.1 12).toNat - 1) (by omega)
  have e : (c.1 12 - 1).toNat = (c.1 12).toNat - 1 := by omega
  refine ⟨zB h 18 ((c.1 12).toNat - 1), hS.2.2.2.1, ?_⟩
  rw [e]
  exact this
theorem RepC.gG (R : RepC h0 N M h w c l) : rG h (c.1 21).toNat c.2.2.2.2 := R.2.2.2.2.2.2.1
theorem RepC.gC (R : RepC h0 N M h w c l) : zI h 131 10 = c.1 22 := R.v 22 (by decide) (Or.inl (by decide))
theorem x_alike (R : RepC h0 N M h w c l) (hQ : ∀ b : Int, (b = 0 ∨ b = 1) → (b = 1 ↔ likeX c.2.1 (newN c).1) → Q (some (.inl b)) h) : zE 90 0 [some (.inr 2)] [] h Q := by
  have hc := R.1
  have h16 : zR h 384 15 = 16 := hc.r384_15
  obtain ⟨t, e1, e2, e3, e4, e5, ⟨⟨e6, e7, e8⟩, e9⟩, e10⟩ := R.tN
  obtain ⟨x1, x2, x3⟩ := R.2.2.1
  change ∀ k, k < 192 → _ = (newN c).1.1 k at e6
  change _ = (newN c).1.2.1 at e7
  change _ = (newN c).1.2.2 at e8
  rw [wX10_alike_0 hc, e1, e3]
  refine ⟨e2, e4.1, c_isLike e4 R.s15 fun b hb hi => ?_⟩
  simp only [Option.toList_some, List.cons_append, List.nil_append]
  rw [wX10_alike_23 hc]
  refine ⟨hb, hQ b hb (hi.trans ?_)⟩
  unfold likeX
  rw [e7, e8, x2, x3]
  constructor
  · rintro ⟨a, b, d⟩
    exact ⟨fun k hk => by rw [← x1 k hk, ← a k hk, e6 k hk], b.symm, d.symm⟩
  · rintro ⟨a, b, d⟩
    exact ⟨fun k hk => by rw [x1 k hk, e6 k hk, a k hk], b.symm, d.symm⟩
theorem x_state {e k : Int} (R : RepC h0 N M h w c l) (hQ : Q (some (.inl (stateA c e k))) h) : zE 91 0 [some (.inr 2), some (.inl e), some (.inl k)] [] h Q := by
  have hc := R.1
  unfold stateA at hQ
  rw [wX10_state_0 hc]
  by_cases q : e = 0
  · rw [if_pos q] at hQ
    rw [if_neg (fun z => z q), wX10_state_4 hc]
    obtain ⟨t, e1, e2, e3, e4, e5, ⟨_, e6, _⟩, _⟩ := R.tN
    refine c_Nreport hc.k3 hc.r321_3 hc.k5 e1 e2 (R.v 13 (by decide) (Or.inl (by decide))) (R.v 14 (by decide) (Or.inl (by decide))) e6 (R.v 20 (by decide) (Or.inl (by decide))) (R.v 16 (by decide) (Or.inl (by decide))) (R.v 17 (by decide) (Or.inl (by decide))) (R.v 18 (by decide) (Or.inl (by decide))) (R.v 19 (by decide) (Or.inl (by decide))) ?_
    simp only [Option.toList_some, List.cons_append, List.nil_append]
    rw [wX10_state_12 hc]
    exact hQ
  · rw [if_neg q] at hQ
    rw [if_pos q, wX10_state_13 hc]
    by_cases q1 : e = 1
    · rw [if_pos q1] at hQ
      rw [if_neg (fun z => z q1), wX10_state_18 hc]
      obtain ⟨t, e1, e2, e3, e4, e5, ⟨_, e6, _⟩, _⟩ := R.tF
      refine c_Freport hc.k14 hc.r1_14 hc.k17 e1 e2 (R.v 6 (by decide) (Or.inl (by decide))) (R.v 7 (by decide) (Or.inl (by decide))) e6 (R.v 12 (by decide) (Or.inl (by decide))) (R.v 9 (by decide) (Or.inl (by decide))) (R.v 10 (by decide) (Or.inl (by decide))) (R.v 11 (by decide) (Or.inl (by decide))) (R.v 4 (by decide) (Or.inl (by decide))) ?_
      simp only [Option.toList_some, List.cons_append, List.nil_append]
      rw [wX10_state_26 hc, wX10_state_30 hc]
      exact hQ
    · rw [if_neg q1] at hQ
      rw [if_pos q1, wX10_state_29 hc, wX10_state_30 hc]
      exact hQ
theorem x_kept {e i : Int} (R : RepC h0 N M h w c l) (hQ : Q (some (.inl (keptA c e i))) h) {l3 : Option zV} : zE 92 0 [some (.inr 2), some (.inl e), some (.inl i), l3] [] h Q := by
  have hc := R.1
  have n20 := R.n20
  have n12 := R.n12
  unfold keptA at hQ
  rw [wX10_kept_0 hc]
  have e40 : ∀ {ra n : Nat} {S : Nat → sT} {so : Nat} {V : Int}, cS h w so ra n S → V = n → Q (some (.inl (if 0 ≤ i ∧ i < V then (S i.toNat).2.1 else -1))) h → zE 92 40 [some (.inr 2), some (.inl e), some (.inl i), l3] [.inr (if 0 ≤ i ∧ i < n then zB h ra i.toNat else 0)] h Q := by
    intro ra n S so V hS hV hq
    subst hV
    rw [wX10_kept_40 hc]
    by_cases z : 0 ≤ i ∧ i < (n : Int)
    · obtain ⟨t1, _, _, _, ⟨_, t2, _⟩, _, t3⟩ := cS_row hS (i := i.toNat) (by omega)
      rw [if_pos z] at hq ⊢
      rw [if_pos t3, wX10_kept_49 hc, wX10_kept_53 hc, t2]
      exact ⟨t1, hq⟩
    · rw [if_neg z] at hq ⊢
      rw [if_neg (by omega), wX10_kept_45 hc, wX10_kept_53 hc]
      exact hq
  by_cases q : e = 0
  · subst q
    have hq : Q (some (.inl (if 0 ≤ i ∧ i < c.1 20 then (c.2.2.1 0 i.toNat).2.1 else -1))) h := by
      by_cases z : 0 ≤ i ∧ i < c.1 20
      · rw [if_pos ⟨rfl, z⟩] at hQ; rw [if_pos z]; exact hQ
      · rw [if_neg (fun y => z y.2), if_neg (by omega)] at hQ; rw [if_neg z]; exact hQ
    rw [if_neg (by omega), wX10_kept_4 hc, if_pos (by omega), wX10_kept_11 hc, if_neg (by omega), wX10_kept_15 hc]
    refine c_SFind R.rN ?_
    simp only [Option.toList_some, List.cons_append, List.nil_append]
    rw [wX10_kept_26 hc]
    exact e40 R.2.2.2.1 (by omega) hq
  · by_cases q1 : e = 1
    · subst q1
      have hq : Q (some (.inl (if 0 ≤ i ∧ i < c.1 12 then (c.2.2.1 1 i.toNat).2.1 else -1))) h := by
        rw [if_neg (by omega)] at hQ
        by_cases z : 0 ≤ i ∧ i < c.1 12
        · rw [if_pos ⟨rfl, z⟩] at hQ; rw [if_pos z]; exact hQ
        · rw [if_neg (fun y => z y.2)] at hQ; rw [if_neg z]; exact hQ
      rw [if_neg (by omega), wX10_kept_4 hc, if_pos (by omega), wX10_kept_11 hc, if_pos (by omega), wX10_kept_29 hc]
      refine c_SFind R.rF ?_
      simp only [Option.toList_some, List.cons_append, List.nil_append]
      exact e40 R.2.2.2.2.1 (by omega) hq
    · rw [if_neg (fun z => q z.1), if_neg (fun z => q1 z.1)] at hQ
      by_cases z : e < 0
      · rw [if_pos z, wX10_kept_9 hc]; exact hQ
      · rw [if_neg z, wX10_kept_4 hc, if_neg (by omega), wX10_kept_9 hc]; exact hQ
theorem x_guess {i k : Int} (R : RepC h0 N M h w c l) (hG : Good B c l) (hQ : Q (some (.inl (guessA c i k))) h) : zE 93 0 [some (.inr 2), some (.inl i), some (.inl k)] [] h Q := by
  have hc := R.1
  have gv := hG.1
  have hV : 0 ≤ c.1 21 := by unfold gV at gv; omega
  unfold guessA at hQ
  rw [wX10_guess_0 hc]
  refine c_GReport R.gG ?_
  simp only [Option.toList_some, List.cons_append, List.nil_append]
  rw [wX10_guess_12 hc, R.gC]
  have e : ((c.1 21).toNat : Int) = c.1 21 := by omega
  rw [e]
  exact hQ
theorem RepC.len0 (R : RepC h0 N M h w c l) : zI h 257 22 = (l 0).length := R.2.2.2.2.2.2.2.1.2.2.1
theorem RepC.len1 (R : RepC h0 N M h w c l) : zI h 257 24 = (l 1).length := R.2.2.2.2.2.2.2.2.1.2.2.1
theorem x_count {k : Int} (R : RepC h0 N M h w c l) (hQ : Q (some (.inl (countA c l k))) h) : zE 95 0 [some (.inr 2), some (.inl k)] [] h Q := by
  have hc := R.1
  unfold countA at hQ
  rw [wX10_count_0 hc]
  by_cases z : 0 ≤ k ∧ k < 7
  · rw [if_pos (by omega)] at hQ
    rw [if_neg (by omega), wX10_count_4 hc, if_neg (by omega), wX10_count_10 hc]
    refine ⟨z, ?_⟩
    rw [R.2.1.2 _ (by omega)]
    exact hQ
  · have e17 : zE 95 17 [some (.inr 2), some (.inl k)] [] h Q := by
      rw [wX10_count_17 hc]
      by_cases y : k < 7 ∨ 15 < k
      · rw [if_pos y, wX10_count_155 hc]
        rw [if_neg (by omega), if_neg (by omega), if_neg (by omega), if_neg (by omega), if_neg (by omega), if_neg (by omega), if_neg (by omega)] at hQ
        exact hQ
      · rw [if_neg y]
        have : k = 7 ∨ k = 8 ∨ k = 9 ∨ k = 10 ∨ k = 11 ∨ k = 12 ∨ k = 13 ∨ k = 14 ∨ k = 15 := by omega
        rcases this with q | q | q | q | q | q | q | q | q <;> subst q
        · show zE 95 68 [some (.inr 2), some (.inl 7)] [] h Q
          have hv : zI h 132 10 = c.1 31 := R.v 31 (by decide) (Or.inr (by decide))
          rw [wX10_count_68 hc, hv]; exact hQ
        · show zE 95 79 [some (.inr 2), some (.inl 8)] [] h Q
          have hv : zI h 133 10 = c.1 32 := R.v 32 (by decide) (Or.inr (by decide))
          rw [wX10_count_79 hc, hv]; exact hQ
        · show zE 95 90 [some (.inr 2), some (.inl 9)] [] h Q
          have hv : zI h 134 10 = c.1 33 := R.v 33 (by decide) (Or.inr (by decide))
          rw [wX10_count_90 hc, hv]; exact hQ
        · show zE 95 101 [some (.inr 2), some (.inl 10)] [] h Q
          have hv : zI h 582 2 = c.1 0 := R.v 0 (by decide) (Or.inl (by decide))
          rw [wX10_count_101 hc, hv]; exact hQ
        · show zE 95 106 [some (.inr 2), some (.inl 11)] [] h Q
          have hv : zI h 129 10 = c.1 21 := R.v 21 (by decide) (Or.inl (by decide))
          rw [wX10_count_106 hc, hv]; exact hQ
        · show zE 95 117 [some (.inr 2), some (.inl 12)] [] h Q
          have hv : zI h 131 10 = c.1 22 := R.v 22 (by decide) (Or.inl (by decide))
          rw [wX10_count_117 hc, hv]; exact hQ
        · show zE 95 128 [some (.inr 2), some (.inl 13)] [] h Q
          have hv : zI h 130 10 = c.1 23 := R.v 23 (by decide) (Or.inl (by decide))
          rw [wX10_count_128 hc, hv]; exact hQ
        · show zE 95 139 [some (.inr 2), some (.inl 14)] [] h Q
          rw [wX10_count_139 hc, R.len0]; exact hQ
        · show zE 95 147 [some (.inr 2), some (.inl 15)] [] h Q
          rw [wX10_count_147 hc, R.len1]; exact hQ
    by_cases y : k < 0
    · rw [if_pos y]; exact e17
    · rw [if_neg y, wX10_count_4 hc, if_pos (by omega)]; exact e17
theorem cL_let {ln la k : Nat} {xs : List (List Int)} (hL : cL h w ln la xs) (hk : k < xs.length) : (zK h (zB h la k)).1 = 13 ∧ zB h la k ≠ 0 ∧ isL h (zB h la k) (zK h (zR h 192 (zB h la k))).2 (xs.getD k []) ∧ ltOK h w la (zB h la k) := by
  obtain ⟨s1, s2, s3, s4, s5⟩ := hL
  obtain ⟨a1, b1, b2, b3⟩ := s5 k hk
  have ht := s1 k (by omega) a1
  have ht' := ht
  obtain ⟨t1, t2, t3, t4, t5, t6, t7⟩ := ht'
  refine ⟨t1, a1, ⟨⟨t1, ?_, t5⟩, b1, b2, b3⟩, ht⟩
  rw [← t4]
theorem x_lineOf {i : Int} (R : RepC h0 N M h w c l) (hQ : Q (some (.inr (if i = 0 then 22 else if i = 1 then 24 else 0))) h) : zE 100 0 [some (.inr 2), some (.inl i)] [] h Q := by
  have hc := R.1
  rw [wX10_lineOf_0 hc]
  by_cases q : i = 0
  · rw [if_pos q] at hQ
    rw [if_neg (fun z => z q), wX10_lineOf_4 hc]; exact hQ
  · rw [if_neg q] at hQ
    rw [if_pos q, wX10_lineOf_9 hc]
    by_cases q1 : i = 1
    · rw [if_pos q1] at hQ
      rw [if_neg (fun z => z q1), wX10_lineOf_14 hc, wX10_lineOf_22 hc]; exact hQ
    · rw [if_neg q1] at hQ
      rw [if_pos q1, wX10_lineOf_21 hc, wX10_lineOf_22 hc]; exact hQ
theorem x_letter_t {ln la : Nat} {xs : List (List Int)} {k v : Int} {l1 l5 : Option zV} (hc : cOK h) (hL : cL h w ln la xs) (h14 : (zK h ln).1 = 14) (ha : zR h 256 ln = la) (hka : zK h la = (3, 40)) (hln : ln ≠ 0) (hv2 : v < 2147483648)
    (hQ : Q (some (.inl (if 0 ≤ k ∧ k < (xs.length : Nat) then (if v < 0 then -1 else if v = 0 then (xs.getD k.toNat []).length else (xs.getD k.toNat []).getD (v - 1).toNat (-1)) else -1))) h) {l4 : Option zV} : zE 94 5 [some (.inr 2), l1, some (.inl k), some (.inl v), l4, l5] [.inr ln] h Q := by
  rw [wX10_letter_5 hc, if_pos hln, wX10_letter_16 hc]
  refine ⟨h14, c_LnFind h14 ha hka hL.2.2.1 hL.2.2.2.1 ?_⟩
  simp only [Option.toList_some, List.cons_append, List.nil_append]
  rw [wX10_letter_22 hc]
  by_cases z : 0 ≤ k ∧ k < (xs.length : Nat)
  · obtain ⟨t1, t2, t3, _⟩ := cL_let hL (k := k.toNat) (by omega)
    rw [if_pos z] at hQ
    rw [if_pos z, if_neg t2, wX10_letter_29 hc]
    by_cases y : v < 0
    · rw [if_pos y] at hQ
      rw [if_neg (by omega), wX10_letter_33 hc]; exact hQ
    · rw [if_neg y] at hQ
      rw [if_pos (by omega), wX10_letter_35 hc]
      by_cases x : v = 0
      · rw [if_pos x] at hQ
        rw [if_neg (fun z => z x), wX10_letter_39 hc, wX10_letter_55 hc, t3.2.1]
        exact ⟨t1, hQ⟩
      · rw [if_neg x] at hQ
        rw [if_pos x, wX10_letter_47 hc, zw_eq (by omega) (by omega)]
        refine ⟨t1, c_Lat t3 ?_⟩
        simp only [Option.toList_some, List.cons_append, List.nil_append]
        rw [wX10_letter_55 hc, if_neg (by omega)]
        exact hQ
  · rw [if_neg z] at hQ
    rw [if_neg z, if_pos rfl, wX10_letter_33 hc]; exact hQ
theorem x_letter {line k v : Int} (R : RepC h0 N M h w c l) (hv2 : v < 2147483648) (hQ : Q (some (.inl (letterA l line k v))) h) {l4 l5 : Option zV} : zE 94 0 [some (.inr 2), some (.inl line), some (.inl k), some (.inl v), l4, l5] [] h Q := by
  have hc := R.1
  unfold letterA at hQ
  rw [wX10_letter_0 hc]
  refine x_lineOf R ?_
  simp only [Option.toList_some, List.cons_append, List.nil_append]
  by_cases q : line = 0
  · subst q
    rw [if_pos rfl]
    refine x_letter_t hc R.2.2.2.2.2.2.2.1 hc.k22 hc.r256_22 hc.k23 (by decide) hv2 ?_
    by_cases z : 0 ≤ k ∧ k < ((l 0).length : Nat)
    · rw [if_pos z]; rw [if_pos ⟨Or.inl rfl, z⟩] at hQ; exact hQ
    · rw [if_neg z]; rw [if_neg (fun y => z y.2)] at hQ; exact hQ
  · rw [if_neg q]
    by_cases q1 : line = 1
    · subst q1
      rw [if_pos rfl]
      refine x_letter_t hc R.2.2.2.2.2.2.2.2.1 hc.k24 hc.r256_24 hc.k25 (by decide) hv2 ?_
      by_cases z : 0 ≤ k ∧ k < ((l 1).length : Nat)
      · rw [if_pos z]; rw [if_pos ⟨Or.inr rfl, z⟩] at hQ; exact hQ
      · rw [if_neg z]; rw [if_neg (fun y => z y.2)] at hQ; exact hQ
    · rw [if_neg q1, wX10_letter_5 hc, if_neg (fun z => z rfl), wX10_letter_12 hc, wX10_letter_22 hc, if_pos rfl, wX10_letter_33 hc]
      rw [if_neg (fun z => z.1.elim q q1)] at hQ
      exact hQ
end cAsk
