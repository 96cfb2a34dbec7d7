/-! THE CLASS'S CALLS: a letter carried -/
section cCarry
variable {h0 h h' : zH} {N M N' M' : Nat} {w w' : Nat → Nat} {c : cg} {l : lg} {Q : Option zV → zH → Prop} {B : Int} {q m la ln j : Nat} {xs : List Int}
theorem zsA_same {a i : Nat} {v : Int} (e : zA h a i = v) : zsA h a i v = h := by
  have e2 : (fun x y => if x = a ∧ y = i then v else zA h x y) = zA h := by
    funext x y
    by_cases z : x = a ∧ y = i
    · rw [if_pos z, z.1, z.2, e]
    · rw [if_neg z]
  show (zK h, zI h, zR h, (fun x y => if x = a ∧ y = i then v else zA h x y), zB h, zn h, zs h) = h
  rw [e2]
  rfl
theorem c_canCarry {how arg : Int} (hk : (zK h q).1 = 13) (ha : arg < 2147483648) (hQ : ∀ b : Int, (b = 0 ∨ b = 1) → (b = 1 ↔ (0 ≤ how ∧ how ≤ 2) ∨ (how = 3 ∧ 0 ≤ arg ∧ arg / 256 < zI h 193 q)) → Q (some (.inl b)) h) : zE 101 0 [some (.inr q), some (.inl how), some (.inl arg)] [] h Q := by
  have no := hQ 0 (Or.inl rfl)
  have ye := hQ 1 (Or.inr rfl)
  rw [xX10_canCarry_0]
  by_cases z : how = 3
  · rw [if_neg (fun y => y z), xX10_canCarry_5]
    by_cases y : arg < 0
    · rw [if_pos y, xX10_canCarry_25, xX10_canCarry_26]
      exact ⟨Or.inl rfl, no (by omega)⟩
    · rw [if_neg y, xX10_canCarry_9, tdiv_pos (by omega), zw_eq (by omega) (by omega)]
      refine ⟨by decide, hk, ?_⟩
      by_cases x : zI h 193 q ≤ arg / 256
      · rw [if_pos x, xX10_canCarry_25, xX10_canCarry_26]
        exact ⟨Or.inl rfl, no (by show (0 : Int) = 1 ↔ _ ∨ (how = 3 ∧ 0 ≤ arg ∧ arg / 256 < zI h 193 q); omega)⟩
      · rw [if_neg x, xX10_canCarry_21, xX10_canCarry_26]
        exact ⟨Or.inr rfl, ye (by show (1 : Int) = 1 ↔ _ ∨ (how = 3 ∧ 0 ≤ arg ∧ arg / 256 < zI h 193 q); omega)⟩
  · rw [if_pos z, xX10_canCarry_27]
    by_cases y : how < 0
    · rw [if_pos y, xX10_canCarry_40, xX10_canCarry_41]
      exact ⟨Or.inl rfl, no (by omega)⟩
    · rw [if_neg y, xX10_canCarry_31]
      by_cases x : 2 < how
      · rw [if_pos x, xX10_canCarry_40, xX10_canCarry_41]
        exact ⟨Or.inl rfl, no (by omega)⟩
      · rw [if_neg x, xX10_canCarry_36, xX10_canCarry_41]
        exact ⟨Or.inr rfl, ye (by omega)⟩
theorem ltOK_out {k n : Nat} {v : Int} {g : Nat → Nat} (h1 : ltOK h w la q) : ltOK (zsI (zBs h la g) 257 ln v) w la q := h1
/-- behind the taking out -/
theorem x_carry_e {k : Nat} {how hid : Int} {l2 : lg} {l4 : Option zV} {ka : Option zV} (hln : (ln = 22 ∧ la = 23 ∧ j = 0) ∨ (ln = 24 ∧ la = 25 ∧ j = 1)) (R : RepC h0 N M h w c l2) (hG : Good B c l2) (hB : B ≤ 60000) (hL : isL h q m xs) (hlt : ltOK h w la q)
    (hq1 : how = 1 → ∀ h', RepC h0 (N + 4) (M + 205) h' w (vS c 26 (c.1 26 + 1)) l2 → Q (some (.inl ((l2 j).length : Nat))) h')
    (hq2 : how ≠ 1 → hid = 0 ∧ letJ (c.1 13) j xs ∧ (∀ h' w', RepC h0 (N + 4) (M + 205) h' w' (takenS c j xs) l2 → Q (some (.inl ((l2 j).length : Nat))) h') ∨ ((byteL xs ∧ 10 ≤ xs.length ∧ ¬ wholeL (kindL j) xs) ∧ ∀ h' w', RepC h0 (N + 4) (M + 205) h' w' (vS c 27 (c.1 27 + 1)) l2 → Q (some (.inl ((l2 j).length : Nat))) h')) :
    zE 86 85 [some (.inr 2), some (.inl (j : Int)), ka, some (.inl how), l4, some (.inr ln), some (.inr q), some (.inl hid)] [] h Q := by
  have hc := R.1
  have gv := hG.1
  have hj : j < 2 := by omega
  have hV : 0 ≤ c.1 26 ∧ c.1 26 ≤ B := by unfold gV at gv; omega
  have e112 : ∀ {h' : zH} {w' : Nat → Nat} {c' : cg} {N' M' : Nat}, RepC h0 N' M' h' w' c' l2 → Q (some (.inl ((l2 j).length : Nat))) h' → zE 86 112 [some (.inr 2), some (.inl (j : Int)), ka, some (.inl how), l4, some (.inr ln), some (.inr q), some (.inl hid)] [] h' Q := by
    intro h' w' c' N' M' R' q'
    obtain ⟨a0, a1, _⟩ := R'.lj hln
    rw [wX10_carry_112 R'.1]
    have := a0.2.2.1
    rw [show zI h' 257 ln = ((l2 j).length : Nat) from this]
    exact ⟨a1, q'⟩
  rw [wX10_carry_85 hc]
  by_cases z : how = 1
  · have u : zA h 28 2 = c.1 26 := R.2.1.2 2 (by decide)
    have R1 := R.sT (i := 2) (v := c.1 26 + 1) (by decide)
    rw [if_neg (fun y => y z), wX10_carry_90 hc, u, zw_eq (by omega) (by omega), wX10_carry_100 R1.1]
    exact e112 R1 (hq1 z _ (R1.mono (by omega) (by omega)))
  · rw [if_pos z, wX10_carry_103 hc]
    rcases hq2 z with ⟨e1, e2, e3⟩ | ⟨⟨e1, e2, e3⟩, e4⟩
    · subst e1
      refine x_deliver hj R hG (by omega) hL hlt e2 fun h' w' R' => ?_
      simp only [Option.toList_none, List.nil_append]
      exact e112 R' (e3 h' w' (R'.mono (by omega) (by omega)))
    · refine x_deliver_b hj R hG (by omega) hL (by have := hlt.2.1.1; omega) e1 e2 e3 fun h' R' => ?_
      simp only [Option.toList_none, List.nil_append]
      exact e112 R' (e4 h' w (R'.mono (by omega) (by omega)))
theorem out_set {k : Nat} {ys : List Int} : outL (fun i => if i = j then (l j).set k ys else l i) j k = outL l j k := by
  funext i
  unfold outL
  by_cases z : i = j
  · rw [if_pos z, if_pos z]
    show (if j = j then (l j).set k ys else l j).eraseIdx k = _
    rw [if_pos rfl, List.eraseIdx_set_eq]
  · rw [if_neg z, if_neg z]
    show (if i = j then (l j).set k ys else l i) = _
    rw [if_neg z]
theorem x_carry_j {k : Nat} {how arg : Int} (hln : (ln = 22 ∧ la = 23 ∧ j = 0) ∨ (ln = 24 ∧ la = 25 ∧ j = 1)) (R : RepC h0 N M h w c l) (hG : Good B c l) (hB : B ≤ 60000) (ha : arg < 2147483648) (hk : k < (l j).length)
    (hN : ¬ ((0 ≤ how ∧ how ≤ 3) ∧ (how = 3 → 0 ≤ arg ∧ arg / 256 < (((l j).getD k []).length : Nat))) → Q (some (.inl (-1))) h)
    (hQ : (0 ≤ how ∧ how ≤ 3) ∧ (how = 3 → 0 ≤ arg ∧ arg / 256 < (((l j).getD k []).length : Nat)) → ∀ h' w', RepC h0 (N + 4) (M + 205) h' w' (carryC c l j k how arg) (carryL l j k how) → Q (some (.inl ((carryL l j k how j).length : Nat))) h') {l7 : Option zV} :
    zE 86 29 [some (.inr 2), some (.inl (j : Int)), some (.inl (k : Int)), some (.inl how), some (.inl arg), some (.inr ln), some (.inr (zB h la k)), l7] [] h Q := by
  have hc := R.1
  have gv := hG.1
  have hj : j < 2 := by omega
  have hT : c.1 13 ≤ 1000 := by unfold gV at gv; omega
  obtain ⟨a0, a1, a2, a3, a4, a5, a6⟩ := R.lj hln
  obtain ⟨t1, t2, t3, t4⟩ := cL_let a0 hk
  have hlet := hG.letJ hj hk
  obtain ⟨lb, lw, l10, l1010⟩ := letJ_b hlet hT
  have h40 : (l j).length ≤ 40 := a0.2.2.2.1
  rw [wX10_carry_29 hc]
  refine c_canCarry t1 ha fun b hb hb2 => ?_
  simp only [Option.toList_some, List.cons_append, List.nil_append]
  rw [show zI h 193 (zB h la k) = (((l j).getD k []).length : Nat) from t3.2.1] at hb2
  rw [wX10_carry_37 hc]
  by_cases ok : (0 ≤ how ∧ how ≤ 3) ∧ (how = 3 → 0 ≤ arg ∧ arg / 256 < (((l j).getD k []).length : Nat))
  case neg =>
    rw [if_neg (by
      have : b ≠ 1 := fun z => ok (by
        rcases hb2.1 z with y | y
        · exact ⟨by omega, fun x => by omega⟩
        · exact ⟨by omega, fun _ => y.2⟩)
      omega), wX10_carry_40 hc]
    exact hN ok
  have hb1 : b = 1 := hb2.2 (by
    by_cases z : how = 3
    · exact Or.inr ⟨z, ok.2 z⟩
    · exact Or.inl (by have := ok.1; omega))
  have hQ' := hQ ok
  rw [if_pos (by omega), wX10_carry_42 hc]
  -- a letter that is not bent
  have e71 : ¬ (how = 3 ∧ arg % 256 ≠ 0) → zE 86 71 [some (.inr 2), some (.inl (j : Int)), some (.inl (k : Int)), some (.inl how), some (.inl arg), some (.inr ln), some (.inr (zB h la k)), l7] [] h Q := by
    intro nb
    rw [wX10_carry_71 hc, wX10_carry_72 hc]
    unfold carryC carryL at hQ'
    by_cases z2 : how = 2
    · rw [if_pos z2, if_neg (by omega), if_neg nb] at hQ'
      rw [if_pos z2]
      exact x_carry_e (k := k) hln R hG hB t3 t4 (fun z => by omega) (fun _ => Or.inl ⟨rfl, hlet, hQ'⟩)
    · rw [if_neg z2] at hQ'
      rw [if_neg z2, wX10_carry_79 hc]
      refine ⟨a1, c_LnOut a1 a2 a3 a0.2.2.1 h40 hk (fun i hi => (cL_let a0 hi).1) ?_⟩
      simp only [Option.toList_none, List.nil_append]
      have R1 := R.out hln hk
      refine x_carry_e (k := k) hln R1 (hG.out hj) hB (isL_sI t3 (by decide)) (ltOK_out (k := 0) (n := 0) t4) (fun z => ?_) (fun z => Or.inl ⟨rfl, hlet, ?_⟩)
      · rw [if_pos z] at hQ'
        exact fun h' => hQ' h' w
      · rw [if_neg z, if_neg nb] at hQ'
        exact hQ'
  by_cases z3 : how = 3
  case neg =>
    rw [if_pos z3]
    exact e71 (fun z => z3 z.1)
  have ok3 := ok.2 z3
  obtain ⟨i, hi⟩ : ∃ n : Nat, arg / 256 = n := ⟨(arg / 256).toNat, by omega⟩
  have bi := lb.at (i := i) (by omega)
  obtain ⟨x1, x2, x3⟩ := zxor_b (x := ((l j).getD k []).getD i (-1)) (y := arg % 256) bi (by omega)
  rw [if_neg (fun y => y z3), wX10_carry_47 hc, tdiv_pos (by omega), tmod_pos (by omega), zw_eq (x := arg / 256) (by omega) (by omega), zw_eq (x := arg % 256) (by omega) (by omega), hi]
  refine ⟨t1, c_Lbend t3 (by omega) ?_⟩
  simp only [Option.toList_some, List.cons_append, List.nil_append]
  by_cases z0 : arg % 256 = 0
  · have e0 : zA h (zR h 192 (zB h la k)) i = ((l j).getD k []).getD i (-1) := t3.2.2.2.at (by omega)
    rw [x3 z0, zsA_same e0, wX10_carry_64 hc, if_pos z0, if_pos rfl]
    exact e71 (fun z => z.2 z0)
  · have R1 := R.bend (i := i) (v := zxor (((l j).getD k []).getD i (-1)) (arg % 256)) hln hk rfl
    unfold carryC carryL at hQ'
    rw [if_neg (show ¬ how = 2 by omega), if_neg (show ¬ how = 1 by omega), if_pos ⟨z3, z0⟩] at hQ'
    have t3' : isL (zsA h (zR h 192 (zB h la k)) i (zxor (((l j).getD k []).getD i (-1)) (arg % 256))) (zB h la k) (zK h (zR h 192 (zB h la k))).2 (((l j).getD k []).set i (zxor (((l j).getD k []).getD i (-1)) (arg % 256))) := by
      refine ⟨t3.1, by rw [List.length_set]; exact t3.2.1, by rw [List.length_set]; exact t3.2.2.1, ?_⟩
      have := isLs_set (i := i) (v := zxor (((l j).getD k []).getD i (-1)) (arg % 256)) t3.2.2.2
      intro b v hv
      have e := this b v hv
      show zA (zsA h (zR h 192 (zB h la k)) i (zxor (((l j).getD k []).getD i (-1)) (arg % 256))) (zR h 192 (zB h la k)) b = v
      rw [zA_sA]
      unfold fup at e
      by_cases y : b = i
      · rw [if_pos y] at e
        rw [if_pos ⟨rfl, y⟩]
        exact e
      · rw [if_neg y] at e
        rw [if_neg (fun z => y z.2)]
        exact e
    have t4' : ltOK (zsA h (zR h 192 (zB h la k)) i (zxor (((l j).getD k []).getD i (-1)) (arg % 256))) w la (zB h la k) := t4
    have hbz : zB (zsA h (zR h 192 (zB h la k)) i (zxor (((l j).getD k []).getD i (-1)) (arg % 256))) la k = zB h la k := rfl
    generalize zsA h (zR h 192 (zB h la k)) i (zxor (((l j).getD k []).getD i (-1)) (arg % 256)) = h1 at R1 t3' t4' hbz ⊢
    generalize hl1 : (fun m => if m = j then (l j).set k (((l j).getD k []).set i (zxor (((l j).getD k []).getD i (-1)) (arg % 256))) else l m) = l1 at R1
    have elen : (l1 j).length = (l j).length := by rw [← hl1]; show (if j = j then _ else _ : List (List Int)).length = _; rw [if_pos rfl, List.length_set]
    have eout : outL l1 j k = outL l j k := by rw [← hl1]; exact out_set
    obtain ⟨b0, b1, b2, b3, _⟩ := R1.lj hln
    rw [if_neg z0, wX10_carry_64 R1.1, if_neg (by decide), wX10_carry_67 R1.1, wX10_carry_72 R1.1, if_neg (by omega), wX10_carry_79 R1.1]
    refine ⟨b1, c_LnOut (n := (l1 j).length) b1 b2 b3 b0.2.2.1 (by omega) (by omega) (fun i hi => (cL_let b0 hi).1) ?_⟩
    simp only [Option.toList_none, List.nil_append]
    have R2 := R1.out hln (k := k) (by omega)
    rw [eout] at R2
    refine x_carry_e (k := k) hln R2 (hG.out hj) hB (isL_sI t3' (by decide)) (ltOK_out (k := 0) (n := 0) t4') (fun z => by omega) (fun z => Or.inr ⟨⟨byteL_set lb x1, by rw [List.length_set]; exact l10, bent_no lb (by omega) (by omega) lw x1 (x2 z0)⟩, hQ'⟩)
theorem x_carry {line k how arg : Int} (R : RepC h0 N M h w c l) (hG : Good B c l) (hB : B ≤ 60000) (ha : arg < 2147483648)
    (hQ : ∀ h' w', RepC h0 (N + 4) (M + 205) h' w' (carryS c l line k how arg).1 (carryS c l line k how arg).2 → Q (some (.inl (carryA l line k how arg))) h') {l5 l6 l7 : Option zV} :
    zE 86 0 [some (.inr 2), some (.inl line), some (.inl k), some (.inl how), some (.inl arg), l5, l6, l7] [] h Q := by
  have hc := R.1
  unfold carryS carryA at hQ
  have no : ∀ (l5 l6 l7 : Option zV), ¬ carryOK l line k how arg → zE 86 40 [some (.inr 2), some (.inl line), some (.inl k), some (.inl how), some (.inl arg), l5, l6, l7] [] h Q := by
    intro l5 l6 l7 z
    rw [pif_neg z, pif_neg z] at hQ
    rw [wX10_carry_40 hc]
    exact hQ h w (R.mono (by omega) (by omega))
  have go : ∀ {ln la j : Nat}, ((ln = 22 ∧ la = 23 ∧ j = 0) ∨ (ln = 24 ∧ la = 25 ∧ j = 1)) → line = j → zE 86 5 [some (.inr 2), some (.inl line), some (.inl k), some (.inl how), some (.inl arg), l5, l6, l7] [.inr ln] h Q := by
    intro ln la j hln hline
    subst hline
    have hj : j < 2 := by omega
    obtain ⟨a0, a1, a2, a3, a4, a5, a6⟩ := R.lj hln
    rw [wX10_carry_5 hc, if_pos (by omega), wX10_carry_16 hc]
    refine ⟨a1, c_LnFind a1 a2 a3 a0.2.2.1 a0.2.2.2.1 ?_⟩
    simp only [Option.toList_some, List.cons_append, List.nil_append]
    rw [wX10_carry_22 hc]
    by_cases z : 0 ≤ k ∧ k < ((l j).length : Nat)
    · obtain ⟨k', rfl⟩ : ∃ n : Nat, k = n := ⟨k.toNat, by omega⟩
      have t2 := (cL_let a0 (k := k') (by omega)).2.1
      rw [if_pos z, Int.toNat_natCast, if_neg t2]
      have ecar : carryOK l (j : Int) (k' : Int) how arg ↔ (0 ≤ how ∧ how ≤ 3) ∧ (how = 3 → 0 ≤ arg ∧ arg / 256 < (((l j).getD k' []).length : Nat)) := by
        unfold carryOK
        rw [Int.toNat_natCast, Int.toNat_natCast]
        constructor
        · exact fun y => y.2.2
        · exact fun y => ⟨by omega, z, y⟩
      refine x_carry_j hln R hG hB ha (by omega) ?_ ?_
      · intro nk
        have nk' : ¬ carryOK l (j : Int) (k' : Int) how arg := fun y => nk (ecar.1 y)
        rw [pif_neg nk', pif_neg nk'] at hQ
        exact hQ h w (R.mono (by omega) (by omega))
      · intro ok
        have ok' := ecar.2 ok
        rw [pif_pos ok', pif_pos ok', Int.toNat_natCast, Int.toNat_natCast] at hQ
        exact hQ
    · rw [if_neg z, if_pos rfl]
      exact no _ _ _ (fun y => z (by have := y.2.1; rw [Int.toNat_natCast] at this; exact this))
  rw [wX10_carry_0 hc]
  refine x_lineOf R ?_
  simp only [Option.toList_some, List.cons_append, List.nil_append]
  by_cases z0 : line = 0
  · rw [if_pos z0]
    exact go (Or.inl ⟨rfl, rfl, rfl⟩) z0
  · rw [if_neg z0]
    by_cases z1 : line = 1
    · rw [if_pos z1]
      exact go (Or.inr ⟨rfl, rfl, rfl⟩) z1
    · rw [if_neg z1, wX10_carry_5 hc, if_neg (fun y => y rfl), wX10_carry_12 hc, wX10_carry_22 hc, if_pos rfl]
      exact no _ _ _ (fun y => y.1.elim z0 z1)
end cCarry
