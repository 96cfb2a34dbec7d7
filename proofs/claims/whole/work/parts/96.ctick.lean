/-! THE CLASS'S CALLS: a tick -/
section cTick
variable {h0 h h' : zH} {N M N' M' : Nat} {w w' : Nat → Nat} {c : cg} {l : lg} {Q : Option zV → zH → Prop} {B : Int} {ln la j : Nat} {ys : List Int}
theorem fnd_0 {f : Nat → Int} {v : Int} {n : Nat} (hn : 1 ≤ n) (h : f 0 = v) : fnd f v n 0 = some 0 := by
  obtain ⟨m, rfl⟩ : ∃ m, n = m + 1 := ⟨n - 1, by omega⟩
  unfold fnd
  rw [if_pos h]
theorem sndC_3 {a b d : Int} {n len i1 i2 i3 : Nat} (h1 : i1 < 24) (h2 : i2 < 24) (h3 : i3 < 24) (h12 : i1 ≠ i2) : sndC (vS (vS (vS c i1 a) i2 b) i3 d) n len = vS (vS (vS (sndC c n len) i2 b) i1 a) i3 d := by
  have e : ∀ k, 24 ≤ k → (vS (vS (vS c i1 a) i2 b) i3 d).1 k = c.1 k := fun k hk => by rw [vS_n (by omega), vS_n (by omega), vS_n (by omega)]
  unfold sndC
  rw [e 24 (by omega), e 25 (by omega), e 26 (by omega)]
  by_cases hn : n < 40
  · rw [if_pos hn, if_pos hn]
    refine Prod.ext (funext fun k => ?_) rfl
    simp only [vS, fup]
    by_cases q1 : k = 24
    · subst q1; simp only [if_neg (show (24 : Nat) ≠ 25 by decide), if_true, if_neg (show (24 : Nat) ≠ i1 by omega), if_neg (show (24 : Nat) ≠ i2 by omega), if_neg (show (24 : Nat) ≠ i3 by omega)]
    by_cases q2 : k = 25
    · subst q2; simp only [if_true, if_neg (show (25 : Nat) ≠ i1 by omega), if_neg (show (25 : Nat) ≠ i2 by omega), if_neg (show (25 : Nat) ≠ i3 by omega)]
    simp only [if_neg q1, if_neg q2]
    by_cases q3 : k = i3
    · simp only [if_pos q3]
    simp only [if_neg q3]
    by_cases q4 : k = i2
    · rw [if_pos q4, if_neg (by omega), if_pos q4]
    · rw [if_neg q4]
      by_cases q5 : k = i1
      · rw [if_pos q5, if_pos q5]
      · rw [if_neg q5, if_neg q5, if_neg q4]
  · rw [if_neg hn, if_neg hn]
    refine Prod.ext (funext fun k => ?_) rfl
    simp only [vS, fup]
    by_cases q1 : k = 24
    · subst q1; simp only [if_neg (show (24 : Nat) ≠ 25 by decide), if_neg (show (24 : Nat) ≠ 26 by decide), if_true, if_neg (show (24 : Nat) ≠ i1 by omega), if_neg (show (24 : Nat) ≠ i2 by omega), if_neg (show (24 : Nat) ≠ i3 by omega)]
    by_cases q2 : k = 25
    · subst q2; simp only [if_neg (show (25 : Nat) ≠ 26 by decide), if_true, if_neg (show (25 : Nat) ≠ i1 by omega), if_neg (show (25 : Nat) ≠ i2 by omega), if_neg (show (25 : Nat) ≠ i3 by omega)]
    by_cases q6 : k = 26
    · subst q6; simp only [if_true, if_neg (show (26 : Nat) ≠ i1 by omega), if_neg (show (26 : Nat) ≠ i2 by omega), if_neg (show (26 : Nat) ≠ i3 by omega)]
    simp only [if_neg q1, if_neg q2, if_neg q6]
    by_cases q3 : k = i3
    · simp only [if_pos q3]
    simp only [if_neg q3]
    by_cases q4 : k = i2
    · rw [if_pos q4, if_neg (by omega), if_pos q4]
    · rw [if_neg q4]
      by_cases q5 : k = i1
      · rw [if_pos q5, if_pos q5]
      · rw [if_neg q5, if_neg q5, if_neg q4]
theorem draft_is {g : Nat → Int} {f1 f2 f3 a1 a2 a3 : Nat} {v1 v2 v3 : Int} (hc : cOK h) (hg : isLs g ys) (hy : ys.length ≤ 1010) (p1 : f1 ≠ 193) (p2 : f2 ≠ 193) (p3 : f3 ≠ 193) : isL (zsI (zsI (zsI (zLet h 26 g (ys.length : Nat)) f1 a1 v1) f2 a2 v2) f3 a3 v3) 26 1010 ys := by
  have h27 : zR h 192 26 = 27 := hc.r192_26
  refine ⟨⟨hc.k26, ?_, by decide⟩, ?_, hy, ?_⟩
  · show zK h (zR h 192 26) = _
    rw [h27]; exact hc.k27
  · rw [zI_ne (Ne.symm p3), zI_ne (Ne.symm p2), zI_ne (Ne.symm p1), zI_Let_n]
  · show isLs (zA (zLet h 26 g (ys.length : Nat)) (zR h 192 26)) ys
    rw [zA_Let_s]
    exact hg
theorem lOK26 (hc : cOK h) : lOK h 26 1010 := ⟨hc.k26, by rw [show zR h 192 26 = 27 from hc.r192_26]; exact hc.k27, by decide⟩
/-- the far end's letter -/
theorem x_farSend (R : RepC h0 N M h w c l) (hG : Good B c l) (hB : B ≤ 60000) {x : Int} (hx : 0 ≤ x ∧ x ≤ 5) (hQ : ∀ h' w', RepC h0 (N + 2) (M + 1012) h' w' (farSend c l).1 (farSend c l).2 → zE 97 67 [some (.inr 2), some (.inl (x + ((farSend c l).1.1 24 - c.1 24)))] [] h' Q) :
    zE 97 19 [some (.inr 2), some (.inl x)] [] h Q := by
  have hc := R.1
  have gv := hG.1
  have n12 := R.n12
  have hV : (0 ≤ c.1 0 ∧ c.1 0 ≤ B) ∧ (0 ≤ c.1 7 ∧ c.1 7 + c.1 12 ≤ c.1 0 + 1) ∧ (0 ≤ c.1 11 ∧ c.1 11 ≤ 255) ∧ (0 ≤ c.1 13 ∧ c.1 13 ≤ 1000) ∧ (0 ≤ c.1 24 ∧ c.1 24 ≤ B) ∧ (0 ≤ c.1 25 ∧ c.1 25 ≤ 2000000000) ∧ (0 ≤ c.1 26 ∧ c.1 26 ≤ B) := by unfold gV at gv; omega
  have v0 : zI h 582 2 = c.1 0 := R.v 0 (by decide) (Or.inl (by decide))
  have v1 : zI h 583 2 = c.1 1 := R.v 1 (by decide) (Or.inl (by decide))
  have v2 : zI h 584 2 = c.1 2 := R.v 2 (by decide) (Or.inl (by decide))
  rw [wX10_runTick_19 hc, v0, v1, v2]
  refine x_Fdue R hG hB fun b hb hb2 => ?_
  simp only [Option.toList_some, List.cons_append, List.nil_append]
  rw [wX10_runTick_38 hc]
  unfold farSend at hQ
  by_cases hd : fDue (c.1 0) (c.1 1) (c.1 2) (c.1 9) (newF c).2.1 (c.1 8) (c.1 10) (c.1 7)
  case neg =>
    rw [pif_neg hd] at hQ
    rw [if_pos (by have : b ≠ 1 := fun z => hd (hb2.1 z); omega)]
    have := hQ h w (R.mono (by omega) (by omega))
    rw [show x + ((c, l).1.1 24 - c.1 24) = x by show x + (c.1 24 - c.1 24) = x; omega] at this
    exact this
  rw [pif_pos hd] at hQ
  have hb1 := hb2.2 hd
  rw [if_neg (by omega), wX10_runTick_41 hc, v0]
  obtain ⟨t, t1, t2, t3, t4, t5, t6, t7, t8⟩ := R.tF
  obtain ⟨n1, n2, n3, n4⟩ := hG.newF
  have hin := n1.1
  unfold s_in at hin
  have hfo := farB_ok hG (by omega)
  have hS := R.2.2.2.2.1
  obtain ⟨r1, r2, r3, r4, r5, r6, r7⟩ := cS_row hS (i := 0) (by omega)
  have hnum0 : (c.2.2.1 1 0).2.1 = c.1 7 := by have := (hG.2.2.1.1 0 (by omega)).2.1; omega
  have h27 : zR h 192 26 = 27 := hc.r192_26
  have ne27 : ∀ z, tOK h w 18 z → z + 2 ≠ 27 := by
    intro z hz
    have := hz.2.2.2.2.2.2.2.2
    omega
  have hdd : dDiff (zCells h (zB h 18 0 + 1)) (zCells h (t + 1)) = dDiff (c.2.2.1 1 0).1.1 (newF c).1.1 := dDiff_congr r5.1.1 t6.1.1
  refine c_compose (ad := c.1 11) (su := c.1 7) (nu := (newF c).2.1) (tk := (newF c).2.2) (r := (newF c).1.2.1) (c := (newF c).1.2.2) (m := 1010) (j := 0) (b := zB h 18 0 + 1) hc.k14 hc.r1_14 R.rF t1 t2 t3 t4 (lOK26 hc) (by decide)
    (R.v 11 (by decide) (Or.inl (by decide))) (R.v 7 (by decide) (Or.inl (by decide))) t6.2.1 t6.2.2 t6.1.2.1 t6.1.2.2 (by omega) (by omega) (by omega) (by omega) (by omega) (by omega)
    (fnd_0 (by omega) (r5.2.1.trans hnum0)) r2 r3 (by rw [r4, h27]; exact ne27 _ r6) (by rw [t5, h27]; exact ne27 _ t7)
    (fun i hi => by have := n1.2 i hi; rw [show zCells h (t + 1) i = (newF c).1.1 i from t6.1.1 i hi]; omega) (by rw [hdd]; exact hfo.1) ?_
  rw [hdd]
  intro g' hg'
  have hlen : (seld (farB c)).length ≤ 1010 := by unfold seld two; rw [List.length_append]; show _ + 2 ≤ _; omega
  have R1 := ((((R.sD (g := g') (n := ((seld (farB c)).length : Nat))).sI (k := 8) (v := (newF c).2.1) (by decide) (Or.inl (by decide)) (by decide) (by decide) (by decide) (by decide)).sI (k := 9) (v := c.1 0) (by decide) (Or.inl (by decide)) (by decide) (by decide) (by decide) (by decide)).sI (k := 10) (v := 0) (by decide) (Or.inl (by decide)) (by decide) (by decide) (by decide) (by decide))
  have hL1 : isL (zsI (zsI (zsI (zLet h 26 g' ((seld (farB c)).length : Nat)) 7 14 (newF c).2.1) 8 14 (c.1 0)) 10 14 0) 26 1010 (seld (farB c)) := draft_is hc hg' hlen (by decide) (by decide) (by decide)
  show zE 97 56 [some (.inr 2), some (.inl x)] [] (zsI (zsI (zsI (zLet h 26 g' ((seld (farB c)).length : Nat)) 7 14 (newF c).2.1) 8 14 (c.1 0)) 10 14 0) Q
  have e1 : zsI (zsI (zsI (zLet h 26 g' ((seld (farB c)).length : Nat)) (fC 8) (aC 8) (newF c).2.1) (fC 9) (aC 9) (c.1 0)) (fC 10) (aC 10) 0 = zsI (zsI (zsI (zLet h 26 g' ((seld (farB c)).length : Nat)) 7 14 (newF c).2.1) 8 14 (c.1 0)) 10 14 0 := rfl
  rw [e1] at R1
  generalize zsI (zsI (zsI (zLet h 26 g' ((seld (farB c)).length : Nat)) 7 14 (newF c).2.1) 8 14 (c.1 0)) 10 14 0 = h1 at R1 hL1 ⊢
  rw [wX10_runTick_56 R1.1]
  have w3 : ∀ k, 24 ≤ k → (vS (vS (vS c 8 (newF c).2.1) 9 (c.1 0)) 10 0).1 k = c.1 k := fun k hk => by rw [vS_n (by omega), vS_n (by omega), vS_n (by omega)]
  refine x_send R1 (Or.inr ⟨rfl, rfl, rfl⟩) hL1 (seld_byte hfo.1) (by rw [w3 24 (by omega), w3 25 (by omega), w3 26 (by omega)]; omega) fun h2 w2 R2 => ?_
  rw [sndC_3 (by decide) (by decide) (by decide) (by decide)] at R2
  simp only [Option.toList_none, List.nil_append]
  have e24 : (vS (vS (vS (sndC c (l 1).length (seld (farB c)).length) 9 (c.1 0)) 8 (newF c).2.1) 10 0).1 24 = c.1 24 + 1 := by
    rw [vS_n (by decide), vS_n (by decide), vS_n (by decide)]
    unfold sndC
    split
    · rfl
    · rfl
  have q := hQ h2 w2 R2
  rw [show x + ((vS (vS (vS (sndC c (l 1).length (seld (farB c)).length) 9 (c.1 0)) 8 (newF c).2.1) 10 0, sndL l 1 (seld (farB c))).1.1 24 - c.1 24) = x + 1 by show x + ((vS (vS (vS (sndC c (l 1).length (seld (farB c)).length) 9 (c.1 0)) 8 (newF c).2.1) 10 0).1 24 - c.1 24) = _; rw [e24]; omega] at q
  rw [wX10_runTick_64 R2.1, zw_eq (by omega) (by omega)]
  exact q
/-- the near end's letter -/
theorem kL_congr {K K' : Nat → Int} : ∀ (d i : Nat), (∀ k, i ≤ k → k < i + d → K k = K' k) → kL K d i = kL K' d i
  | 0, i, _ => rfl
  | d + 1, i, hk => by
    unfold kL
    rw [hk i (by omega) (by omega), kL_congr d (i + 1) (fun k p1 p2 => hk k (by omega) (by omega))]
theorem x_nearSend (R : RepC h0 N M h w c l) (hG : Good B c l) (hB : B ≤ 60000) {x : Int} (hx : 0 ≤ x ∧ x ≤ 5) (hQ : ∀ h' w', RepC h0 (N + 2) (M + 1012) h' w' (nearSend c l).1 (nearSend c l).2 → Q (some (.inl (x + ((nearSend c l).1.1 24 - c.1 24)))) h') :
    zE 97 67 [some (.inr 2), some (.inl x)] [] h Q := by
  have hc := R.1
  have gv := hG.1
  have n20 := R.n20
  have hV : (0 ≤ c.1 0 ∧ c.1 0 ≤ B) ∧ (1 ≤ c.1 18 ∧ c.1 18 ≤ 255) ∧ (0 ≤ c.1 13 ∧ c.1 13 ≤ 1000) ∧ (0 ≤ c.1 14 ∧ c.1 14 ≤ c.1 13) ∧ (0 ≤ c.1 24 ∧ c.1 24 ≤ B) ∧ (0 ≤ c.1 25 ∧ c.1 25 ≤ 2000000000) ∧ (0 ≤ c.1 26 ∧ c.1 26 ≤ B) := by unfold gV at gv; omega
  have v0 : zI h 582 2 = c.1 0 := R.v 0 (by decide) (Or.inl (by decide))
  have v1 : zI h 583 2 = c.1 1 := R.v 1 (by decide) (Or.inl (by decide))
  have v2 : zI h 584 2 = c.1 2 := R.v 2 (by decide) (Or.inl (by decide))
  rw [wX10_runTick_67 hc, v0, v1, v2]
  refine x_Ndue R hG hB fun b hb hb2 => ?_
  simp only [Option.toList_some, List.cons_append, List.nil_append]
  rw [wX10_runTick_86 hc]
  unfold nearSend at hQ
  by_cases hd : nDue (c.1 0) (c.1 1) (c.1 2) (c.1 16) (c.1 13) (c.1 15) (c.1 17) (c.1 14)
  case neg =>
    rw [pif_neg hd] at hQ
    rw [if_pos (by have : b ≠ 1 := fun z => hd (hb2.1 z); omega), wX10_runTick_115 hc]
    have := hQ h w (R.mono (by omega) (by omega))
    rw [show x + ((c, l).1.1 24 - c.1 24) = x by show x + (c.1 24 - c.1 24) = x; omega] at this
    exact this
  rw [pif_pos hd] at hQ
  have hb1 := hb2.2 hd
  rw [if_neg (by omega), wX10_runTick_89 hc, v0]
  obtain ⟨t, t1, t2, t3, t4, t5, t6, t7, t8⟩ := R.tN
  have hN := hG.newN
  have hfo := nearB_ok hG
  have h27 : zR h 192 26 = 27 := hc.r192_26
  obtain ⟨kn, hkn⟩ : ∃ n : Nat, c.1 14 = n := ⟨(c.1 14).toNat, by omega⟩
  obtain ⟨ty, hty⟩ : ∃ n : Nat, c.1 13 = n := ⟨(c.1 13).toNat, by omega⟩
  have hkeys := R.2.2.2.2.2.1
  have hkk : kL (zA h 4) (ty - kn) kn = kL c.2.2.2.1 (c.1 13 - c.1 14).toNat (c.1 14).toNat := by
    rw [show (c.1 13 - c.1 14).toNat = ty - kn by omega, show (c.1 14).toNat = kn by omega]
    exact kL_congr _ _ (fun k p1 p2 => hkeys k (by omega))
  have hnb : kHd (c.1 18) kn ty (newN c).2.1 ++ kL (zA h 4) (ty - kn) kn = nearB c := by
    unfold nearB
    rw [hkk, ← hkn, ← hty]
  refine c_Ncompose (kn := kn) (ty := ty) (ad := c.1 18) (nu := (newN c).2.1) (m := 1010) hc.k3 hc.r321_3 hc.k5 t1 t2 (lOK26 hc) (by decide)
    ((R.v 13 (by decide) (Or.inl (by decide))).trans hty) ((R.v 14 (by decide) (Or.inl (by decide))).trans hkn) (R.v 18 (by decide) (Or.inl (by decide))) t6.2.1 (by omega) hN.2.1 (by omega) hc.r320_3 hc.k4 (by rw [h27]; decide) (by omega)
    (fun i hi => by rw [hkeys i (by omega)]; have := keyOK_r (hG.2.2.2.1 i (by omega)); omega) (by rw [hnb]; exact hfo.2.1) ?_
  rw [hnb]
  intro g' hg'
  have hlen : (seld (nearB c)).length ≤ 1010 := by unfold seld two; rw [List.length_append]; show _ + 2 ≤ _; omega
  have R1 := ((((R.sD (g := g') (n := ((seld (nearB c)).length : Nat))).sI (k := 15) (v := (ty : Int)) (by decide) (Or.inl (by decide)) (by decide) (by decide) (by decide) (by decide)).sI (k := 16) (v := c.1 0) (by decide) (Or.inl (by decide)) (by decide) (by decide) (by decide) (by decide)).sI (k := 17) (v := 0) (by decide) (Or.inl (by decide)) (by decide) (by decide) (by decide) (by decide))
  have hL1 : isL (zsI (zsI (zsI (zLet h 26 g' ((seld (nearB c)).length : Nat)) 326 3 (ty : Int)) 327 3 (c.1 0)) 329 3 0) 26 1010 (seld (nearB c)) := draft_is hc hg' hlen (by decide) (by decide) (by decide)
  show zE 97 104 [some (.inr 2), some (.inl x)] [] (zsI (zsI (zsI (zLet h 26 g' ((seld (nearB c)).length : Nat)) 326 3 (ty : Int)) 327 3 (c.1 0)) 329 3 0) Q
  have e1 : zsI (zsI (zsI (zLet h 26 g' ((seld (nearB c)).length : Nat)) (fC 15) (aC 15) (ty : Int)) (fC 16) (aC 16) (c.1 0)) (fC 17) (aC 17) 0 = zsI (zsI (zsI (zLet h 26 g' ((seld (nearB c)).length : Nat)) 326 3 (ty : Int)) 327 3 (c.1 0)) 329 3 0 := rfl
  rw [e1] at R1
  generalize zsI (zsI (zsI (zLet h 26 g' ((seld (nearB c)).length : Nat)) 326 3 (ty : Int)) 327 3 (c.1 0)) 329 3 0 = h1 at R1 hL1 ⊢
  rw [wX10_runTick_104 R1.1]
  have w3 : ∀ k, 24 ≤ k → (vS (vS (vS c 15 (ty : Int)) 16 (c.1 0)) 17 0).1 k = c.1 k := fun k hk => by rw [vS_n (by omega), vS_n (by omega), vS_n (by omega)]
  refine x_send R1 (Or.inl ⟨rfl, rfl, rfl⟩) hL1 (seld_byte hfo.2.1) (by rw [w3 24 (by omega), w3 25 (by omega), w3 26 (by omega)]; omega) fun h2 w2 R2 => ?_
  rw [sndC_3 (by decide) (by decide) (by decide) (by decide), ← hty] at R2
  simp only [Option.toList_none, List.nil_append]
  have e24 : (vS (vS (vS (sndC c (l 0).length (seld (nearB c)).length) 16 (c.1 0)) 15 (c.1 13)) 17 0).1 24 = c.1 24 + 1 := by
    rw [vS_n (by decide), vS_n (by decide), vS_n (by decide)]
    unfold sndC
    split
    · rfl
    · rfl
  have q := hQ h2 w2 R2
  rw [show x + ((vS (vS (vS (sndC c (l 0).length (seld (nearB c)).length) 16 (c.1 0)) 15 (c.1 13)) 17 0, sndL l 0 (seld (nearB c))).1.1 24 - c.1 24) = x + 1 by show x + ((vS (vS (vS (sndC c (l 0).length (seld (nearB c)).length) 16 (c.1 0)) 15 (c.1 13)) 17 0).1 24 - c.1 24) = _; rw [e24]; omega] at q
  rw [wX10_runTick_112 R2.1, zw_eq (by omega) (by omega), wX10_runTick_115 R2.1]
  exact q
theorem x_runTick (R : RepC h0 N M h w c l) (hG : Good B c l) (hB : B ≤ 50000) (hQ : ∀ h' w', RepC h0 (N + 7) (M + 2222) h' w' (tickS c l).1 (tickS c l).2 → Q (some (.inl ((tickS c l).1.1 24 - c.1 24))) h') :
    zE 97 0 [some (.inr 2), none] [] h Q := by
  have hc := R.1
  have gv := hG.1
  have hV : (0 ≤ c.1 0 ∧ c.1 0 ≤ B) ∧ (0 ≤ c.1 24 ∧ c.1 24 ≤ B) ∧ c.1 7 + c.1 12 ≤ c.1 0 + 1 := by unfold gV at gv; omega
  have v0 : zI h 582 2 = c.1 0 := R.v 0 (by decide) (Or.inl (by decide))
  have G1 : Good (B + 1) (vS c 0 (c.1 0 + 1)) l := hG.ck
  have e0 : (vS c 0 (c.1 0 + 1)).1 0 = c.1 0 + 1 := vS_s
  have hck : (vS c 0 (c.1 0 + 1)).1 7 + (vS c 0 (c.1 0 + 1)).1 12 ≤ (vS c 0 (c.1 0 + 1)).1 0 := by
    rw [e0, vS_n (by decide), vS_n (by decide)]
    omega
  have G2 := good_farKeep G1 hck
  have e1 : (farKeep (vS c 0 (c.1 0 + 1))).1 0 = c.1 0 + 1 := (farKeep_V 0 (by decide)).trans e0
  have k24 : (farKeep (vS c 0 (c.1 0 + 1))).1 24 = c.1 24 := (farKeep_V 24 (by decide)).trans (vS_n (by decide))
  have G3 := good_farSend G2 (by omega) (by rw [e1]; omega)
  have R1 := R.sI (k := 0) (v := c.1 0 + 1) (by decide) (Or.inl (by decide)) (by decide) (by decide) (by decide) (by decide)
  have R1' : RepC h0 N M (zsI h 582 2 (c.1 0 + 1)) w (vS c 0 (c.1 0 + 1)) l := R1
  have hs24 : (farSend (farKeep (vS c 0 (c.1 0 + 1))) l).1.1 24 = c.1 24 ∨ (farSend (farKeep (vS c 0 (c.1 0 + 1))) l).1.1 24 = c.1 24 + 1 := by
    generalize farKeep (vS c 0 (c.1 0 + 1)) = d at k24
    unfold farSend
    by_cases z : fDue (d.1 0) (d.1 1) (d.1 2) (d.1 9) (newF d).2.1 (d.1 8) (d.1 10) (d.1 7)
    · rw [pif_pos z]
      right
      show (vS (vS (vS (sndC d (l 1).length (seld (farB d)).length) 9 (d.1 0)) 8 (newF d).2.1) 10 0).1 24 = _
      rw [vS_n (by decide), vS_n (by decide), vS_n (by decide), ← k24]
      unfold sndC
      split
      · rfl
      · rfl
    · rw [pif_neg z]; exact Or.inl k24
  rw [wX10_runTick_0 hc, v0, zw_eq (by omega) (by omega), wX10_runTick_10 (by exact hc)]
  refine x_keepState R1' G1 (by omega) fun h2 w2 R2 => ?_
  simp only [Option.toList_none, List.nil_append]
  refine x_farSend R2 G2 (by omega) (by omega) fun h3 w3 R3 => ?_
  rw [k24]
  refine x_nearSend R3 G3 (by omega) (by omega) fun h4 w4 R4 => ?_
  have q := hQ h4 w4 (R4.mono (by omega) (by omega))
  have e5 : (0 : Int) + ((farSend (farKeep (vS c 0 (c.1 0 + 1))) l).1.1 24 - c.1 24) + ((nearSend (farSend (farKeep (vS c 0 (c.1 0 + 1))) l).1 (farSend (farKeep (vS c 0 (c.1 0 + 1))) l).2).1.1 24 - (farSend (farKeep (vS c 0 (c.1 0 + 1))) l).1.1 24) = (tickS c l).1.1 24 - c.1 24 := by
    show _ = (nearSend (farSend (farKeep (vS c 0 (c.1 0 + 1))) l).1 (farSend (farKeep (vS c 0 (c.1 0 + 1))) l).2).1.1 24 - c.1 24
    omega
  rw [e5]
  exact q
theorem x_tick (R : RepC h0 N M h w c l) (hG : Good B c l) (hB : B ≤ 50000) (hQ : ∀ h' w', RepC h0 (N + 7) (M + 2222) h' w' (tickS c l).1 (tickS c l).2 → Q (some (.inl ((tickS c l).1.1 24 - c.1 24))) h') :
    zE 84 0 [some (.inr 2)] [] h Q := by
  rw [wX10_tick_0 R.1]
  refine x_runTick R hG hB fun h' w' R' => ?_
  simp only [Option.toList_some, List.cons_append, List.nil_append]
  rw [wX10_tick_4 R'.1]
  exact hQ h' w' R'
end cTick
