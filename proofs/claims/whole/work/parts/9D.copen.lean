/-! THE CLASS'S CALLS: open -/
section cOpen
variable {h0 h h' : zH} {z N M N' M' : Nat} {w w' : Nat → Nat} {c : cg} {l : lg} {Q : Option zV → zH → Prop} {p f a : Int} {ks : List Nat} {so ra : Nat} {G : Nat → Nat → Int}
def zB1 (h : zH) : Prop := (∀ i, i < 7 → zA h 28 i = 0) ∧ zI h 257 22 = 0 ∧ zI h 257 24 = 0
theorem zB1_sI {g x : Nat} {v : Int} (hB : zB1 h) (hg : g ≠ 257) : zB1 (zsI h g x v) := ⟨hB.1, (zI_ne (Ne.symm hg)).trans hB.2.1, (zI_ne (Ne.symm hg)).trans hB.2.2⟩
def pN (z : Nat) (h0 : zH) (N M : Nat) (w : Nat → Nat) (G : Nat → Nat → Int) (p f a : Int) (h : zH) (ks : List Nat) : Prop := RepS z h0 N M h w ∧ stN h 5 6 ∧ rG h 0 G ∧ kn p f a h ks ∧ zB1 h
theorem pN_sI {g x : Nat} {v : Int} (k : Nat) (P : pN z h0 N M w G p f a h ks) (e1 : fC k = g) (e2 : aC k = x) (hv : v = V0 p f a k) (hks : ∀ j ∈ k :: ks, j < 34 ∧ vOK j) (hg : g < 640 ∧ g ≠ 449 ∧ g ≠ 450 ∧ g ≠ 385 ∧ g ≠ 386 ∧ g ≠ 257 ∧ g ≠ 129 ∧ ¬ (64 ≤ g ∧ g ≤ 70)) : pN z h0 N M w G p f a (zsI h g x v) (k :: ks) :=
  ⟨P.1.sI hg.1, stN_sI P.2.1 ⟨hg.2.1, hg.2.2.1, hg.2.2.2.1, hg.2.2.2.2.1⟩, rG_sI P.2.2.1 hg.2.2.2.2.2.2.2 hg.2.2.2.2.2.2.1, kn_sI k P.2.2.2.1 e1 e2 hv hks, zB1_sI P.2.2.2.2 hg.2.2.2.2.2.1⟩
theorem c_Greset1 (hk : (zK h 10).1 = 12) (hQ : Q none (zsI (zsI (zsI (zsI (zsI (zsI h 129 10 0) 130 10 1) 131 10 0) 132 10 0) 133 10 0) 134 10 0)) : zE 17 0 [some (.inr 10)] [] h Q := by
  rw [xX3_reset_0, xX3_reset_5, xX3_reset_10, xX3_reset_15, xX3_reset_20, xX3_reset_25, xX3_reset_30]
  exact ⟨hk, hk, hk, hk, hk, hk, hQ⟩
def ksA : List Nat := [10, 11, 9, 8, 7, 6, 5, 4, 12, 3, 18, 17, 19, 16, 15, 14, 13, 33, 32, 31, 22, 23, 21, 20, 0, 2, 1]
def Start (z : Nat) (h0 : zH) (N M : Nat) (w : Nat → Nat) (p f a : Int) (h : zH) : Prop := RepS z h0 N M h w ∧ stN h 5 6 ∧ stN h 17 18 ∧ scIs h 15 X0 ∧ rG h 0 (fun _ _ => 0) ∧ kn p f a h ksA ∧ zB1 h
theorem Start.toC (S : Start 48 h0 N M w p f a h) : RepC h0 N M h w (c0 p f a) l0 := by
  obtain ⟨R, s0, s1, x1, g1, k1, b1⟩ := S
  refine repC_0 R s0 s1 x1 g1 (fun k hkk => k1 k ?_) b1.1 b1.2.1 b1.2.2
  have : ∀ k ∈ [0, 1, 2, 3, 4, 5, 6, 7, 8, 9, 10, 11, 12, 13, 14, 15, 16, 17, 18, 19, 20, 21, 22, 23, 31, 32, 33], k ∈ ksA := by decide
  exact this k hkk
theorem x_Nreset (R : RepS z h0 N M h w) (hk : kn p f a h [0, 2, 1]) (hB : zB1 h) (hQ : ∀ h', pN z h0 N M w (fun _ _ => 0) p f a h' [18, 17, 19, 16, 15, 14, 13, 33, 32, 31, 22, 23, 21, 20, 0, 2, 1] → Q none h') : zE 45 0 [some (.inr 3)] [] h Q := by
  have hc := R.1
  have ht := R.2.1.1 0 (by decide) R.2.1.2.2
  obtain ⟨t1, t2, t3, t4, t5, t6, t7, t8, t9⟩ := id ht
  rw [wX6_reset_0 hc]
  refine x_Sreset R (Or.inl ⟨rfl, rfl⟩) ?_
  simp only [Option.toList_none, List.nil_append]
  have R4 : RepS z h0 N M (hRs h 5 (zB h 6 0)) w := R.rs (by omega) t4 (by decide)
  have S4 : stN (hRs h 5 (zB h 6 0)) 5 6 := hRs_st rfl t4 (by omega) (by omega)
  have k4 : kn p f a (hRs h 5 (zB h 6 0)) [20, 0, 2, 1] := by
    unfold hRs
    refine kn_sI 20 (ks := [0, 2, 1]) (kn_of hk (fun k hkk => ?_)) rfl rfl rfl (by decide)
    have : k = 0 ∨ k = 2 ∨ k = 1 := by simpa using hkk
    rw [zI_sR]
    rcases this with y | y | y <;> subst y
    · exact (zI_ne (by decide)).trans ((zI_ne (by decide)).trans (zI_Scr_o (by decide) (by decide)))
    · exact (zI_ne (by decide)).trans ((zI_ne (by decide)).trans (zI_Scr_o (by decide) (by decide)))
    · exact (zI_ne (by decide)).trans ((zI_ne (by decide)).trans (zI_Scr_o (by decide) (by decide)))
  have B4 : zB1 (hRs h 5 (zB h 6 0)) := ⟨fun i hi => (hRs_A t4 (by omega)).trans (hB.1 i hi), (hRs_I (by decide) (by decide)).trans hB.2.1, (hRs_I (by decide) (by decide)).trans hB.2.2⟩
  generalize hRs h 5 (zB h 6 0) = h4 at R4 S4 k4 B4 ⊢
  rw [wX6_reset_7 R4.1]
  refine c_Greset1 R4.1.k10 ?_
  simp only [Option.toList_none, List.nil_append]
  have R5 : RepS z h0 N M (zsI h4 129 10 0) w := R4.sI (by decide)
  have P5 : pN z h0 N M w (fun _ _ => 0) p f a (zsI h4 129 10 0) [21, 20, 0, 2, 1] := ⟨R5, stN_sI S4 (by decide), ⟨R5.2.2.2.1, zI_sI_s, by decide, fun i hi => absurd hi (Nat.not_lt_zero _)⟩, kn_sI 21 k4 rfl rfl rfl (by decide), zB1_sI B4 (by decide)⟩
  have A1 := pN_sI (g := 130) (x := 10) (v := 1) 23 P5 rfl rfl rfl (by decide) (by decide)
  have A2 := pN_sI (g := 131) (x := 10) (v := 0) 22 A1 rfl rfl rfl (by decide) (by decide)
  have A3 := pN_sI (g := 132) (x := 10) (v := 0) 31 A2 rfl rfl rfl (by decide) (by decide)
  have A4 := pN_sI (g := 133) (x := 10) (v := 0) 32 A3 rfl rfl rfl (by decide) (by decide)
  have A5 := pN_sI (g := 134) (x := 10) (v := 0) 33 A4 rfl rfl rfl (by decide) (by decide)
  generalize zsI (zsI (zsI (zsI (zsI (zsI h4 129 10 0) 130 10 1) 131 10 0) 132 10 0) 133 10 0) 134 10 0 = h5 at A5 ⊢
  have P6 := pN_sI (g := 324) (x := 3) (v := 0) 13 A5 rfl rfl rfl (by decide) (by decide)
  have P7 := pN_sI (g := 325) (x := 3) (v := 0) 14 P6 rfl rfl rfl (by decide) (by decide)
  have P8 := pN_sI (g := 326) (x := 3) (v := 0) 15 P7 rfl rfl rfl (by decide) (by decide)
  have P9 := pN_sI (g := 327) (x := 3) (v := 0) 16 P8 rfl rfl rfl (by decide) (by decide)
  have P10 := pN_sI (g := 328) (x := 3) (v := 0) 19 P9 rfl rfl rfl (by decide) (by decide)
  have P11 := pN_sI (g := 329) (x := 3) (v := 0) 17 P10 rfl rfl rfl (by decide) (by decide)
  have P12 := pN_sI (g := 330) (x := 3) (v := 1) 18 P11 rfl rfl rfl (by decide) (by decide)
  rw [wX6_reset_14 A5.1.1, wX6_reset_19 P6.1.1, wX6_reset_24 P7.1.1, wX6_reset_29 P8.1.1, wX6_reset_34 P9.1.1, wX6_reset_39 P10.1.1, wX6_reset_44 P11.1.1, wX6_reset_49 P12.1.1]
  exact ⟨Or.inl rfl, hQ _ P12⟩
theorem x_Freset (P : pN z h0 N M w (fun _ _ => 0) p f a h [18, 17, 19, 16, 15, 14, 13, 33, 32, 31, 22, 23, 21, 20, 0, 2, 1]) (hQ : ∀ h', Start z h0 N M w p f a h' → Q none h') : zE 2 0 [some (.inr 14), some (.inl p)] [] h Q := by
  have P1 := pN_sI (g := 2) (x := 14) (v := p) 3 P rfl rfl rfl (by decide) (by decide)
  rw [wX1_reset_0 P.1.1]
  generalize zsI h 2 14 p = h1 at P1 ⊢
  obtain ⟨R1, S1, G1, k1, B1⟩ := P1
  have hc := R1.1
  have h16 : zR h1 384 15 = 16 := hc.r384_15
  rw [wX1_reset_5 hc]
  have hs15 : sOK h1 15 := ⟨hc.k15, by rw [h16]; exact hc.k16⟩
  have key := c_clear (h := h1) (s := 15) (C := zA h1 (zR h1 384 15)) (r := zI h1 385 15) (c := zI h1 386 15) (Q := fun r h' => zE 2 12 [some (.inr 14), some (.inl p)] (r.toList ++ []) h' Q) hs15 ?_
  · rw [zScr_id] at key
    exact key
  simp only [Option.toList_none, List.nil_append]
  have ht6 := R1.2.1.1 0 (by decide) R1.2.1.2.2
  have R2 : RepS z h0 N M (zScr h1 15 (s_blank (zA h1 (zR h1 384 15))) 0 0) w := R1.scr (by omega) (by omega)
  have X2 : scIs (zScr h1 15 (s_blank (zA h1 (zR h1 384 15))) 0 0) 15 X0 := by
    refine ⟨fun k hk => ?_, zI_Scr_r, zI_Scr_c⟩
    rw [zR_Scr, zA_Scr_s]
    exact if_pos hk
  have S2 : stN (zScr h1 15 (s_blank (zA h1 (zR h1 384 15))) 0 0) 5 6 := by
    have h9 := ht6.2.2.2.2.2.2.2.2
    refine stN_fr (w := w) S1 ht6 rfl rfl rfl (zI_Scr_o (by decide) (by decide)) (zI_Scr_o (by decide) (by decide)) ?_ ?_ (fun k _ => ?_)
    · rw [zI_Scr, if_neg (by omega), if_neg (by omega)]
    · rw [zI_Scr, if_neg (by omega), if_neg (by omega)]
    · rw [zA_Scr, h16, if_neg (by omega)]
  have G2 : rG (zScr h1 15 (s_blank (zA h1 (zR h1 384 15))) 0 0) 0 (fun _ _ => 0) := ⟨R2.2.2.2.1, (zI_Scr_o (by decide) (by decide)).trans G1.2.1, G1.2.2.1, fun i hi => absurd hi (Nat.not_lt_zero _)⟩
  have B2 : zB1 (zScr h1 15 (s_blank (zA h1 (zR h1 384 15))) 0 0) := ⟨fun i hi => by rw [zA_Scr, h16, if_neg (by decide)]; exact B1.1 i hi, (zI_Scr_o (by decide) (by decide)).trans B1.2.1, (zI_Scr_o (by decide) (by decide)).trans B1.2.2⟩
  have k2 : kn p f a (zScr h1 15 (s_blank (zA h1 (zR h1 384 15))) 0 0) [3, 18, 17, 19, 16, 15, 14, 13, 33, 32, 31, 22, 23, 21, 20, 0, 2, 1] := kn_of k1 (fun k hkk => by
    have : ∀ k ∈ [3, 18, 17, 19, 16, 15, 14, 13, 33, 32, 31, 22, 23, 21, 20, 0, 2, 1], fC k ≠ 385 ∧ fC k ≠ 386 := by decide
    have := this k hkk
    exact zI_Scr_o this.1 this.2)
  generalize zScr h1 15 (s_blank (zA h1 (zR h1 384 15))) 0 0 = h2 at R2 X2 S2 G2 B2 k2 ⊢
  rw [wX1_reset_12 R2.1]
  have ht := R2.2.2.1.1 0 (by decide) R2.2.2.1.2.2
  have ht6 := R2.2.1.1 0 (by decide) R2.2.1.2.2
  have t4 := ht.2.2.2.1
  have t9 := ht.2.2.2.2.2.2.2.2
  have s9 := ht6.2.2.2.2.2.2.2.2
  have wt := ht.2.2.2.2.2.1
  have ws := ht6.2.2.2.2.2.1
  have wt2 := ht.2.2.2.2.2.2.1
  have ws2 := ht6.2.2.2.2.2.2.1
  have kt := ht.1
  have kt1 := ht.2.2.1
  have ks1 := ht6.2.2.1
  have ks0 := ht6.1
  refine x_Sreset R2 (Or.inr ⟨rfl, rfl⟩) ?_
  simp only [Option.toList_none, List.nil_append]
  have h16' : zR h2 384 15 = 16 := R2.1.r384_15
  have n1 : zB h2 6 0 ≠ zB h2 18 0 := fun z => by rw [z, wt] at ws; omega
  have n2 : zB h2 6 0 + 1 ≠ zB h2 18 0 + 1 := by omega
  have n3 : zB h2 6 0 + 1 ≠ zB h2 18 0 := fun z => by rw [z, kt] at ks1; cases ks1
  have n4 : zB h2 6 0 ≠ zB h2 18 0 + 1 := fun z => by rw [z, kt1] at ks0; cases ks0
  have R3 : RepS z h0 N M (hRs h2 17 (zB h2 18 0)) w := R2.rs (by omega) t4 (by decide)
  have S3' : stN (hRs h2 17 (zB h2 18 0)) 17 18 := hRs_st rfl t4 (by omega) (by omega)
  have S3 : stN (hRs h2 17 (zB h2 18 0)) 5 6 := by
    refine stN_fr (w := w) S2 ht6 rfl ?_ rfl ?_ ?_ ?_ ?_ (fun k _ => hRs_A t4 (by omega))
    · show zR (zsR _ 513 17 _) 513 5 = _
      rw [zR_sR, if_neg (by decide)]
      rfl
    · exact hRs_Ix n1 n4 (by omega)
    · exact hRs_Ix n1 n4 (by omega)
    · exact hRs_Ix n3 n2 (by omega)
    · exact hRs_Ix n3 n2 (by omega)
  have X3 : scIs (hRs h2 17 (zB h2 18 0)) 15 X0 := scIs_fr X2 rfl (fun k _ => by rw [h16']; exact hRs_A t4 (by omega)) (hRs_Ix (by omega) (by omega) (by decide)) (hRs_Ix (by omega) (by omega) (by decide))
  have G3 : rG (hRs h2 17 (zB h2 18 0)) 0 (fun _ _ => 0) := ⟨R3.2.2.2.1, (hRs_I (by decide) (by decide)).trans G2.2.1, G2.2.2.1, fun i hi => absurd hi (Nat.not_lt_zero _)⟩
  have B3 : zB1 (hRs h2 17 (zB h2 18 0)) := ⟨fun i hi => (hRs_A t4 (by omega)).trans (B2.1 i hi), (hRs_I (by decide) (by decide)).trans B2.2.1, (hRs_I (by decide) (by decide)).trans B2.2.2⟩
  have k3 : kn p f a (hRs h2 17 (zB h2 18 0)) [12, 3, 18, 17, 19, 16, 15, 14, 13, 33, 32, 31, 22, 23, 21, 20, 0, 2, 1] := by
    unfold hRs
    refine kn_sI 12 (kn_of k2 (fun k hkk => ?_)) rfl rfl rfl (by decide)
    have : ∀ k ∈ [3, 18, 17, 19, 16, 15, 14, 13, 33, 32, 31, 22, 23, 21, 20, 0, 2, 1], fC k ≠ 385 ∧ fC k ≠ 386 ∧ fC k ≠ 449 ∧ fC k ≠ 450 := by decide
    have := this k hkk
    rw [zI_sR]
    exact (zI_ne this.2.2.2).trans ((zI_ne this.2.2.1).trans (zI_Scr_o this.1 this.2.1))
  generalize hRs h2 17 (zB h2 18 0) = h3 at R3 S3 S3' X3 G3 B3 k3 ⊢
  refine c_Freset_w R3.1.k14 ?_
  have P3 : pN z h0 N M w (fun _ _ => 0) p f a h3 [12, 3, 18, 17, 19, 16, 15, 14, 13, 33, 32, 31, 22, 23, 21, 20, 0, 2, 1] := ⟨R3, S3, G3, k3, B3⟩
  have P4 := pN_sI (g := 3) (x := 14) (v := 0) 4 P3 rfl rfl rfl (by decide) (by decide)
  have P5 := pN_sI (g := 4) (x := 14) (v := 0) 5 P4 rfl rfl rfl (by decide) (by decide)
  have P6 := pN_sI (g := 5) (x := 14) (v := 0) 6 P5 rfl rfl rfl (by decide) (by decide)
  have P7 := pN_sI (g := 6) (x := 14) (v := 0) 7 P6 rfl rfl rfl (by decide) (by decide)
  have P8 := pN_sI (g := 7) (x := 14) (v := 0) 8 P7 rfl rfl rfl (by decide) (by decide)
  have P9 := pN_sI (g := 8) (x := 14) (v := 0) 9 P8 rfl rfl rfl (by decide) (by decide)
  have P10 := pN_sI (g := 9) (x := 14) (v := 1) 11 P9 rfl rfl rfl (by decide) (by decide)
  have P11 := pN_sI (g := 10) (x := 14) (v := 0) 10 P10 rfl rfl rfl (by decide) (by decide)
  have S11 : stN (zF8 h3 14) 17 18 := stN_sI (stN_sI (stN_sI (stN_sI (stN_sI (stN_sI (stN_sI (stN_sI S3' (by decide)) (by decide)) (by decide)) (by decide)) (by decide)) (by decide)) (by decide)) (by decide)
  have X11 : scIs (zF8 h3 14) 15 X0 := scIs_sI (scIs_sI (scIs_sI (scIs_sI (scIs_sI (scIs_sI (scIs_sI (scIs_sI X3 (by decide)) (by decide)) (by decide)) (by decide)) (by decide)) (by decide)) (by decide)) (by decide)
  have P12 : pN z h0 N M w (fun _ _ => 0) p f a (zF8 h3 14) ksA := P11
  exact hQ _ ⟨P12.1, P12.2.1, S11, X11, P12.2.2.1, P12.2.2.2.1, P12.2.2.2.2⟩
theorem x_startOver (R : RepS z h0 N M h w) (hQ : ∀ h', Start z h0 N M w p f a h' → Q none h') : zE 96 0 [some (.inr 2), some (.inl p), some (.inl f), some (.inl a)] [] h Q := by
  have hc := R.1
  have R1 : RepS z h0 N M (zsI (zsI (zsI h 583 2 f) 584 2 a) 582 2 0) w := ((R.sI (by decide)).sI (by decide)).sI (by decide)
  have k1 : kn p f a (zsI (zsI (zsI h 583 2 f) 584 2 a) 582 2 0) [0, 2, 1] := kn_sI 0 (kn_sI 2 (kn_sI 1 (ks := []) (fun k hk => absurd hk (by simp)) rfl rfl rfl (by decide)) rfl rfl rfl (by decide)) rfl rfl rfl (by decide)
  rw [wX10_startOver_0 hc, wX10_startOver_5 (by exact hc), wX10_startOver_10 (by exact hc)]
  generalize zsI (zsI (zsI h 583 2 f) 584 2 a) 582 2 0 = h1 at R1 k1 ⊢
  rw [wX10_startOver_15 R1.1]
  refine c_fill R1.1.k28 (by decide) ?_
  simp only [Option.toList_none, List.nil_append]
  have R2 : RepS z h0 N M (zAs h1 28 (fun k => if k < 7 then 0 else zA h1 28 k)) w := R1.same rfl rfl rfl rfl (fun _ _ _ => rfl) (fun _ _ => rfl) (fun _ _ => rfl) (fun x hx => by
    funext i
    rw [zA_As, if_neg (by omega)])
  have k2 : kn p f a (zAs h1 28 (fun k => if k < 7 then 0 else zA h1 28 k)) [0, 2, 1] := k1
  have T2 : ∀ i, i < 7 → zA (zAs h1 28 (fun k => if k < 7 then 0 else zA h1 28 k)) 28 i = 0 := fun i hi => by
    rw [zA_As_s]
    exact if_pos hi
  generalize zAs h1 28 (fun k => if k < 7 then 0 else zA h1 28 k) = h2 at R2 k2 T2 ⊢
  rw [wX10_startOver_23 R2.1, wX10_startOver_31 (R2.sI (by decide)).1]
  have R3 : RepS z h0 N M (zsI (zsI h2 257 22 0) 257 24 0) w := (R2.sI (by decide)).sI (by decide)
  have k3 : kn p f a (zsI (zsI h2 257 22 0) 257 24 0) [0, 2, 1] := kn_of k2 (fun k hkk => by
    have : ∀ k ∈ [0, 2, 1], fC k ≠ 257 := by decide
    have := this k hkk
    exact (zI_ne this).trans (zI_ne this))
  have B3 : zB1 (zsI (zsI h2 257 22 0) 257 24 0) := ⟨T2, (zI_na (by decide)).trans zI_sI_s, zI_sI_s⟩
  generalize zsI (zsI h2 257 22 0) 257 24 0 = h3 at R3 k3 B3 ⊢
  rw [wX10_startOver_39 R3.1]
  refine x_Nreset R3 k3 B3 fun h4 P4 => ?_
  simp only [Option.toList_none, List.nil_append]
  rw [wX10_startOver_46 P4.1.1]
  refine x_Freset P4 fun h5 R5 => ?_
  simp only [Option.toList_none, List.nil_append]
  rw [wX10_startOver_54 R5.1.1]
  exact hQ _ R5
theorem x_open (R : RepC h0 N M h w c l) (hY : openOK p f a → ∀ h', RepC h0 N M h' w (c0 p f a) l0 → Q (some (.inl 1)) h') (hN : ¬ openOK p f a → Q (some (.inl 0)) h) {l4 : Option zV} :
    zE 76 0 [some (.inr 2), some (.inl p), some (.inl f), some (.inl a), l4] [] h Q := by
  have hc := R.1
  have no : ¬ openOK p f a → zE 76 33 [some (.inr 2), some (.inl p), some (.inl f), some (.inl a), l4] [] h Q := by
    intro z
    rw [wX10_open_33 hc, wX10_open_34 hc, if_pos rfl, wX10_open_48 hc]
    exact ⟨Or.inl rfl, hN z⟩
  rw [wX10_open_0 hc]
  refine c_isProgram ?_
  simp only [Option.toList_some, List.cons_append, List.nil_append]
  rw [wX10_open_4 hc]
  by_cases z1 : 0 ≤ p ∧ p ≤ 3
  case neg => rw [if_neg z1, if_pos rfl]; exact no (fun y => z1 y.1)
  rw [if_pos z1, if_neg (by decide), wX10_open_7 hc]
  by_cases z2 : f < 1
  · rw [if_pos z2]; exact no (fun y => by have := y.2.1; omega)
  rw [if_neg z2, wX10_open_12 hc]
  by_cases z3 : 20 < f
  · rw [if_pos z3]; exact no (fun y => by have := y.2.1; omega)
  rw [if_neg z3, wX10_open_18 hc]
  by_cases z4 : a < f
  · rw [if_pos z4]; exact no (fun y => by have := y.2.2; omega)
  rw [if_neg z4, wX10_open_23 hc]
  by_cases z5 : 50 < a
  · rw [if_pos z5]; exact no (fun y => by have := y.2.2; omega)
  have ok : openOK p f a := ⟨z1, by omega, by omega, by omega⟩
  rw [if_neg z5, wX10_open_29 hc, wX10_open_34 hc, if_neg (by decide), wX10_open_41 hc]
  refine x_startOver R.toS fun h' R' => ?_
  simp only [Option.toList_none, List.nil_append]
  rw [wX10_open_48 R'.1.1]
  exact ⟨Or.inr rfl, hY ok h' R'.toC⟩
end cOpen
