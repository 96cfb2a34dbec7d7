/-! THE MODEL IS MADE -/
def j0 (h : zH) : zH := znO h 10 46
def j1 (h : zH) : zH := zsR (znA (j0 h) 1 13248) 640 29 30
def j2 (h : zH) : zH := zsR (znA (j1 h) 1 13248) 641 29 31
def j3 (h : zH) : zH := zsR (znA (j2 h) 1 69) 642 29 32
def j4 (h : zH) : zH := zsR (znA (j3 h) 1 69) 643 29 33
def j5 (h : zH) : zH := zsR (znA (j4 h) 1 69) 644 29 34
def j6 (h : zH) : zH := zsR (znA (j5 h) 1 69) 645 29 35
def j7 (h : zH) : zH := zsI (zsI (j6 h) 649 29 2) 650 29 5
def j8 (h : zH) : zH := zsR (znA (j7 h) 1 1000) 660 29 36
def j9 (h : zH) : zH := zsR (znA (j8 h) 1 10) 669 29 37
def j10 (h : zH) : zH := zsR (znA (j9 h) 1 2) 670 29 38
def j11 (h : zH) : zH := zsR (znA (j10 h) 1 88000) 671 29 39
def j12 (h : zH) : zH := zsR (znA (j11 h) 1 80) 672 29 40
def j13 (h : zH) : zH := zsR (znA (j12 h) 1 1100) 673 29 41
def j14 (h : zH) : zH := zsR (znA (j13 h) 1 60) 680 29 42
def j15 (h : zH) : zH := zsR (znA (j14 h) 1 60) 681 29 43
def j16 (h : zH) : zH := zsR (znA (j15 h) 1 60) 682 29 44
def j17 (h : zH) : zH := zsR (znA (j16 h) 1 60) 683 29 45
def j18 (h : zH) : zH := zsR (znA (j17 h) 1 60) 684 29 46
def j19 (h : zH) : zH := zsR (znA (j18 h) 1 60) 685 29 47
section mMake
variable {h : zH} {Q : Option zV → zH → Prop}
theorem i_model (hz : zn h = 29) (hQ : ∀ I A, RepR I A (c0 0 2 5) l0 → Q none (zM (j19 h) I A)) : zE 106 0 [some (.inr 29)] [] (j0 h) Q := by
  obtain ⟨K, I, R, A, B, n, s⟩ := h
  have hz' : n = 29 := hz
  subst hz'
  generalize hh : ((K, I, R, A, B, 29, s) : zH) = h at *
  subst hh
  rw [xX11_init_0]
  refine ⟨by decide, ?_⟩
  rw [xX11_init_4]
  refine ⟨by decide, ?_⟩
  rw [xX11_init_10]
  refine ⟨rfl, ?_⟩
  show zE 106 13 [some (.inr 29)] [] (j1 (K, I, R, A, B, 29, s)) _
  rw [xX11_init_13]
  refine ⟨by decide, ?_⟩
  rw [xX11_init_19]
  refine ⟨rfl, ?_⟩
  show zE 106 22 [some (.inr 29)] [] (j2 (K, I, R, A, B, 29, s)) _
  rw [xX11_init_22]
  refine ⟨by decide, ?_⟩
  rw [xX11_init_27]
  refine ⟨rfl, ?_⟩
  show zE 106 30 [some (.inr 29)] [] (j3 (K, I, R, A, B, 29, s)) _
  rw [xX11_init_30]
  refine ⟨by decide, ?_⟩
  rw [xX11_init_35]
  refine ⟨rfl, ?_⟩
  show zE 106 38 [some (.inr 29)] [] (j4 (K, I, R, A, B, 29, s)) _
  rw [xX11_init_38]
  refine ⟨by decide, ?_⟩
  rw [xX11_init_43]
  refine ⟨rfl, ?_⟩
  show zE 106 46 [some (.inr 29)] [] (j5 (K, I, R, A, B, 29, s)) _
  rw [xX11_init_46]
  refine ⟨by decide, ?_⟩
  rw [xX11_init_51]
  refine ⟨rfl, ?_⟩
  show zE 106 54 [some (.inr 29)] [] (j6 (K, I, R, A, B, 29, s)) _
  rw [xX11_init_54]
  refine ⟨rfl, ?_⟩
  rw [xX11_init_59]
  refine ⟨rfl, ?_⟩
  show zE 106 64 [some (.inr 29)] [] (j7 (K, I, R, A, B, 29, s)) _
  rw [xX11_init_64]
  refine ⟨by decide, ?_⟩
  rw [xX11_init_70]
  refine ⟨rfl, ?_⟩
  show zE 106 73 [some (.inr 29)] [] (j8 (K, I, R, A, B, 29, s)) _
  rw [xX11_init_73]
  refine ⟨by decide, ?_⟩
  rw [xX11_init_78]
  refine ⟨rfl, ?_⟩
  show zE 106 81 [some (.inr 29)] [] (j9 (K, I, R, A, B, 29, s)) _
  rw [xX11_init_81]
  refine ⟨by decide, ?_⟩
  rw [xX11_init_85]
  refine ⟨rfl, ?_⟩
  show zE 106 88 [some (.inr 29)] [] (j10 (K, I, R, A, B, 29, s)) _
  rw [xX11_init_88]
  refine ⟨by decide, ?_⟩
  rw [xX11_init_93]
  refine ⟨rfl, ?_⟩
  show zE 106 96 [some (.inr 29)] [] (j11 (K, I, R, A, B, 29, s)) _
  rw [xX11_init_96]
  refine ⟨by decide, ?_⟩
  rw [xX11_init_101]
  refine ⟨rfl, ?_⟩
  show zE 106 104 [some (.inr 29)] [] (j12 (K, I, R, A, B, 29, s)) _
  rw [xX11_init_104]
  refine ⟨by decide, ?_⟩
  rw [xX11_init_110]
  refine ⟨rfl, ?_⟩
  show zE 106 113 [some (.inr 29)] [] (j13 (K, I, R, A, B, 29, s)) _
  rw [xX11_init_113]
  refine ⟨by decide, ?_⟩
  rw [xX11_init_118]
  refine ⟨rfl, ?_⟩
  show zE 106 121 [some (.inr 29)] [] (j14 (K, I, R, A, B, 29, s)) _
  rw [xX11_init_121]
  refine ⟨by decide, ?_⟩
  rw [xX11_init_126]
  refine ⟨rfl, ?_⟩
  show zE 106 129 [some (.inr 29)] [] (j15 (K, I, R, A, B, 29, s)) _
  rw [xX11_init_129]
  refine ⟨by decide, ?_⟩
  rw [xX11_init_134]
  refine ⟨rfl, ?_⟩
  show zE 106 137 [some (.inr 29)] [] (j16 (K, I, R, A, B, 29, s)) _
  rw [xX11_init_137]
  refine ⟨by decide, ?_⟩
  rw [xX11_init_142]
  refine ⟨rfl, ?_⟩
  show zE 106 145 [some (.inr 29)] [] (j17 (K, I, R, A, B, 29, s)) _
  rw [xX11_init_145]
  refine ⟨by decide, ?_⟩
  rw [xX11_init_150]
  refine ⟨rfl, ?_⟩
  show zE 106 153 [some (.inr 29)] [] (j18 (K, I, R, A, B, 29, s)) _
  rw [xX11_init_153]
  refine ⟨by decide, ?_⟩
  rw [xX11_init_158]
  refine ⟨rfl, ?_⟩
  show zE 106 161 [some (.inr 29)] [] (j19 (K, I, R, A, B, 29, s)) _
  rw [xX11_init_161]
  refine ⟨rfl, ?_⟩
  have hm : mOK (j19 (K, I, R, A, B, 29, s)) := by
    unfold mOK
    repeat' apply And.intro
    all_goals rfl
  have e : zM (j19 (K, I, R, A, B, 29, s)) (fun f => zI (j19 (K, I, R, A, B, 29, s)) f 29) (zA (j19 (K, I, R, A, B, 29, s))) = j19 (K, I, R, A, B, 29, s) := zM_id (fun _ => rfl) (fun _ _ _ => rfl)
  have key := m_begins (h := j19 (K, I, R, A, B, 29, s)) (I := fun f => zI (j19 (K, I, R, A, B, 29, s)) f 29) (A := zA (j19 (K, I, R, A, B, 29, s))) (p := 0) (f := 2) (a := 5) (l4 := none) (Q := fun r h' => zE 106 168 [some (.inr 29)] (r.toList ++ []) h' Q) hm ?_
  · rw [e] at key
    exact key
  · intro I' A' R'
    simp only [Option.toList_none, List.nil_append]
    rw [xX11_init_168]
    exact hQ I' A' R'
def f29 (h h' : zH) (z d : Nat) : Prop := zn h' = z ∧ 29 ≤ z ∧ zs h' = zs h + d ∧ (∀ x, x < 29 → zK h' x = zK h x) ∧ (∀ f x, x < 29 → zI h' f x = zI h f x) ∧ (∀ f x, x < 29 → zR h' f x = zR h f x) ∧ (∀ a, a < 29 → zA h' a = zA h a) ∧ (∀ a, a < 29 → zB h' a = zB h a) ∧ ∀ x, z ≤ x → (zK h' x).1 = 0
theorem f29_O {h h' : zH} {z d c k : Nat} (F : f29 h h' z d) : f29 h (znO h' c k) (z + 1) (d + k) := by
  obtain ⟨a1, a2, a3, a4, a5, a6, a7, a8, a9⟩ := F
  refine ⟨by show zn h' + 1 = _; omega, by omega, by show zs h' + k = _; omega, fun x hx => ?_, fun f x hx => ?_, fun f x hx => ?_, a7, a8, fun x hx => ?_⟩
  · rw [zK_nO, if_neg (by omega)]; exact a4 x hx
  · rw [zI_nO, if_neg (by omega)]; exact a5 f x hx
  · rw [zR_nO, if_neg (by omega)]; exact a6 f x hx
  · rw [zK_nO, if_neg (by omega)]; exact a9 x (by omega)
theorem f29_A {h h' : zH} {z d c k : Nat} (F : f29 h h' z d) : f29 h (znA h' c k) (z + 1) (d + k) := by
  obtain ⟨a1, a2, a3, a4, a5, a6, a7, a8, a9⟩ := F
  refine ⟨by show zn h' + 1 = _; omega, by omega, by show zs h' + k = _; omega, fun x hx => ?_, a5, a6, fun x hx => ?_, fun x hx => ?_, fun x hx => ?_⟩
  · rw [zK_nA, if_neg (by omega)]; exact a4 x hx
  · funext i
    rw [zA_nA, if_neg (by omega), a7 x hx]
  · funext i
    rw [zB_nA, if_neg (by omega), a8 x hx]
  · rw [zK_nA, if_neg (by omega)]; exact a9 x (by omega)
theorem f29_R {h h' : zH} {z d g u : Nat} (F : f29 h h' z d) : f29 h (zsR h' g 29 u) z d := by
  obtain ⟨a1, a2, a3, a4, a5, a6, a7, a8, a9⟩ := F
  refine ⟨a1, a2, a3, a4, a5, fun f x hx => ?_, a7, a8, a9⟩
  rw [zR_sR, if_neg (by omega)]; exact a6 f x hx
theorem f29_I {h h' : zH} {z d g : Nat} {v : Int} (F : f29 h h' z d) : f29 h (zsI h' g 29 v) z d := by
  obtain ⟨a1, a2, a3, a4, a5, a6, a7, a8, a9⟩ := F
  refine ⟨a1, a2, a3, a4, fun f x hx => ?_, a6, a7, a8, a9⟩
  rw [zI_sI, if_neg (by omega)]; exact a5 f x hx
theorem j_f (hz : zn h = 29) (h0 : ∀ x, 29 ≤ x → (zK h x).1 = 0) : f29 h (j19 h) 48 117370 := by
  have a0 : f29 h h 29 0 := ⟨hz, Nat.le_refl _, rfl, fun _ _ => rfl, fun _ _ _ => rfl, fun _ _ _ => rfl, fun _ _ => rfl, fun _ _ => rfl, h0⟩
  have b0 : f29 h (j0 h) 30 46 := f29_O a0
  have b1 : f29 h (j1 h) 31 13294 := f29_R (f29_A b0)
  have b2 : f29 h (j2 h) 32 26542 := f29_R (f29_A b1)
  have b3 : f29 h (j3 h) 33 26611 := f29_R (f29_A b2)
  have b4 : f29 h (j4 h) 34 26680 := f29_R (f29_A b3)
  have b5 : f29 h (j5 h) 35 26749 := f29_R (f29_A b4)
  have b6 : f29 h (j6 h) 36 26818 := f29_R (f29_A b5)
  have b7 : f29 h (j7 h) 36 26818 := f29_I (f29_I b6)
  have b8 : f29 h (j8 h) 37 27818 := f29_R (f29_A b7)
  have b9 : f29 h (j9 h) 38 27828 := f29_R (f29_A b8)
  have b10 : f29 h (j10 h) 39 27830 := f29_R (f29_A b9)
  have b11 : f29 h (j11 h) 40 115830 := f29_R (f29_A b10)
  have b12 : f29 h (j12 h) 41 115910 := f29_R (f29_A b11)
  have b13 : f29 h (j13 h) 42 117010 := f29_R (f29_A b12)
  have b14 : f29 h (j14 h) 43 117070 := f29_R (f29_A b13)
  have b15 : f29 h (j15 h) 44 117130 := f29_R (f29_A b14)
  have b16 : f29 h (j16 h) 45 117190 := f29_R (f29_A b15)
  have b17 : f29 h (j17 h) 46 117250 := f29_R (f29_A b16)
  have b18 : f29 h (j18 h) 47 117310 := f29_R (f29_A b17)
  have b19 : f29 h (j19 h) 48 117370 := f29_R (f29_A b18)
  exact b19
theorem j_ok (hz : zn h = 29) : mOK (j19 h) := by
  obtain ⟨K, I, R, A, B, n, s⟩ := h
  have hz' : n = 29 := hz
  subst hz'
  unfold mOK
  repeat' apply And.intro
  all_goals rfl
end mMake
section cGrow
variable {h0 h h' : zH} {N M N' M' z d : Nat} {w : Nat → Nat} {p f a : Int}
theorem cOK.fr29 (hc : cOK h) (hK : ∀ x, x < 29 → zK h' x = zK h x) (hR : ∀ f x, x < 29 → zR h' f x = zR h f x) : cOK h' := by
  unfold cOK at hc ⊢
  rw [hK 0 (by decide), hK 2 (by decide), hK 3 (by decide), hK 5 (by decide), hK 10 (by decide), hK 12 (by decide), hK 14 (by decide), hK 15 (by decide), hK 17 (by decide), hK 22 (by decide), hK 24 (by decide), hK 26 (by decide), hK 4 (by decide), hK 6 (by decide), hK 11 (by decide), hK 13 (by decide), hK 16 (by decide), hK 18 (by decide), hK 23 (by decide), hK 25 (by decide), hK 27 (by decide), hK 28 (by decide)]
  simp only [hR _ _ (show 2 < 29 by decide), hR _ _ (show 3 < 29 by decide), hR _ _ (show 5 < 29 by decide), hR _ _ (show 10 < 29 by decide), hR _ _ (show 12 < 29 by decide), hR _ _ (show 14 < 29 by decide), hR _ _ (show 15 < 29 by decide), hR _ _ (show 17 < 29 by decide), hR _ _ (show 22 < 29 by decide), hR _ _ (show 24 < 29 by decide), hR _ _ (show 26 < 29 by decide)]
  exact hc
/-- the model is made behind the class -/
theorem Start.grow (S : Start 29 h0 29 M w p f a h) (F : f29 h h' 48 d) : Start 48 h' 48 (M + d) w p f a h' := by
  obtain ⟨⟨hc, s0, s1, g1, l0, l1, z1, m1⟩, t0, t1, x1, G1, k1, b1⟩ := S
  obtain ⟨f1, f2, f3, fK, fI, fR, fA, fB, fZ⟩ := F
  have hz : zn h = 29 := Nat.le_antisymm z1.2.2.1 z1.1
  have hzs := z1.2.2.2
  have tt : ∀ {r t : Nat}, tOK h w r t → tOK h' w r t := by
    intro r t ⟨t1, t2, t3, t4, t5, t6, t7, t8, t9⟩
    exact ⟨by rw [fK _ (by omega)]; exact t1, by rw [fR _ _ (by omega)]; exact t2, by rw [fK _ (by omega)]; exact t3, by rw [fR _ _ (by omega)]; exact t4, by rw [fK _ (by omega)]; exact t5, t6, t7, by omega, t9⟩
  have ss : ∀ {r : Nat}, r < 29 → slS h w r → slS h' w r := by
    intro r hr ⟨t1, t2, t3⟩
    unfold slS
    rw [fB r hr]
    exact ⟨fun i hi hz => tt (t1 i hi hz), t2, t3⟩
  have sl : ∀ {r : Nat}, r < 29 → slL h w r → slL h' w r := by
    intro r hr ⟨t1, t2⟩
    unfold slL
    rw [fB r hr]
    exact ⟨fun i hi hz2 => by have := (t1 i hi hz2).2.1; omega, t2⟩
  have st : ∀ {so r : Nat}, so < 29 → r < 29 → slS h w r → stN h so r → stN h' so r := by
    intro so r h1 h2 hs hst
    have ht := hs.1 0 (by decide) hs.2.2
    have t8 := ht.2.2.2.2.2.2.2.1
    exact stN_fr hst ht (by rw [fB r h2]) (fR _ _ h1) (fR _ _ (by omega)) (fI _ _ (by omega)) (fI _ _ (by omega)) (fI _ _ (by omega)) (fI _ _ (by omega)) (fun k _ => by rw [fA _ (by omega)])
  have g2 : gRows h' := by
    obtain ⟨r1, r2, r3, r4, r5, r6⟩ := g1
    refine ⟨by rw [fK _ (by decide)]; exact r1, (fR _ _ (by decide)).trans r2, by rw [fK _ (by decide)]; exact r3, by rw [fK _ (by decide)]; exact r4, fun i hi hz2 => ?_, fun i j hi hj hz2 e => ?_⟩
    · rw [fB 11 (by decide)] at hz2 ⊢
      have := r5 i hi hz2
      have hlt : zB h 11 i < 29 := by
        rcases Nat.lt_or_ge (zB h 11 i) 29 with y | y
        · exact y
        · have := z1.2.1 (zB h 11 i) (by omega); omega
      rw [fK _ hlt]; exact this
    · rw [fB 11 (by decide)] at hz2 e
      exact r6 i j hi hj hz2 e
  have h16 : zR h 384 15 = 16 := hc.r384_15
  refine ⟨⟨hc.fr29 fK fR, ss (by decide) s0, ss (by decide) s1, g2, sl (by decide) l0, sl (by decide) l1, ⟨by omega, fun x hx => fZ x (by omega), by omega, by omega⟩, ⟨fun _ _ => rfl, fun _ _ _ => rfl, fun _ _ _ => rfl, fun _ => rfl, rfl, rfl⟩⟩, st (by decide) (by decide) s0 t0, st (by decide) (by decide) s1 t1, ?_, ⟨g2, (fI _ _ (by decide)).trans G1.2.1, G1.2.2.1, fun i hi => absurd hi (Nat.not_lt_zero _)⟩, ?_, ⟨fun i hi => by rw [fA 28 (by decide)]; exact b1.1 i hi, (fI _ _ (by decide)).trans b1.2.1, (fI _ _ (by decide)).trans b1.2.2⟩⟩
  · exact scIs_fr x1 (fR _ _ (by decide)) (fun k _ => by rw [h16, fA 16 (by decide)]) (fI _ _ (by decide)) (fI _ _ (by decide))
  · refine kn_of k1 (fun k hk => fI _ _ ?_)
    have : ∀ k ∈ ksA, aC k < 29 := by decide
    exact this k hk
end cGrow
