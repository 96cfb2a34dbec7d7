/-! THE CLASS STARTS OVER -/
def slS (h : zH) (w : Nat → Nat) (ra : Nat) : Prop := (∀ i, i < 32 → zB h ra i ≠ 0 → tOK h w ra (zB h ra i)) ∧ (∀ i j, i < 32 → j < 32 → zB h ra i ≠ 0 → zB h ra i = zB h ra j → i = j) ∧ zB h ra 0 ≠ 0
def slL (h : zH) (w : Nat → Nat) (la : Nat) : Prop := (∀ k, k < 40 → zB h la k ≠ 0 → ltOK h w la (zB h la k)) ∧ (∀ i j, i < 40 → j < 40 → zB h la i ≠ 0 → zB h la i = zB h la j → i = j)
/-- what holds of the class whatever its fields say -/
def cZ0 (z N M : Nat) (h : zH) : Prop := z ≤ zn h ∧ (∀ x, zn h ≤ x → (zK h x).1 = 0) ∧ zn h ≤ N ∧ zs h ≤ M
def RepS (z : Nat) (h0 : zH) (N M : Nat) (h : zH) (w : Nat → Nat) : Prop := cOK h ∧ slS h w 6 ∧ slS h w 18 ∧ gRows h ∧ slL h w 23 ∧ slL h w 25 ∧ cZ0 z N M h ∧ mEq h0 h
def stN (h : zH) (so ra : Nat) : Prop := sIs h (zB h ra 0) (X0, 0, 0) ∧ zR h 513 so = zB h ra 0
def kn (p f a : Int) (h : zH) (ks : List Nat) : Prop := ∀ k ∈ ks, zI h (fC k) (aC k) = V0 p f a k
section cStart
variable {h0 h h' : zH} {z N M N' M' : Nat} {w w' : Nat → Nat} {c : cg} {l : lg} {Q : Option zV → zH → Prop} {p f a : Int} {ks : List Nat} {so ra : Nat}
theorem RepC.toS (R : RepC h0 N M h w c l) : RepS 48 h0 N M h w := by
  obtain ⟨hc, v, x1, s0, s1, k1, g1, l0, l1, z1, m1⟩ := R
  exact ⟨hc, ⟨s0.1, s0.2.1, (s0.2.2.1 0 s0.2.2.2.2.1).1⟩, ⟨s1.1, s1.2.1, (s1.2.2.1 0 s1.2.2.2.2.1).1⟩, g1.1, ⟨l0.1, l0.2.1⟩, ⟨l1.1, l1.2.1⟩, z1, m1⟩
/-- writes of fields, of cells, of the newest state -/
theorem RepS.same (R : RepS z h0 N M h w) (hK : zK h' = zK h) (hB : zB h' = zB h) (hn : zn h' = zn h) (hs : zs h' = zs h) (hR : ∀ g x, g ≠ 513 → zR h' g x = zR h g x) (hR2 : ∀ x, x = 29 → zR h' 513 x = zR h 513 x) (hI : ∀ g, 640 ≤ g → zI h' g 29 = zI h g 29) (hA : ∀ x, (29 < x ∧ x < 48) ∨ x = 1 → zA h' x = zA h x) : RepS z h0 N M h' w := by
  obtain ⟨hc, s0, s1, g1, l0, l1, z1, m1⟩ := R
  have tt : ∀ {r t : Nat}, tOK h w r t → tOK h' w r t := by
    intro r t ⟨t1, t2, t3, t4, t5, t6, t7, t8, t9⟩
    exact ⟨by rw [hK]; exact t1, by rw [hR _ _ (by decide)]; exact t2, by rw [hK]; exact t3, by rw [hR _ _ (by decide)]; exact t4, by rw [hK]; exact t5, t6, t7, by rw [hn]; exact t8, t9⟩
  have ll : ∀ {r t : Nat}, ltOK h w r t → ltOK h' w r t := by
    intro r t ⟨t1, t2, t3, t4, t5, t6, t7⟩
    have e := hR 192 t (by decide)
    exact ⟨by rw [hK]; exact t1, by rw [hn]; exact t2, t3, by rw [hK, e]; exact t4, by rw [hK, e]; exact t5, by rw [hn, e]; exact t6, by rw [e]; exact t7⟩
  have ss : ∀ {r : Nat}, slS h w r → slS h' w r := by
    intro r ⟨t1, t2, t3⟩
    unfold slS
    rw [hB]
    exact ⟨fun i hi hz => tt (t1 i hi hz), t2, t3⟩
  have sl : ∀ {r : Nat}, slL h w r → slL h' w r := by
    intro r ⟨t1, t2⟩
    unfold slL
    rw [hB]
    exact ⟨fun i hi hz => ll (t1 i hi hz), t2⟩
  refine ⟨hc.fr (fun x _ => by rw [hK]) (fun g x _ hg => hR g x hg), ss s0, ss s1, ?_, sl l0, sl l1, ?_, ?_⟩
  · unfold gRows
    rw [hK, hB, hR _ _ (by decide)]
    exact g1
  · unfold cZ0
    rw [hK, hn, hs]
    exact z1
  · obtain ⟨m1, m2, m3, m4, m5, m6⟩ := m1
    refine ⟨fun g hg => (hI g hg).trans (m1 g hg), fun x p1 p2 => (hA x (Or.inl ⟨p1, p2⟩)).trans (m2 x p1 p2), fun x p1 p2 => by rw [hK]; exact m3 x p1 p2, fun g => ?_, by rw [hK]; exact m5, (hA 1 (Or.inr rfl)).trans m6⟩
    by_cases e : g = 513
    · rw [e, hR2 29 rfl]; exact m4 _
    · rw [hR g 29 e]; exact m4 g
theorem RepS.sI {g x : Nat} {v : Int} (R : RepS z h0 N M h w) (hg : g < 640) : RepS z h0 N M (zsI h g x v) w := R.same rfl rfl rfl rfl (fun _ _ _ => rfl) (fun _ _ => rfl) (fun q hq => zI_ne (by omega)) (fun _ _ => rfl)
theorem RepS.scr {s : Nat} {C : Nat → Int} {r q : Int} (R : RepS z h0 N M h w) (hs : zR h 384 s < 29 ∨ 48 ≤ zR h 384 s) (h1 : zR h 384 s ≠ 1) : RepS z h0 N M (zScr h s C r q) w := R.same rfl rfl rfl rfl (fun _ _ _ => rfl) (fun _ _ => rfl) (fun g hg => zI_Scr_o (by omega) (by omega)) (fun x hx => by
  funext i
  rw [zA_Scr, if_neg (by omega)])
theorem kn_sI {g x : Nat} {v : Int} (k : Nat) (hk : kn p f a h ks) (e1 : fC k = g) (e2 : aC k = x) (hv : v = V0 p f a k) (hks : ∀ j ∈ k :: ks, j < 34 ∧ vOK j) : kn p f a (zsI h g x v) (k :: ks) := by
  intro j hj
  rw [zI_sI]
  by_cases z : fC j = g ∧ aC j = x
  · rw [if_pos z, hv]
    have hjk := hks j hj
    have hkk := hks k List.mem_cons_self
    rw [fC_inj hjk.1 hkk.1 hjk.2 hkk.2 (z.1.trans e1.symm) (z.2.trans e2.symm)]
  · rw [if_neg z]
    rcases List.mem_cons.1 hj with y | y
    · subst y; exact absurd ⟨e1, e2⟩ z
    · exact hk j y
theorem kn_of (hk : kn p f a h ks) (e : ∀ k ∈ ks, zI h' (fC k) (aC k) = zI h (fC k) (aC k)) : kn p f a h' ks := fun k hkk => (e k hkk).trans (hk k hkk)
theorem stN_fr (hS : stN h so ra) (ht : tOK h w ra (zB h ra 0)) (hB : zB h' ra 0 = zB h ra 0) (hN : zR h' 513 so = zR h 513 so) (hR : zR h' 384 (zB h ra 0 + 1) = zR h 384 (zB h ra 0 + 1))
    (h1 : zI h' 449 (zB h ra 0) = zI h 449 (zB h ra 0)) (h2 : zI h' 450 (zB h ra 0) = zI h 450 (zB h ra 0)) (h3 : zI h' 385 (zB h ra 0 + 1) = zI h 385 (zB h ra 0 + 1)) (h4 : zI h' 386 (zB h ra 0 + 1) = zI h 386 (zB h ra 0 + 1)) (hA : ∀ k, k < 192 → zA h' (zB h ra 0 + 2) k = zA h (zB h ra 0 + 2) k) : stN h' so ra := by
  obtain ⟨⟨b1, b2, b3⟩, b4⟩ := hS
  have e := ht.2.2.2.1
  refine ⟨?_, by rw [hN, hB]; exact b4⟩
  rw [hB]
  exact ⟨scIs_fr b1 hR (fun k hk => by rw [e]; exact hA k hk) h3 h4, h1.trans b2, h2.trans b3⟩
theorem stN_sI {g x : Nat} {v : Int} (hS : stN h so ra) (hg : g ≠ 449 ∧ g ≠ 450 ∧ g ≠ 385 ∧ g ≠ 386) : stN (zsI h g x v) so ra := by
  obtain ⟨⟨b1, b2, b3⟩, b4⟩ := hS
  exact ⟨⟨scIs_fr b1 rfl (fun _ _ => rfl) (zI_ne (Ne.symm hg.2.2.1)) (zI_ne (Ne.symm hg.2.2.2)), (zI_ne (Ne.symm hg.1)).trans b2, (zI_ne (Ne.symm hg.2.1)).trans b3⟩, b4⟩
theorem scIs_sI {g x s : Nat} {v : Int} {X : sC} (hS : scIs h s X) (hg : g ≠ 385 ∧ g ≠ 386) : scIs (zsI h g x v) s X := scIs_fr hS rfl (fun _ _ => rfl) (zI_ne (Ne.symm hg.1)) (zI_ne (Ne.symm hg.2))
/-- all there: the class as at first -/
theorem repC_0 (R : RepS 48 h0 N M h w) (s0 : stN h 5 6) (s1 : stN h 17 18) (hx : scIs h 15 X0) {G : Nat → Nat → Int} (hG : rG h 0 G) (hk : kn p f a h [0, 1, 2, 3, 4, 5, 6, 7, 8, 9, 10, 11, 12, 13, 14, 15, 16, 17, 18, 19, 20, 21, 22, 23, 31, 32, 33]) (hT : ∀ i, i < 7 → zA h 28 i = 0) (z0 : zI h 257 22 = 0) (z1 : zI h 257 24 = 0) : RepC h0 N M h w (c0 p f a) l0 := by
  obtain ⟨hc, t0, t1, g1, l0', l1', c1, m1⟩ := R
  refine ⟨hc, ⟨fun k hk1 hk2 => hk k ?_, fun i hi => ?_⟩, hx, ?_, ?_, fun i hi => ?_, ?_, ?_, ?_, c1, m1⟩
  · have : ∀ k, k < 34 → vOK k → k ∈ [0, 1, 2, 3, 4, 5, 6, 7, 8, 9, 10, 11, 12, 13, 14, 15, 16, 17, 18, 19, 20, 21, 22, 23, 31, 32, 33] := by decide +kernel
    exact this k hk1 hk2
  · rw [hT i hi]
    show 0 = V0 p f a (24 + i)
    have : i = 0 ∨ i = 1 ∨ i = 2 ∨ i = 3 ∨ i = 4 ∨ i = 5 ∨ i = 6 := by omega
    rcases this with y | y | y | y | y | y | y <;> subst y <;> rfl
  · show cS h w 5 6 (1 : Int).toNat _
    refine ⟨t0.1, t0.2.1, fun i hi => ?_, s0.2, by decide, by decide⟩
    have hi0 : i = 0 := by have : i < 1 := hi; omega
    subst hi0
    exact ⟨t0.2.2, s0.1⟩
  · show cS h w 17 18 (1 : Int).toNat _
    refine ⟨t1.1, t1.2.1, fun i hi => ?_, s1.2, by decide, by decide⟩
    have hi0 : i = 0 := by have : i < 1 := hi; omega
    subst hi0
    exact ⟨t1.2.2, s1.1⟩
  · have hi' : (i : Int) < 0 := hi
    omega
  · show rG h (0 : Int).toNat _
    exact ⟨hG.1, hG.2.1, hG.2.2.1, fun i hi => absurd hi (Nat.not_lt_zero _)⟩
  · exact ⟨l0'.1, l0'.2, z0, Nat.zero_le _, fun k hk => absurd hk (Nat.not_lt_zero _)⟩
  · exact ⟨l1'.1, l1'.2, z1, Nat.zero_le _, fun k hk => absurd hk (Nat.not_lt_zero _)⟩
/-- a States' reset -/
def hRs (h : zH) (so t : Nat) : zH := zsI (zsR (zsI (zsI (zScr h (t + 1) (s_blank (zA h (t + 2))) 0 0) 449 t 0) 450 t 0) 513 so t) 514 so 1
theorem x_Sreset (R : RepS z h0 N M h w) (hso : (so = 5 ∧ ra = 6) ∨ (so = 17 ∧ ra = 18)) (hQ : Q none (hRs h so (zB h ra 0))) : zE 67 0 [some (.inr so), none] [] h Q := by
  have hc := R.1
  rcases hso with ⟨rfl, rfl⟩ | ⟨rfl, rfl⟩
  · obtain ⟨t1, t2, t3, t4, t5, _⟩ := R.2.1.1 0 (by decide) R.2.1.2.2
    refine c_Sreset hc.k5 hc.r512_5 hc.k6 rfl R.2.1.2.2 t1 (by rw [t2]; exact ⟨t3, by rw [t4]; exact t5⟩) ?_
    rw [t2, t4]
    exact hQ
  · obtain ⟨t1, t2, t3, t4, t5, _⟩ := R.2.2.1.1 0 (by decide) R.2.2.1.2.2
    refine c_Sreset hc.k17 hc.r512_17 hc.k18 rfl R.2.2.1.2.2 t1 (by rw [t2]; exact ⟨t3, by rw [t4]; exact t5⟩) ?_
    rw [t2, t4]
    exact hQ
theorem hRs_I {t g x : Nat} (h1 : g ≠ 449 ∧ g ≠ 450 ∧ g ≠ 385 ∧ g ≠ 386) (h2 : ¬ (g = 514 ∧ x = so)) : zI (hRs h so t) g x = zI h g x := by
  unfold hRs
  rw [zI_sI, if_neg h2, zI_sR, zI_ne h1.2.1, zI_ne h1.1, zI_Scr_o h1.2.2.1 h1.2.2.2]
theorem hRs_Ix {t g x : Nat} (h1 : x ≠ t) (h2 : x ≠ t + 1) (h3 : x ≠ so) : zI (hRs h so t) g x = zI h g x := by
  unfold hRs
  rw [zI_na h3, zI_sR, zI_na h1, zI_na h1, zI_Scr, if_neg (fun z => h2 z.2), if_neg (fun z => h2 z.2)]
theorem hRs_A {t x i : Nat} (e : zR h 384 (t + 1) = t + 2) (h1 : x ≠ t + 2) : zA (hRs h so t) x i = zA h x i := by
  show zA (zScr h (t + 1) (s_blank (zA h (t + 2))) 0 0) x i = _
  rw [zA_Scr, e, if_neg h1]
theorem hRs_st {t : Nat} (ht : zB h ra 0 = t) (e : zR h 384 (t + 1) = t + 2) (hso : so ≠ t) (hso1 : so ≠ t + 1) : stN (hRs h so t) so ra := by
  have eB : zB (hRs h so t) ra 0 = t := ht
  refine ⟨?_, ?_⟩
  · rw [eB]
    refine ⟨⟨fun k hk => ?_, ?_, ?_⟩, ?_, ?_⟩
    · show zA (zScr h (t + 1) (s_blank (zA h (t + 2))) 0 0) (zR h 384 (t + 1)) k = 32
      rw [zA_Scr_s]
      exact if_pos hk
    · unfold hRs
      rw [zI_ne (by decide), zI_sR, zI_ne (by decide), zI_ne (by decide), zI_Scr_r]
      rfl
    · unfold hRs
      rw [zI_ne (by decide), zI_sR, zI_ne (by decide), zI_ne (by decide), zI_Scr_c]
      rfl
    · unfold hRs
      rw [zI_ne (by decide), zI_sR, zI_ne (by decide), zI_sI_s]
    · unfold hRs
      rw [zI_ne (by decide), zI_sR, zI_sI_s]
  · show zR (zsR _ 513 so t) 513 so = _
    rw [eB, zR_sR, if_pos ⟨rfl, rfl⟩]
theorem RepS.rs {t : Nat} (R : RepS z h0 N M h w) (ht : t = 7 ∨ t = 19 ∨ 48 ≤ t) (e : zR h 384 (t + 1) = t + 2) (hso : so ≠ 29) : RepS z h0 N M (hRs h so t) w := by
  refine R.same rfl rfl rfl rfl (fun g x hg => ?_) (fun x hx => ?_) (fun g hg => hRs_I (by omega) (by omega)) (fun x hx => ?_)
  · show zR (zsR (zsI (zsI (zScr h (t + 1) (s_blank (zA h (t + 2))) 0 0) 449 t 0) 450 t 0) 513 so t) g x = _
    rw [zR_sR, if_neg (fun z => hg z.1)]
    rfl
  · show zR (zsR (zsI (zsI (zScr h (t + 1) (s_blank (zA h (t + 2))) 0 0) 449 t 0) 450 t 0) 513 so t) 513 x = _
    rw [zR_sR, if_neg (fun z => hso (z.2.symm.trans hx))]
    rfl
  · funext i
    exact hRs_A e (by omega)
end cStart
