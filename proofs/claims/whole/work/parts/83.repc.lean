/-! THE CLASS HOLDS WHAT THE SPEC SAYS -/
def fC (k : Nat) : Nat := [582, 583, 584, 2, 3, 4, 5, 6, 7, 8, 10, 9, 514, 324, 325, 326, 327, 329, 330, 328, 514, 129, 131, 130, 0, 0, 0, 0, 0, 0, 0, 132, 133, 134].getD k 0
def aC (k : Nat) : Nat := [2, 2, 2, 14, 14, 14, 14, 14, 14, 14, 14, 14, 17, 3, 3, 3, 3, 3, 3, 3, 5, 10, 10, 10, 0, 0, 0, 0, 0, 0, 0, 10, 10, 10].getD k 0
abbrev vOK (k : Nat) : Prop := k < 24 ∨ (31 ≤ k ∧ k < 34)
theorem fC_inj0 : ∀ j, j < 34 → ∀ k, k < 34 → ((vOK j ∧ vOK k) ∧ fC j = fC k ∧ aC j = aC k) → j = k := by decide +kernel
theorem fC_inj {j k : Nat} (hj : j < 34) (hk : k < 34) (h1 : vOK j) (h2 : vOK k) (e1 : fC j = fC k) (e2 : aC j = aC k) : j = k := fC_inj0 j hj k hk ⟨⟨h1, h2⟩, e1, e2⟩
theorem fC_129 : ∀ k, k < 34 → (vOK k ∧ fC k = 129) → k = 21 := by decide +kernel
theorem fC_r : ∀ k, k < 34 → vOK k → (fC k < 11 ∨ (129 ≤ fC k ∧ fC k ≤ 134) ∨ (324 ≤ fC k ∧ fC k ≤ 330) ∨ fC k = 514 ∨ (582 ≤ fC k ∧ fC k ≤ 584)) ∧ (aC k = 2 ∨ aC k = 3 ∨ aC k = 5 ∨ aC k = 10 ∨ aC k = 14 ∨ aC k = 17) := by decide +kernel
def cV (h : zH) (V : Nat → Int) : Prop := (∀ k, k < 34 → vOK k → zI h (fC k) (aC k) = V k) ∧ ∀ i, i < 7 → zA h 28 i = V (24 + i)
def sIs (h : zH) (t : Nat) (x : sT) : Prop := scIs h (t + 1) x.1 ∧ zI h 449 t = x.2.1 ∧ zI h 450 t = x.2.2
def tOK (h : zH) (w : Nat → Nat) (ra t : Nat) : Prop := (zK h t).1 = 17 ∧ zR h 448 t = t + 1 ∧ (zK h (t + 1)).1 = 16 ∧ zR h 384 (t + 1) = t + 2 ∧ zK h (t + 2) = (1, 192) ∧ w t = ra ∧ w (t + 2) = t + 1 ∧ t + 2 < zn h ∧ (t = ra + 1 ∨ 48 ≤ t)
def cS (h : zH) (w : Nat → Nat) (so ra n : Nat) (S : Nat → sT) : Prop := (∀ i, i < 32 → zB h ra i ≠ 0 → tOK h w ra (zB h ra i)) ∧ (∀ i j, i < 32 → j < 32 → zB h ra i ≠ 0 → zB h ra i = zB h ra j → i = j) ∧ (∀ i, i < n → zB h ra i ≠ 0 ∧ sIs h (zB h ra i) (S i)) ∧ zR h 513 so = zB h ra (n - 1) ∧ 1 ≤ n ∧ n ≤ 32
def ltOK (h : zH) (w : Nat → Nat) (la q : Nat) : Prop := (zK h q).1 = 13 ∧ (48 ≤ q ∧ q < zn h) ∧ w q = la ∧ (zK h (zR h 192 q)).1 = 1 ∧ (zK h (zR h 192 q)).2 ≤ 100000 ∧ (48 ≤ zR h 192 q ∧ zR h 192 q < zn h) ∧ w (zR h 192 q) = q
def letIs (h : zH) (q : Nat) (xs : List Int) : Prop := zI h 193 q = xs.length ∧ xs.length ≤ (zK h (zR h 192 q)).2 ∧ isLs (zA h (zR h 192 q)) xs
def cL (h : zH) (w : Nat → Nat) (ln la : Nat) (xs : List (List Int)) : Prop := (∀ k, k < 40 → zB h la k ≠ 0 → ltOK h w la (zB h la k)) ∧ (∀ i j, i < 40 → j < 40 → zB h la i ≠ 0 → zB h la i = zB h la j → i = j) ∧ zI h 257 ln = xs.length ∧ xs.length ≤ 40 ∧ ∀ k, k < xs.length → zB h la k ≠ 0 ∧ letIs h (zB h la k) (xs.getD k [])
def cZ (N M : Nat) (h : zH) : Prop := 48 ≤ zn h ∧ (∀ x, zn h ≤ x → (zK h x).1 = 0) ∧ zn h ≤ N ∧ zs h ≤ M
def mEq (h0 h : zH) : Prop := (∀ f, 640 ≤ f → zI h f 29 = zI h0 f 29) ∧ (∀ a, 29 < a → a < 48 → zA h a = zA h0 a) ∧ (∀ x, 29 ≤ x → x < 48 → zK h x = zK h0 x) ∧ (∀ f, zR h f 29 = zR h0 f 29) ∧ zK h 1 = zK h0 1 ∧ zA h 1 = zA h0 1
def RepC (h0 : zH) (N M : Nat) (h : zH) (w : Nat → Nat) (c : cg) (l : lg) : Prop :=
  cOK h ∧ cV h c.1 ∧ scIs h 15 c.2.1 ∧ cS h w 5 6 (c.1 20).toNat (c.2.2.1 0) ∧ cS h w 17 18 (c.1 12).toNat (c.2.2.1 1) ∧ (∀ i : Nat, (i : Int) < c.1 13 → zA h 4 i = c.2.2.2.1 i) ∧ rG h (c.1 21).toNat c.2.2.2.2 ∧ cL h w 22 23 (l 0) ∧ cL h w 24 25 (l 1) ∧ cZ N M h ∧ mEq h0 h
section cFr
variable {h0 h h' : zH} {N M : Nat} {w w' : Nat → Nat} {c : cg} {l : lg} {so ra n ln la : Nat} {S : Nat → sT} {xs : List (List Int)}
theorem cS_fr (hS : cS h w so ra n S) (hK : ∀ x, x < zn h → zK h' x = zK h x) (hn : zn h ≤ zn h') (hB : ∀ i, zB h' ra i = zB h ra i) (hN : zR h' 513 so = zR h 513 so) (hR : ∀ x, x < zn h → zR h' 448 x = zR h 448 x ∧ zR h' 384 x = zR h 384 x) (hw : ∀ x, x < zn h → w' x = w x)
    (hI : ∀ t, tOK h w ra t → zI h' 449 t = zI h 449 t ∧ zI h' 450 t = zI h 450 t ∧ zI h' 385 (t + 1) = zI h 385 (t + 1) ∧ zI h' 386 (t + 1) = zI h 386 (t + 1) ∧ ∀ k, k < 192 → zA h' (t + 2) k = zA h (t + 2) k) : cS h' w' so ra n S := by
  obtain ⟨s1, s2, s3, s4, s5, s6⟩ := hS
  refine ⟨fun i hi hz => ?_, fun i j hi hj hz e => ?_, fun i hi => ?_, ?_, s5, s6⟩
  · rw [hB] at hz ⊢
    obtain ⟨t1, t2, t3, t4, t5, t6, t7, t8, t9⟩ := s1 i hi hz
    exact ⟨by rw [hK _ (by omega)]; exact t1, by rw [(hR _ (by omega)).1]; exact t2, by rw [hK _ (by omega)]; exact t3, by rw [(hR _ (by omega)).2]; exact t4, by rw [hK _ (by omega)]; exact t5, by rw [hw _ (by omega)]; exact t6, by rw [hw _ (by omega)]; exact t7, by omega, t9⟩
  · rw [hB] at hz e
    rw [hB] at e
    exact s2 i j hi hj hz e
  · obtain ⟨a1, a2⟩ := s3 i hi
    rw [hB]
    refine ⟨a1, ?_⟩
    have ht := s1 i (by omega) a1
    obtain ⟨i1, i2, i3, i4, i5⟩ := hI _ ht
    obtain ⟨t1, t2, t3, t4, t5, t6, t7, t8, t9⟩ := ht
    obtain ⟨⟨b1, b2, b3⟩, b4, b5⟩ := a2
    refine ⟨⟨fun k hk => ?_, i3.trans b2, i4.trans b3⟩, i1.trans b4, i2.trans b5⟩
    have := b1 k hk
    rw [t4] at this
    rw [(hR _ (by omega)).2, t4, i5 k hk]
    exact this
  · rw [hN, s4, hB]
theorem cL_fr (hL : cL h w ln la xs) (hK : ∀ x, x < zn h → zK h' x = zK h x) (hn : zn h ≤ zn h') (hB : ∀ i, zB h' la i = zB h la i) (hw : ∀ x, x < zn h → w' x = w x) (hs : zI h' 257 ln = zI h 257 ln)
    (hI : ∀ q, ltOK h w la q → zI h' 193 q = zI h 193 q ∧ zR h' 192 q = zR h 192 q ∧ ∀ i, zA h' (zR h 192 q) i = zA h (zR h 192 q) i) : cL h' w' ln la xs := by
  obtain ⟨s1, s2, s3, s4, s5⟩ := hL
  refine ⟨fun i hi hz => ?_, fun i j hi hj hz e => ?_, hs.trans s3, s4, fun k hk => ?_⟩
  · rw [hB] at hz ⊢
    have ht := s1 i hi hz
    obtain ⟨i1, i2, i3⟩ := hI _ ht
    obtain ⟨t1, t2, t3, t4, t5, t6, t7⟩ := ht
    refine ⟨by rw [hK _ (by omega)]; exact t1, by omega, by rw [hw _ (by omega)]; exact t3, ?_, ?_, ?_, ?_⟩
    · rw [i2, hK _ (by omega)]; exact t4
    · rw [i2, hK _ (by omega)]; exact t5
    · rw [i2]; omega
    · rw [i2, hw _ (by omega)]; exact t7
  · rw [hB] at hz e
    rw [hB] at e
    exact s2 i j hi hj hz e
  · obtain ⟨a1, b1, b2, b3⟩ := s5 k hk
    rw [hB]
    have ht := s1 k (by omega) a1
    obtain ⟨i1, i2, i3⟩ := hI _ ht
    obtain ⟨t1, t2, t3, t4, t5, t6, t7⟩ := ht
    refine ⟨a1, i1.trans b1, ?_, fun i v hv => ?_⟩
    · rw [i2, hK _ (by omega)]; exact b2
    · rw [i2, i3]; exact b3 i v hv
theorem rG_fr {g : Nat → Nat → Int} (hG : rG h n g) (hK : ∀ x, (zK h x).1 ≠ 0 → zK h' x = zK h x) (hK0 : (zK h' 0).1 = 0) (hR : zR h' 128 10 = zR h 128 10) (hB : ∀ i, zB h' 11 i = zB h 11 i) (hs : zI h' 129 10 = zI h 129 10) (hI : ∀ f x, 64 ≤ f → f ≤ 70 → (zK h x).1 = 11 → zI h' f x = zI h f x) : rG h' n g := by
  obtain ⟨⟨r1, r2, r3, r4, r5, r6⟩, s1, s2, s3⟩ := hG
  refine ⟨⟨?_, hR.trans r2, ?_, hK0, fun i hi hz => ?_, fun i j hi hj hz e => ?_⟩, hs.trans s1, s2, fun i hi => ?_⟩
  · rw [hK 10 (by rw [r1]; decide)]; exact r1
  · rw [hK 11 (by rw [r3]; decide)]; exact r3
  · rw [hB] at hz ⊢
    have := r5 i hi hz
    rw [hK _ (by rw [this]; decide)]; exact this
  · rw [hB] at hz e
    rw [hB] at e
    exact r6 i j hi hj hz e
  · rw [hB]
    have := s3 i hi
    obtain ⟨q0, q1, q2, q3, q4, q5, q6, q7⟩ := this
    refine ⟨by rw [hK _ (by rw [q0]; decide)]; exact q0, ?_, ?_, ?_, ?_, ?_, ?_, ?_⟩
    · rw [hI _ _ (by decide) (by decide) q0]; exact q1
    · rw [hI _ _ (by decide) (by decide) q0]; exact q2
    · rw [hI _ _ (by decide) (by decide) q0]; exact q3
    · rw [hI _ _ (by decide) (by decide) q0]; exact q4
    · rw [hI _ _ (by decide) (by decide) q0]; exact q5
    · rw [hI _ _ (by decide) (by decide) q0]; exact q6
    · rw [hI _ _ (by decide) (by decide) q0]; exact q7
theorem scIs_fr {s : Nat} {x : sC} (hs : scIs h s x) (hR : zR h' 384 s = zR h 384 s) (hA : ∀ k, k < 192 → zA h' (zR h 384 s) k = zA h (zR h 384 s) k) (h1 : zI h' 385 s = zI h 385 s) (h2 : zI h' 386 s = zI h 386 s) : scIs h' s x :=
  ⟨fun k hk => by rw [hR, hA k hk]; exact hs.1 k hk, h1.trans hs.2.1, h2.trans hs.2.2⟩
/-- a write to an int field of none of those that the parts look at -/
theorem RepC.sI {k : Nat} {v : Int} (R : RepC h0 N M h w c l) (hk : k < 34) (hv : vOK k) (h12 : k ≠ 12) (h13 : k ≠ 13) (h20 : k ≠ 20) (h21 : k ≠ 21) : RepC h0 N M (zsI h (fC k) (aC k) v) w (vS c k v) l := by
  obtain ⟨hc, ⟨v1, v2⟩, x1, s0, s1, k1, g1, l0, l1, z1, m1⟩ := R
  have hr := fC_r k hk hv
  have hne : fC k ≠ 129 := fun e => h21 (fC_129 k hk ⟨hv, e⟩)
  have e12 : (vS c k v).1 12 = c.1 12 := vS_n (Ne.symm h12)
  have e13 : (vS c k v).1 13 = c.1 13 := vS_n (Ne.symm h13)
  have e20 : (vS c k v).1 20 = c.1 20 := vS_n (Ne.symm h20)
  have e21 : (vS c k v).1 21 = c.1 21 := vS_n (Ne.symm h21)
  refine ⟨hc, ⟨fun j hj hv2 => ?_, fun i hi => ?_⟩, ?_, ?_, ?_, ?_, ?_, ?_, ?_, z1, ?_⟩
  · show zI (zsI h (fC k) (aC k) v) (fC j) (aC j) = fup c.1 k v j
    by_cases e : j = k
    · subst e
      rw [zI_sI_s, fup_s]
    · rw [fup_n e]
      rw [zI_sI, if_neg (fun z => e (fC_inj hj hk hv2 hv z.1 z.2))]
      exact v1 j hj hv2
  · show zA h 28 i = fup c.1 k v (24 + i)
    rw [fup_n (by omega)]
    exact v2 i hi
  · exact scIs_fr x1 rfl (fun _ _ => rfl) (zI_ne (by omega)) (zI_ne (by omega))
  · rw [e20]
    exact cS_fr s0 (fun _ _ => rfl) (Nat.le_refl _) (fun _ => rfl) rfl (fun _ _ => ⟨rfl, rfl⟩) (fun _ _ => rfl) (fun t _ => ⟨zI_ne (by omega), zI_ne (by omega), zI_ne (by omega), zI_ne (by omega), fun _ _ => rfl⟩)
  · rw [e12]
    exact cS_fr s1 (fun _ _ => rfl) (Nat.le_refl _) (fun _ => rfl) rfl (fun _ _ => ⟨rfl, rfl⟩) (fun _ _ => rfl) (fun t _ => ⟨zI_ne (by omega), zI_ne (by omega), zI_ne (by omega), zI_ne (by omega), fun _ _ => rfl⟩)
  · rw [e13]; exact k1
  · rw [e21]
    exact rG_fr g1 (fun _ _ => rfl) hc.k0 rfl (fun _ => rfl) (zI_ne (Ne.symm hne)) (fun f x z1 z2 _ => zI_ne (by omega))
  · exact cL_fr l0 (fun _ _ => rfl) (Nat.le_refl _) (fun _ => rfl) (fun _ _ => rfl) (zI_ne (by omega)) (fun q _ => ⟨zI_ne (by omega), rfl, fun _ => rfl⟩)
  · exact cL_fr l1 (fun _ _ => rfl) (Nat.le_refl _) (fun _ => rfl) (fun _ _ => rfl) (zI_ne (by omega)) (fun q _ => ⟨zI_ne (by omega), rfl, fun _ => rfl⟩)
  · exact ⟨fun f hf => (zI_na (by omega)).trans (m1.1 f hf), m1.2⟩
end cFr
