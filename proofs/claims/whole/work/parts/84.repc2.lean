/-! THE CLASS: what its writes do to what it holds -/
section cOps
variable {h0 h h' : zH} {N M : Nat} {w w' : Nat → Nat} {c : cg} {l : lg} {v : Int}
theorem RepC.ext {V' : Nat → Int} (R : RepC h0 N M h w c l) (hV : ∀ k, k < 34 → V' k = c.1 k) : RepC h0 N M h w (V', c.2) l := by
  obtain ⟨hc, ⟨v1, v2⟩, x1, s0, s1, k1, g1, l0, l1, z1, m1⟩ := R
  have e12 : V' 12 = c.1 12 := hV 12 (by omega)
  have e13 : V' 13 = c.1 13 := hV 13 (by omega)
  have e20 : V' 20 = c.1 20 := hV 20 (by omega)
  have e21 : V' 21 = c.1 21 := hV 21 (by omega)
  refine ⟨hc, ⟨fun j hj hv2 => (v1 j hj hv2).trans (hV j hj).symm, fun i hi => (v2 i hi).trans (hV _ (by omega)).symm⟩, x1, ?_, ?_, ?_, ?_, l0, l1, z1, m1⟩
  · show cS h w 5 6 (V' 20).toNat _
    rw [e20]; exact s0
  · show cS h w 17 18 (V' 12).toNat _
    rw [e12]; exact s1
  · intro i hi
    have hi' : (i : Int) < V' 13 := hi
    rw [e13] at hi'
    exact k1 i hi'
  · show rG h (V' 21).toNat _
    rw [e21]; exact g1
/-- a write to an array that is none of a screen's or a letter's on a line -/
theorem RepC.arr {V' : Nat → Int} {K' : Nat → Int} (R : RepC h0 N M h w c l) (hK : zK h' = zK h) (hR : zR h' = zR h) (hB : zB h' = zB h) (hn : zn h' = zn h) (hs : zs h' = zs h) (hI : ∀ f x, f ≠ 193 ∨ x ≠ 26 → zI h' f x = zI h f x)
    (hA : ∀ a, a ≠ 4 → a ≠ 27 → a ≠ 28 → zA h' a = zA h a) (hV : ∀ k, k < 24 ∨ (31 ≤ k ∧ k < 34) → V' k = c.1 k) (hT : ∀ i, i < 7 → zA h' 28 i = V' (24 + i)) (hk : ∀ i : Nat, (i : Int) < c.1 13 → zA h' 4 i = K' i) :
    RepC h0 N M h' w (V', c.2.1, c.2.2.1, K', c.2.2.2.2) l := by
  obtain ⟨hc, ⟨v1, v2⟩, x1, s0, s1, k1, g1, l0, l1, z1, m1⟩ := R
  have e12 : V' 12 = c.1 12 := hV 12 (by omega)
  have e13 : V' 13 = c.1 13 := hV 13 (by omega)
  have e20 : V' 20 = c.1 20 := hV 20 (by omega)
  have e21 : V' 21 = c.1 21 := hV 21 (by omega)
  have hI2 : ∀ f x, f ≠ 193 → zI h' f x = zI h f x := fun f x z => hI f x (Or.inl z)
  have c16 : zR h 384 15 = 16 := hc.r384_15
  refine ⟨hc.fr (fun x _ => by rw [hK]) (fun f x _ _ => by rw [hR]), ⟨fun j hj hv2 => ?_, hT⟩, ?_, ?_, ?_, ?_, ?_, ?_, ?_, ⟨by rw [hn]; exact z1.1, fun x hx => by rw [hK]; exact z1.2.1 x (by rw [hn] at hx; exact hx), by rw [hn]; exact z1.2.2.1, by rw [hs]; exact z1.2.2.2⟩, ?_⟩
  · have := fC_r j hj hv2
    rw [hI2 _ _ (by omega)]
    exact (v1 j hj hv2).trans (hV j hv2).symm
  · exact scIs_fr x1 (by rw [hR]) (fun k _ => by rw [c16, hA _ (by decide) (by decide) (by decide)]) (hI2 _ _ (by decide)) (hI2 _ _ (by decide))
  · show cS h' w 5 6 (V' 20).toNat _
    rw [e20]
    exact cS_fr s0 (fun _ _ => by rw [hK]) (Nat.le_of_eq hn.symm) (fun _ => by rw [hB]) (by rw [hR]) (fun _ _ => by rw [hR]; exact ⟨rfl, rfl⟩) (fun _ _ => rfl) (fun t ht => ⟨hI2 _ _ (by decide), hI2 _ _ (by decide), hI2 _ _ (by decide), hI2 _ _ (by decide), fun k _ => by
      have := ht.2.2.2.2.2.2.2.2
      rw [hA _ (by omega) (by omega) (by omega)]⟩)
  · show cS h' w 17 18 (V' 12).toNat _
    rw [e12]
    exact cS_fr s1 (fun _ _ => by rw [hK]) (Nat.le_of_eq hn.symm) (fun _ => by rw [hB]) (by rw [hR]) (fun _ _ => by rw [hR]; exact ⟨rfl, rfl⟩) (fun _ _ => rfl) (fun t ht => ⟨hI2 _ _ (by decide), hI2 _ _ (by decide), hI2 _ _ (by decide), hI2 _ _ (by decide), fun k _ => by
      have := ht.2.2.2.2.2.2.2.2
      rw [hA _ (by omega) (by omega) (by omega)]⟩)
  · intro i hi
    have hi' : (i : Int) < V' 13 := hi
    rw [e13] at hi'
    exact hk i hi'
  · show rG h' (V' 21).toNat _
    rw [e21]
    exact rG_fr g1 (fun _ _ => by rw [hK]) (by rw [hK]; exact hc.k0) (by rw [hR]) (fun _ => by rw [hB]) (hI2 _ _ (by decide)) (fun f x z1 z2 _ => hI2 _ _ (by omega))
  · exact cL_fr l0 (fun _ _ => by rw [hK]) (Nat.le_of_eq hn.symm) (fun _ => by rw [hB]) (fun _ _ => rfl) (hI2 _ _ (by decide)) (fun q hq => ⟨hI _ _ (Or.inr (by have := hq.2.1; omega)), by rw [hR], fun i => by
      have := hq.2.2.2.2.2.1
      rw [hA _ (by omega) (by omega) (by omega)]⟩)
  · exact cL_fr l1 (fun _ _ => by rw [hK]) (Nat.le_of_eq hn.symm) (fun _ => by rw [hB]) (fun _ _ => rfl) (hI2 _ _ (by decide)) (fun q hq => ⟨hI _ _ (Or.inr (by have := hq.2.1; omega)), by rw [hR], fun i => by
      have := hq.2.2.2.2.2.1
      rw [hA _ (by omega) (by omega) (by omega)]⟩)
  · obtain ⟨m1, m2, m3, m4, m5, m6⟩ := m1
    exact ⟨fun f hf => (hI _ _ (Or.inr (by decide))).trans (m1 f hf), fun a p1 p2 => (hA a (by omega) (by omega) (by omega)).trans (m2 a p1 p2), fun x p1 p2 => by rw [hK]; exact m3 x p1 p2, fun f => by rw [hR]; exact m4 f, by rw [hK]; exact m5, (hA 1 (by decide) (by decide) (by decide)).trans m6⟩
theorem RepC.sT {i : Nat} (R : RepC h0 N M h w c l) (hi : i < 7) : RepC h0 N M (zsA h 28 i v) w (vS c (24 + i) v) l := by
  refine R.arr (h' := zsA h 28 i v) (V' := fup c.1 (24 + i) v) (K' := c.2.2.2.1) rfl rfl rfl rfl rfl (fun _ _ _ => rfl) (fun a _ _ z => ?_) (fun k hk => fup_n (by omega)) (fun j hj => ?_) (fun j hj => ?_)
  · funext q
    rw [zA_sA, if_neg (fun e => z e.1)]
  · rw [zA_sA]
    by_cases e : j = i
    · subst e
      rw [if_pos ⟨rfl, rfl⟩, fup_s]
    · rw [if_neg (fun z => e z.2), fup_n (by omega)]
      exact R.2.1.2 j hj
  · rw [zA_sA, if_neg (fun z => absurd z.1 (by decide))]
    exact R.2.2.2.2.2.1 j hj
theorem RepC.sD {g : Nat → Int} {n : Int} (R : RepC h0 N M h w c l) : RepC h0 N M (zLet h 26 g n) w c l := by
  have hb : zR h 192 26 = 27 := R.1.r192_26
  refine R.arr (h' := zLet h 26 g n) (V' := c.1) (K' := c.2.2.2.1) rfl rfl rfl rfl rfl (fun f x z => ?_) (fun a _ z _ => ?_) (fun k hk => rfl) (fun j hj => ?_) (fun j hj => ?_)
  · rw [zI_Let, if_neg (fun e => z.elim (fun y => y e.1) (fun y => y e.2))]
  · funext q
    rw [zA_Let, if_neg (by rw [hb]; exact z)]
  · rw [zA_Let, if_neg (by rw [hb]; decide)]
    exact R.2.1.2 j hj
  · rw [zA_Let, if_neg (by rw [hb]; decide)]
    exact R.2.2.2.2.2.1 j hj
/-- a screen's write: the far one, or the one where states are laid -/
theorem RepC.scr {s : Nat} {C : Nat → Int} {r q : Int} {X' : sC} (R : RepC h0 N M h w c l) (hs : s = 15 ∨ s = 12) (hX : scIs (zScr h s C r q) 15 X') : RepC h0 N M (zScr h s C r q) w (xS c X') l := by
  obtain ⟨hc, ⟨v1, v2⟩, x1, s0, s1, k1, g1, l0, l1, z1, m1⟩ := R
  have hcell : zR h 384 s = 16 ∨ zR h 384 s = 13 := by
    rcases hs with rfl | rfl
    · exact Or.inl hc.r384_15
    · exact Or.inr hc.r384_12
  have hA : ∀ a, a ≠ 13 → a ≠ 16 → zA (zScr h s C r q) a = zA h a := fun a p1 p2 => funext fun i => by
    rw [zA_Scr, if_neg (by omega)]
  have hI : ∀ f x, x ≠ s → zI (zScr h s C r q) f x = zI h f x := fun f x p => by
    rw [zI_Scr, if_neg (fun e => p e.2), if_neg (fun e => p e.2)]
  have hI2 : ∀ f x, f ≠ 385 → f ≠ 386 → zI (zScr h s C r q) f x = zI h f x := fun f x p1 p2 => zI_Scr_o p1 p2
  refine ⟨hc, ⟨fun j hj hv2 => ?_, fun i hi => ?_⟩, hX, ?_, ?_, fun i hi => ?_, ?_, ?_, ?_, z1, ?_⟩
  · have := fC_r j hj hv2
    rw [hI2 _ _ (by omega) (by omega)]
    exact v1 j hj hv2
  · rw [hA _ (by decide) (by decide)]; exact v2 i hi
  · exact cS_fr s0 (fun _ _ => rfl) (Nat.le_refl _) (fun _ => rfl) rfl (fun _ _ => ⟨rfl, rfl⟩) (fun _ _ => rfl) (fun t ht => by
      have := ht.2.2.2.2.2.2.2.2
      exact ⟨hI2 _ _ (by decide) (by decide), hI2 _ _ (by decide) (by decide), hI _ _ (by omega), hI _ _ (by omega), fun k _ => by rw [hA _ (by omega) (by omega)]⟩)
  · exact cS_fr s1 (fun _ _ => rfl) (Nat.le_refl _) (fun _ => rfl) rfl (fun _ _ => ⟨rfl, rfl⟩) (fun _ _ => rfl) (fun t ht => by
      have := ht.2.2.2.2.2.2.2.2
      exact ⟨hI2 _ _ (by decide) (by decide), hI2 _ _ (by decide) (by decide), hI _ _ (by omega), hI _ _ (by omega), fun k _ => by rw [hA _ (by omega) (by omega)]⟩)
  · rw [hA _ (by decide) (by decide)]; exact k1 i hi
  · exact rG_fr g1 (fun _ _ => rfl) hc.k0 rfl (fun _ => rfl) (hI2 _ _ (by decide) (by decide)) (fun f x z1 z2 _ => hI2 _ _ (by omega) (by omega))
  · exact cL_fr l0 (fun _ _ => rfl) (Nat.le_refl _) (fun _ => rfl) (fun _ _ => rfl) (hI2 _ _ (by decide) (by decide)) (fun u hu => ⟨hI2 _ _ (by decide) (by decide), rfl, fun i => by
      have := hu.2.2.2.2.2.1
      rw [hA _ (by omega) (by omega)]⟩)
  · exact cL_fr l1 (fun _ _ => rfl) (Nat.le_refl _) (fun _ => rfl) (fun _ _ => rfl) (hI2 _ _ (by decide) (by decide)) (fun u hu => ⟨hI2 _ _ (by decide) (by decide), rfl, fun i => by
      have := hu.2.2.2.2.2.1
      rw [hA _ (by omega) (by omega)]⟩)
  · obtain ⟨m1, m2, m3, m4, m5, m6⟩ := m1
    exact ⟨fun f hf => (hI _ _ (by omega)).trans (m1 f hf), fun a p1 p2 => (hA a (by omega) (by omega)).trans (m2 a p1 p2), m3, m4, m5, (hA 1 (by decide) (by decide)).trans m6⟩
theorem RepC.sX {x : sC} (R : RepC h0 N M h w c l) : RepC h0 N M (zScr h 15 x.1 x.2.1 x.2.2) w (xS c x) l := by
  refine R.scr (Or.inl rfl) ⟨fun k _ => ?_, zI_Scr_r, zI_Scr_c⟩
  rw [zR_Scr, zA_Scr_s]
theorem RepC.sL {C : Nat → Int} {r q : Int} (R : RepC h0 N M h w c l) : RepC h0 N M (zScr h 12 C r q) w c l := by
  have := R.scr (s := 12) (C := C) (r := r) (q := q) (X' := c.2.1) (Or.inr rfl) (scIs_fr R.2.2.1 rfl (fun k _ => by
    have h15 : zR h 384 15 = 16 := R.1.r384_15
    have h12 : zR h 384 12 = 13 := R.1.r384_12
    rw [zA_Scr, if_neg (by rw [h15, h12]; decide)]) (by rw [zI_Scr, if_neg (fun e => absurd e.2 (by decide)), if_neg (fun e => absurd e.2 (by decide))]) (by rw [zI_Scr, if_neg (fun e => absurd e.2 (by decide)), if_neg (fun e => absurd e.2 (by decide))]))
  exact this
/-- a key kept -/
theorem RepC.sK {n : Nat} {k : Int} (R : RepC h0 N M h w c l) (hn : c.1 13 = n) : RepC h0 N M (zsI (zsA h 4 n k) 324 3 ((n : Int) + 1)) w (keyC c k) l := by
  have R1 : RepC h0 N M (zsA h 4 n k) w (c.1, c.2.1, c.2.2.1, fup c.2.2.2.1 n k, c.2.2.2.2) l := by
    refine R.arr (h' := zsA h 4 n k) (V' := c.1) rfl rfl rfl rfl rfl (fun _ _ _ => rfl) (fun a z _ _ => ?_) (fun k hk => rfl) (fun j hj => ?_) (fun j hj => ?_)
    · funext q
      rw [zA_sA, if_neg (fun e => z e.1)]
    · rw [zA_sA, if_neg (fun z => absurd z.1 (by decide))]
      exact R.2.1.2 j hj
    · rw [zA_sA, if_neg (fun e => by omega), fup_n (by omega)]
      exact R.2.2.2.2.2.1 j hj
  obtain ⟨hc, ⟨v1, v2⟩, x1, s0, s1, k1, g1, l0, l1, z1, m1⟩ := R1
  have hI : ∀ f x, f ≠ 324 → zI (zsI (zsA h 4 n k) 324 3 ((n : Int) + 1)) f x = zI (zsA h 4 n k) f x := fun f x z => zI_ne z
  refine ⟨hc, ⟨fun j hj hv2 => ?_, fun i hi => ?_⟩, ?_, ?_, ?_, fun i hi => ?_, ?_, ?_, ?_, z1, ⟨fun f hf => (zI_na (by decide)).trans (m1.1 f hf), m1.2⟩⟩
  · show zI (zsI (zsA h 4 n k) (fC 13) (aC 13) ((n : Int) + 1)) (fC j) (aC j) = fup c.1 13 (c.1 13 + 1) j
    by_cases e : j = 13
    · subst e
      rw [zI_sI_s, fup_s, hn]
    · rw [fup_n e, zI_sI, if_neg (fun z => e (fC_inj hj (by decide) hv2 (Or.inl (by decide)) z.1 z.2))]
      exact v1 j hj hv2
  · show zA (zsA h 4 n k) 28 i = fup c.1 13 (c.1 13 + 1) (24 + i)
    rw [fup_n (by omega)]
    exact v2 i hi
  · exact scIs_fr x1 rfl (fun _ _ => rfl) (hI _ _ (by decide)) (hI _ _ (by decide))
  · exact cS_fr s0 (fun _ _ => rfl) (Nat.le_refl _) (fun _ => rfl) rfl (fun _ _ => ⟨rfl, rfl⟩) (fun _ _ => rfl) (fun t _ => ⟨hI _ _ (by decide), hI _ _ (by decide), hI _ _ (by decide), hI _ _ (by decide), fun _ _ => rfl⟩)
  · exact cS_fr s1 (fun _ _ => rfl) (Nat.le_refl _) (fun _ => rfl) rfl (fun _ _ => ⟨rfl, rfl⟩) (fun _ _ => rfl) (fun t _ => ⟨hI _ _ (by decide), hI _ _ (by decide), hI _ _ (by decide), hI _ _ (by decide), fun _ _ => rfl⟩)
  · have e13 : (keyC c k).1 13 = c.1 13 + 1 := rfl
    rw [e13] at hi
    show zA (zsA h 4 n k) 4 i = fup c.2.2.2.1 (c.1 13).toNat k i
    rw [hn, Int.toNat_natCast]
    by_cases e : i = n
    · subst e
      rw [zA_sA, if_pos ⟨rfl, rfl⟩, fup_s]
    · have hi2 : (i : Int) < c.1 13 := by omega
      exact k1 i hi2
  · exact rG_fr g1 (fun _ _ => rfl) hc.k0 rfl (fun _ => rfl) (hI _ _ (by decide)) (fun f x z1 z2 _ => hI _ _ (by omega))
  · exact cL_fr l0 (fun _ _ => rfl) (Nat.le_refl _) (fun _ => rfl) (fun _ _ => rfl) (hI _ _ (by decide)) (fun q _ => ⟨hI _ _ (by decide), rfl, fun _ => rfl⟩)
  · exact cL_fr l1 (fun _ _ => rfl) (Nat.le_refl _) (fun _ => rfl) (fun _ _ => rfl) (hI _ _ (by decide)) (fun q _ => ⟨hI _ _ (by decide), rfl, fun _ => rfl⟩)
/-- the guesses' methods -/
theorem RepC.sG {V' : Nat → Int} {n : Int} {G : Nat → Nat → Int} (R : RepC h0 N M h w c l) (hf : frG h h') (hG : rG h' n.toNat G) (hV : ∀ k, k < 34 → k ≠ 21 → k ≠ 22 → k ≠ 23 → k ≠ 31 → k ≠ 32 → k ≠ 33 → V' k = c.1 k) (h21 : V' 21 = n) (hn0 : 0 ≤ n) (h22 : zI h' 131 10 = V' 22) (h23 : zI h' 130 10 = V' 23) (h31 : zI h' 132 10 = V' 31) (h32 : zI h' 133 10 = V' 32) (h33 : zI h' 134 10 = V' 33) :
    RepC h0 (N + 1) (M + 7) h' w (V', c.2.1, c.2.2.1, c.2.2.2.1, G) l := by
  obtain ⟨hc, ⟨v1, v2⟩, x1, s0, s1, k1, g1, l0, l1, z1, m1⟩ := R
  obtain ⟨⟨f1, f2, f3, f4⟩, fK, fZ, fR, fA, fB, fI⟩ := hf
  have hz := z1.1
  have e12 : V' 12 = c.1 12 := hV 12 (by omega) (by decide) (by decide) (by decide) (by decide) (by decide) (by decide)
  have e13 : V' 13 = c.1 13 := hV 13 (by omega) (by decide) (by decide) (by decide) (by decide) (by decide) (by decide)
  have e20 : V' 20 = c.1 20 := hV 20 (by omega) (by decide) (by decide) (by decide) (by decide) (by decide) (by decide)
  have hI : ∀ f x, x < zn h → ¬ (64 ≤ f ∧ f ≤ 70) → ¬ (129 ≤ f ∧ f ≤ 134) → zI h' f x = zI h f x := fun f x p1 p2 p3 => fI f x p1 p2 (fun z => p3 ⟨z.1, z.2.1⟩)
  refine ⟨hc.fr (fun x hx => fK x (by omega)) (fun f x hx _ => fR f x (by omega)), ⟨fun j hj hv2 => ?_, fun i hi => ?_⟩, ?_, ?_, ?_, ?_, ?_, ?_, ?_, ?_, ?_⟩
  · by_cases a : j = 21 ∨ j = 22 ∨ j = 23 ∨ j = 31 ∨ j = 32 ∨ j = 33
    · rcases a with rfl | rfl | rfl | rfl | rfl | rfl
      · show zI h' 129 10 = V' 21
        rw [h21, hG.2.1]; omega
      · exact h22
      · exact h23
      · exact h31
      · exact h32
      · exact h33
    · have hr := fC_r j hj hv2
      have : fC j < 129 ∨ 134 < fC j := by
        have : ∀ j, j < 34 → (vOK j ∧ 129 ≤ fC j ∧ fC j ≤ 134) → (j = 21 ∨ j = 22 ∨ j = 23 ∨ j = 31 ∨ j = 32 ∨ j = 33) := by decide +kernel
        rcases Nat.lt_or_ge (fC j) 129 with z | z
        · exact Or.inl z
        · rcases Nat.lt_or_ge 134 (fC j) with y | y
          · exact Or.inr y
          · exact absurd (this j hj ⟨hv2, z, y⟩) a
      rw [hI _ _ (by omega) (by omega) (by omega)]
      exact (v1 j hj hv2).trans (hV j hj (by omega) (by omega) (by omega) (by omega) (by omega) (by omega)).symm
  · show zA h' 28 i = V' (24 + i)
    rw [fA, hV _ (by omega) (by omega) (by omega) (by omega) (by omega) (by omega) (by omega)]
    exact v2 i hi
  · exact scIs_fr x1 (fR _ _ (by omega)) (fun _ _ => by rw [fA]) (hI _ _ (by omega) (by decide) (by decide)) (hI _ _ (by omega) (by decide) (by decide))
  · show cS h' w 5 6 (V' 20).toNat _
    rw [e20]
    exact cS_fr s0 fK f1 (fun i => by rw [fB _ (by decide)]) (fR _ _ (by omega)) (fun x hx => ⟨fR _ _ hx, fR _ _ hx⟩) (fun _ _ => rfl) (fun t ht => by
      have := ht.2.2.2.2.2.2.2.1
      exact ⟨hI _ _ (by omega) (by decide) (by decide), hI _ _ (by omega) (by decide) (by decide), hI _ _ (by omega) (by decide) (by decide), hI _ _ (by omega) (by decide) (by decide), fun k _ => by rw [fA]⟩)
  · show cS h' w 17 18 (V' 12).toNat _
    rw [e12]
    exact cS_fr s1 fK f1 (fun i => by rw [fB _ (by decide)]) (fR _ _ (by omega)) (fun x hx => ⟨fR _ _ hx, fR _ _ hx⟩) (fun _ _ => rfl) (fun t ht => by
      have := ht.2.2.2.2.2.2.2.1
      exact ⟨hI _ _ (by omega) (by decide) (by decide), hI _ _ (by omega) (by decide) (by decide), hI _ _ (by omega) (by decide) (by decide), hI _ _ (by omega) (by decide) (by decide), fun k _ => by rw [fA]⟩)
  · intro i hi
    have hi' : (i : Int) < V' 13 := hi
    rw [e13] at hi'
    show zA h' 4 i = _
    rw [fA]
    exact k1 i hi'
  · show rG h' (V' 21).toNat G
    rw [h21]; exact hG
  · exact cL_fr l0 fK f1 (fun i => by rw [fB _ (by decide)]) (fun _ _ => rfl) (hI _ _ (by omega) (by decide) (by decide)) (fun q hq => by
      have := hq.2.1
      exact ⟨hI _ _ (by omega) (by decide) (by decide), fR _ _ (by omega), fun i => by rw [fA]⟩)
  · exact cL_fr l1 fK f1 (fun i => by rw [fB _ (by decide)]) (fun _ _ => rfl) (hI _ _ (by omega) (by decide) (by decide)) (fun q hq => by
      have := hq.2.1
      exact ⟨hI _ _ (by omega) (by decide) (by decide), fR _ _ (by omega), fun i => by rw [fA]⟩)
  · refine ⟨by omega, fun x hx => ?_, by have := z1.2.2.1; omega, by have := z1.2.2.2; omega⟩
    rcases fZ x (by omega) with z | z
    · omega
    · rw [z.1]
      exact z1.2.1 x (by omega)
  · obtain ⟨m1, m2, m3, m4, m5, m6⟩ := m1
    exact ⟨fun f hf => (fI f 29 (by omega) (by omega) (fun z => absurd z.2.2 (by decide))).trans (m1 f hf), fun a p1 p2 => by rw [fA]; exact m2 a p1 p2, fun x p1 p2 => (fK x (by omega)).trans (m3 x p1 p2), fun f => (fR f 29 (by omega)).trans (m4 f), (fK 1 (by omega)).trans m5, by rw [fA]; exact m6⟩
end cOps
