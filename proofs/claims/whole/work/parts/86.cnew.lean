/-! THE CLASS: a new state's row; lines -/
section cNew
variable {h0 h h' : zH} {N M : Nat} {w w' : Nat → Nat} {c : cg} {l : lg} {so ra n m : Nat} {S : Nat → sT}
/-- new cells: what was there stays -/
theorem RepC.new (R : RepC h0 N M h w c l) {d e : Nat} (hK : ∀ x, x < zn h → zK h' x = zK h x) (hn : zn h' = zn h + d) (hs : zs h' ≤ zs h + e) (hz : ∀ x, zn h' ≤ x → (zK h' x).1 = 0) (hI : ∀ f x, x < zn h → zI h' f x = zI h f x) (hA : ∀ a, a < zn h → zA h' a = zA h a) (hw : ∀ x, x < zn h → w' x = w x)
    (hR : ∀ f x, x < zn h → f ≠ 192 → zR h' f x = zR h f x) (s0 : cS h' w' 5 6 (c.1 20).toNat (c.2.2.1 0)) (s1 : cS h' w' 17 18 (c.1 12).toNat (c.2.2.1 1)) (h11 : ∀ i, zB h' 11 i = zB h 11 i) (l0 : cL h' w' 22 23 (l 0)) (l1 : cL h' w' 24 25 (l 1)) (hb : zR h' 192 26 = 27) (hm29 : zR h' 192 29 = zR h 192 29) (hc' : cOK h') : RepC h0 (N + d) (M + e) h' w' c l := by
  obtain ⟨hc, ⟨v1, v2⟩, x1, -, -, k1, g1, -, -, z1, m1⟩ := R
  have hz1 := z1.1
  have h16 : zR h 384 15 = 16 := hc.r384_15
  have hlt : ∀ x, (zK h x).1 ≠ 0 → x < zn h := fun x hx => by
    rcases Nat.lt_or_ge x (zn h) with z | z
    · exact z
    · exact absurd (z1.2.1 x z) hx
  refine ⟨hc', ⟨fun j hj hv2 => ?_, fun i hi => ?_⟩, ?_, s0, s1, fun i hi => ?_, ?_, l0, l1, ⟨by omega, hz, by have := z1.2.2.1; omega, by have := z1.2.2.2; omega⟩, ?_⟩
  · have := fC_r j hj hv2
    rw [hI _ _ (by omega)]
    exact v1 j hj hv2
  · rw [hA _ (by omega)]; exact v2 i hi
  · exact scIs_fr x1 (hR _ _ (by omega) (by decide)) (fun k _ => by rw [h16, hA _ (by omega)]) (hI _ _ (by omega)) (hI _ _ (by omega))
  · rw [hA _ (by omega)]; exact k1 i hi
  · exact rG_fr g1 (fun x hx => hK x (hlt x hx)) (by rw [hK _ (by omega)]; exact hc.k0) (hR _ _ (by omega) (by decide)) h11 (hI _ _ (by omega)) (fun f x _ _ hx => hI _ _ (hlt x (by rw [hx]; decide)))
  · obtain ⟨m1, m2, m3, m4, m5, m6⟩ := m1
    refine ⟨fun f hf => (hI _ _ (by omega)).trans (m1 f hf), fun a p1 p2 => (hA a (by omega)).trans (m2 a p1 p2), fun x p1 p2 => (hK x (by omega)).trans (m3 x p1 p2), fun f => ?_, (hK 1 (by omega)).trans m5, (hA 1 (by omega)).trans m6⟩
    by_cases e : f = 192
    · rw [e, hm29]; exact m4 _
    · exact (hR f 29 (by omega) e).trans (m4 f)
/-- a new state at the next address -/
def hNew (h : zH) (ra n : Nat) : zH := zsB (zNT (znO h 7 3) (zn h)) ra n (zn h)
def wNew (w : Nat → Nat) (z ra : Nat) : Nat → Nat := fun x => if x = z then ra else if x = z + 2 then z + 1 else w x
theorem hNew_f (h : zH) (ra n : Nat) : (∀ x, x < zn h → zK (hNew h ra n) x = zK h x) ∧ zn (hNew h ra n) = zn h + 3 ∧ zs (hNew h ra n) = zs h + 198 ∧ (∀ f x, x < zn h → zI (hNew h ra n) f x = zI h f x) ∧ (∀ a, a < zn h → zA (hNew h ra n) a = zA h a) ∧ (∀ f x, x < zn h → zR (hNew h ra n) f x = zR h f x) ∧ (∀ a i, a < zn h → ¬ (a = ra ∧ i = n) → zB (hNew h ra n) a i = zB h a i) ∧ zB (hNew h ra n) ra n = zn h ∧ (zK (hNew h ra n) (zn h)).1 = 17 ∧ (zK (hNew h ra n) (zn h + 1)).1 = 16 ∧ zK (hNew h ra n) (zn h + 2) = (1, 192) ∧ zR (hNew h ra n) 448 (zn h) = zn h + 1 ∧ zR (hNew h ra n) 384 (zn h + 1) = zn h + 2 ∧ (∀ x, zn h + 3 ≤ x → zK (hNew h ra n) x = zK h x) := by
  have hz : zn (znO h 7 3) = zn h + 1 := rfl
  refine ⟨fun x hx => ?_, rfl, rfl, fun f x hx => ?_, fun a ha => ?_, fun f x hx => ?_, fun a i ha hn => ?_, ?_, ?_, ?_, ?_, ?_, ?_, fun x hx => ?_⟩
  · show zK (zNS (znO h 7 3)) x = _
    rw [zK_NS, hz, if_neg (by omega), if_neg (by omega), zK_nO, if_neg (by omega)]
  · show zI (zNS (znO h 7 3)) f x = _
    rw [zI_NS, hz, if_neg (by omega), zI_nO, if_neg (by omega)]
  · funext i
    show zA (zNS (znO h 7 3)) a i = _
    rw [zA_NS, hz, if_neg (by omega)]
    rfl
  · show zR (zsR (zNS (znO h 7 3)) 448 (zn h) (zn (znO h 7 3))) f x = _
    rw [zR_sR, if_neg (by omega), zR_NS, hz, if_neg (by omega), if_neg (by omega), zR_nO, if_neg (by omega)]
  · show zB (zsB (zNT (znO h 7 3) (zn h)) ra n (zn h)) a i = _
    rw [zB_sB, if_neg hn]
    show zB (zNS (znO h 7 3)) a i = _
    rw [zB_NS, hz, if_neg (by omega)]
    rfl
  · show zB (zsB (zNT (znO h 7 3) (zn h)) ra n (zn h)) ra n = _
    rw [zB_sB, if_pos ⟨rfl, rfl⟩]
  · show (zK (zNS (znO h 7 3)) (zn h)).1 = 17
    rw [zK_NS, hz, if_neg (by omega), if_neg (by omega), zK_nO, if_pos rfl]
  · show (zK (zNS (znO h 7 3)) (zn h + 1)).1 = 16
    rw [zK_NS, hz, if_neg (by omega), if_pos rfl]
  · show zK (zNS (znO h 7 3)) (zn h + 2) = (1, 192)
    rw [zK_NS, hz, if_pos rfl]
  · show zR (zsR (zNS (znO h 7 3)) 448 (zn h) (zn (znO h 7 3))) 448 (zn h) = _
    rw [zR_sR, if_pos ⟨rfl, rfl⟩, hz]
  · show zR (zsR (zNS (znO h 7 3)) 448 (zn h) (zn (znO h 7 3))) 384 (zn h + 1) = _
    rw [zR_sR, if_neg (by omega), zR_NS, hz, if_pos ⟨rfl, rfl⟩]
  · show zK (zNS (znO h 7 3)) x = _
    rw [zK_NS, hz, if_neg (by omega), if_neg (by omega), zK_nO, if_neg (by omega)]
theorem cS_new (hS : cS h w so ra n S) (hn2 : n < 32) (h48 : 48 ≤ zn h) (hso : so < 48) (hra : ra < 48) (h0 : zB h ra n = 0) : cS (hNew h ra n) (wNew w (zn h) ra) so ra n S := by
  obtain ⟨f1, f2, f3, f4, f5, f6, f7, f8, f9, f10, f11, f12, f13, f14⟩ := hNew_f h ra n
  obtain ⟨s1, s2, s3, s4, s5, s6⟩ := hS
  generalize hNew h ra n = H at *
  have hw : ∀ x, x < zn h → wNew w (zn h) ra x = w x := fun x hx => by
    unfold wNew
    rw [if_neg (by omega), if_neg (by omega)]
  have hB : ∀ i, i ≠ n → zB H ra i = zB h ra i := fun i hi => f7 ra i (by omega) (fun z => hi z.2)
  have hlt : ∀ i, i < 32 → zB h ra i ≠ 0 → zB h ra i < zn h := fun i hi hz => by
    have := (s1 i hi hz).2.2.2.2.2.2.2.1
    omega
  refine ⟨fun i hi hz => ?_, fun i j hi hj hz e => ?_, fun i hi => ?_, ?_, s5, s6⟩
  · by_cases q : i = n
    · subst q
      rw [f8]
      refine ⟨f9, f12, f10, f13, f11, ?_, ?_, by omega, Or.inr h48⟩
      · unfold wNew
        rw [if_pos rfl]
      · unfold wNew
        rw [if_neg (by omega), if_pos rfl]
    · rw [hB i q] at hz ⊢
      exact tOK_fr (s1 i hi hz) f1 (by omega) (fun x hx => ⟨f6 _ _ hx, f6 _ _ hx⟩) hw
  · by_cases q : i = n
    · by_cases y : j = n
      · omega
      · subst q
        rw [f8, hB j y] at e
        have := hlt j hj (by omega)
        omega
    · rw [hB i q] at hz e
      by_cases y : j = n
      · subst y
        rw [f8] at e
        have := hlt i hi hz
        omega
      · rw [hB j y] at e
        exact s2 i j hi hj hz e
  · rw [hB i (by omega)]
    obtain ⟨a1, ⟨b1, b2, b3⟩, b4, b5⟩ := s3 i hi
    obtain ⟨t1, t2, t3, t4, t5, t6, t7, t8, t9⟩ := s1 i (by omega) a1
    refine ⟨a1, ⟨fun k hk => ?_, ?_, ?_⟩, ?_, ?_⟩
    · have := b1 k hk
      rw [t4] at this
      rw [f6 _ _ (by omega), t4, f5 _ (by omega)]
      exact this
    · rw [f4 _ _ (by omega)]; exact b2
    · rw [f4 _ _ (by omega)]; exact b3
    · rw [f4 _ _ (by omega)]; exact b4
    · rw [f4 _ _ (by omega)]; exact b5
  · rw [f6 _ _ (by omega), hB _ (by omega)]
    exact s4
theorem wNew_o {z x : Nat} (hx : x < z) : wNew w z ra x = w x := by
  unfold wNew
  rw [if_neg (by omega), if_neg (by omega)]
theorem cS_new_o {so' ra' n' : Nat} {S' : Nat → sT} (p1 : ra' ≠ ra) (p2 : ra' < zn h) (p3 : so' < zn h) (hq : cS h w so' ra' n' S') : cS (hNew h ra n) (wNew w (zn h) ra) so' ra' n' S' := by
  obtain ⟨f1, f2, f3, f4, f5, f6, f7, -, -, -, -, -, -, f14⟩ := hNew_f h ra n
  refine cS_fr hq f1 (by rw [f2]; exact Nat.le_add_right _ _) (fun i => f7 _ _ p2 (fun z => p1 z.1)) (f6 _ _ p3) (fun x hx => ⟨f6 _ _ hx, f6 _ _ hx⟩) (fun x hx => wNew_o hx) (fun t ht => ?_)
  have k2 : t + 2 < zn h := ht.2.2.2.2.2.2.2.1
  have k1 : t + 1 < zn h := Nat.lt_of_succ_lt k2
  have k0 : t < zn h := Nat.lt_of_succ_lt k1
  exact ⟨f4 _ _ k0, f4 _ _ k0, f4 _ _ k1, f4 _ _ k1, fun k _ => by rw [f5 _ k2]⟩
theorem cL_new_o {ln la : Nat} {xs : List (List Int)} (p1 : la ≠ ra) (p2 : la < zn h) (p3 : ln < zn h) (hq : cL h w ln la xs) : cL (hNew h ra n) (wNew w (zn h) ra) ln la xs := by
  obtain ⟨f1, f2, f3, f4, f5, f6, f7, -, -, -, -, -, -, f14⟩ := hNew_f h ra n
  exact cL_fr hq f1 (by rw [f2]; exact Nat.le_add_right _ _) (fun i => f7 _ _ p2 (fun z => p1 z.1)) (fun x hx => wNew_o hx) (f4 _ _ p3) (fun q hq2 => ⟨f4 _ _ hq2.2.1.2, f6 _ _ hq2.2.1.2, fun i => by rw [f5 _ hq2.2.2.2.2.2.1.2]⟩)
theorem RepC.newN (R : RepC h0 N M h w c l) (hn : (c.1 20).toNat = n) (hn2 : n < 32) (hz0 : zB h 6 n = 0) : RepC h0 (N + 3) (M + 198) (hNew h 6 n) (wNew w (zn h) 6) c l := by
  have R' := R
  obtain ⟨hc, -, -, s0, s1, -, -, l0, l1, z1, -⟩ := R'
  have hz1 := z1.1
  have lt : ∀ x, x < 48 → x < zn h := fun x hx => Nat.lt_of_lt_of_le hx hz1
  obtain ⟨f1, f2, f3, f4, f5, f6, f7, -, -, -, -, -, -, f14⟩ := hNew_f h 6 n
  rw [hn] at s0
  refine R.new (d := 3) (e := 198) f1 f2 (Nat.le_of_eq f3) (fun x hx => ?_) f4 f5 (fun x hx => wNew_o hx) (fun f x hx _ => f6 f x hx) ?_ (cS_new_o (by decide) (lt _ (by decide)) (lt _ (by decide)) s1) (fun i => f7 _ _ (lt _ (by decide)) (fun z => absurd z.1 (by decide))) (cL_new_o (by decide) (lt _ (by decide)) (lt _ (by decide)) l0) (cL_new_o (by decide) (lt _ (by decide)) (lt _ (by decide)) l1) ?_ (f6 _ _ (lt _ (by decide))) (hc.fr (fun x hx => f1 x (lt x hx)) (fun f x hx _ => f6 f x (lt x hx)))
  · rw [f2] at hx
    rw [f14 x hx]
    exact z1.2.1 x (Nat.le_of_add_right_le hx)
  · rw [hn]
    exact cS_new s0 hn2 hz1 (by decide) (by decide) hz0
  · rw [f6 _ _ (lt _ (by decide))]; exact hc.r192_26
theorem RepC.newF (R : RepC h0 N M h w c l) (hn : (c.1 12).toNat = n) (hn2 : n < 32) (hz0 : zB h 18 n = 0) : RepC h0 (N + 3) (M + 198) (hNew h 18 n) (wNew w (zn h) 18) c l := by
  have R' := R
  obtain ⟨hc, -, -, s0, s1, -, -, l0, l1, z1, -⟩ := R'
  have hz1 := z1.1
  have lt : ∀ x, x < 48 → x < zn h := fun x hx => Nat.lt_of_lt_of_le hx hz1
  obtain ⟨f1, f2, f3, f4, f5, f6, f7, -, -, -, -, -, -, f14⟩ := hNew_f h 18 n
  rw [hn] at s1
  refine R.new (d := 3) (e := 198) f1 f2 (Nat.le_of_eq f3) (fun x hx => ?_) f4 f5 (fun x hx => wNew_o hx) (fun f x hx _ => f6 f x hx) (cS_new_o (by decide) (lt _ (by decide)) (lt _ (by decide)) s0) ?_ (fun i => f7 _ _ (lt _ (by decide)) (fun z => absurd z.1 (by decide))) (cL_new_o (by decide) (lt _ (by decide)) (lt _ (by decide)) l0) (cL_new_o (by decide) (lt _ (by decide)) (lt _ (by decide)) l1) ?_ (f6 _ _ (lt _ (by decide))) (hc.fr (fun x hx => f1 x (lt x hx)) (fun f x hx _ => f6 f x (lt x hx)))
  · rw [f2] at hx
    rw [f14 x hx]
    exact z1.2.1 x (Nat.le_of_add_right_le hx)
  · rw [hn]
    exact cS_new s1 hn2 hz1 (by decide) (by decide) hz0
  · rw [f6 _ _ (lt _ (by decide))]; exact hc.r192_26
theorem scIs_new {o : Nat} {x : sC} (ho : scIs h o x) (h1 : o < zn h) (h2 : zR h 384 o < zn h) : scIs (hNew h ra n) o x := by
  obtain ⟨f1, f2, f3, f4, f5, f6, f7, f8, f9, f10, f11, f12, f13, f14⟩ := hNew_f h ra n
  exact scIs_fr ho (f6 _ _ h1) (fun k _ => by rw [f5 _ h2]) (f4 _ _ h1) (f4 _ _ h1)
end cNew
