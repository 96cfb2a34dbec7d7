/-! THE CLASS'S LINES: a letter comes, a letter goes -/
section cLine
variable {h0 h h' : zH} {N M : Nat} {w w' : Nat → Nat} {c : cg} {l : lg} {ln la n : Nat} {xs : List (List Int)} {ys : List Int}
/-- all but one line -/
theorem RepC.line0 (R : RepC h0 N M h w c l) (hln : (ln = 22 ∧ la = 23) ∨ (ln = 24 ∧ la = 25)) (hK : zK h' = zK h) (hn : zn h' = zn h) (hs : zs h' = zs h) (hR : zR h' = zR h) (hB : ∀ a, a ≠ la → zB h' a = zB h a) (hI : ∀ f x, f ≠ 193 ∨ x < 48 → f ≠ 257 ∨ x ≠ ln → zI h' f x = zI h f x) {b : Nat} (hb : 48 ≤ b) (hb2 : ∀ ra t, tOK h w ra t → b ≠ t + 2) (hA : ∀ a, a ≠ b → zA h' a = zA h a)
    (hq : ∀ ln' la' ys, ln' ≠ ln → la' ≠ la → cL h w ln' la' ys → cL h' w ln' la' ys) {ys : List (List Int)} (hL : cL h' w ln la ys) : RepC h0 N M h' w c (fun i => if i = (if ln = 22 then 0 else 1) then ys else l i) := by
  obtain ⟨hc, ⟨v1, v2⟩, x1, s0, s1, k1, g1, l0, l1, z1, m1⟩ := R
  have hlt : ln < 48 := by omega
  have h16 : zR h 384 15 = 16 := hc.r384_15
  have hI2 : ∀ f x, f ≠ 193 → f ≠ 257 → zI h' f x = zI h f x := fun f x p1 p2 => hI f x (Or.inl p1) (Or.inl p2)
  refine ⟨hc.fr (fun x _ => by rw [hK]) (fun f x _ _ => by rw [hR]), ⟨fun j hj hv2 => ?_, fun i hi => ?_⟩, ?_, ?_, ?_, fun i hi => ?_, ?_, ?_, ?_, ⟨by rw [hn]; exact z1.1, fun x hx => by rw [hK]; exact z1.2.1 x (by rw [hn] at hx; exact hx), by rw [hn]; exact z1.2.2.1, by rw [hs]; exact z1.2.2.2⟩, ?_⟩
  · have := fC_r j hj hv2
    rw [hI2 _ _ (by omega) (by omega)]
    exact v1 j hj hv2
  · rw [hA _ (by omega)]; exact v2 i hi
  · exact scIs_fr x1 (by rw [hR]) (fun k _ => by rw [h16, hA _ (by omega)]) (hI2 _ _ (by decide) (by decide)) (hI2 _ _ (by decide) (by decide))
  · exact cS_fr s0 (fun _ _ => by rw [hK]) (Nat.le_of_eq hn.symm) (fun _ => by rw [hB _ (by omega)]) (by rw [hR]) (fun _ _ => by rw [hR]; exact ⟨rfl, rfl⟩) (fun _ _ => rfl) (fun t ht => ⟨hI2 _ _ (by decide) (by decide), hI2 _ _ (by decide) (by decide), hI2 _ _ (by decide) (by decide), hI2 _ _ (by decide) (by decide), fun k _ => by rw [hA _ (fun z => hb2 _ _ ht z.symm)]⟩)
  · exact cS_fr s1 (fun _ _ => by rw [hK]) (Nat.le_of_eq hn.symm) (fun _ => by rw [hB _ (by omega)]) (by rw [hR]) (fun _ _ => by rw [hR]; exact ⟨rfl, rfl⟩) (fun _ _ => rfl) (fun t ht => ⟨hI2 _ _ (by decide) (by decide), hI2 _ _ (by decide) (by decide), hI2 _ _ (by decide) (by decide), hI2 _ _ (by decide) (by decide), fun k _ => by rw [hA _ (fun z => hb2 _ _ ht z.symm)]⟩)
  · rw [hA _ (by omega)]; exact k1 i hi
  · exact rG_fr g1 (fun _ _ => by rw [hK]) (by rw [hK]; exact hc.k0) (by rw [hR]) (fun _ => by rw [hB _ (by omega)]) (hI2 _ _ (by decide) (by decide)) (fun f x z1 z2 _ => hI2 _ _ (by omega) (by omega))
  · rcases hln with ⟨rfl, rfl⟩ | ⟨rfl, rfl⟩
    · exact hL
    · exact hq _ _ _ (by decide) (by decide) l0
  · rcases hln with ⟨rfl, rfl⟩ | ⟨rfl, rfl⟩
    · exact hq _ _ _ (by decide) (by decide) l1
    · exact hL
  · obtain ⟨m1, m2, m3, m4, m5, m6⟩ := m1
    exact ⟨fun f hf => (hI _ _ (Or.inr (by decide)) (Or.inr (by omega))).trans (m1 f hf), fun a p1 p2 => (hA a (by omega)).trans (m2 a p1 p2), fun x p1 p2 => by rw [hK]; exact m3 x p1 p2, fun f => by rw [hR]; exact m4 f, by rw [hK]; exact m5, (hA 1 (by omega)).trans m6⟩
theorem l_one {j : Nat} {ys : List (List Int)} (hj : j < 2) (e : ys = l j) : (fun i => if i = j then ys else l i) = l := by
  funext i
  by_cases z : i = j
  · rw [if_pos z, e, z]
  · rw [if_neg z]
/-- a letter written over the one that waits behind the last -/
theorem cL_put {e : Nat} {g : Nat → Int} (hL : cL h w ln la xs) (hn : xs.length < 40) (he : zB h la xs.length = e) (he0 : e ≠ 0) (hm : ys.length ≤ (zK h (zR h 192 e)).2) (hg : isLs g ys) : cL (zsI (zLet h e g (ys.length : Nat)) 257 ln ((xs.length + 1 : Nat) : Int)) w ln la (xs ++ [ys]) := by
  obtain ⟨s1, s2, s3, s4, s5⟩ := hL
  have hte := s1 xs.length hn (by rw [he]; exact he0)
  rw [he] at hte
  refine ⟨fun i hi hz => ?_, s2, ?_, ?_, fun k hk => ?_⟩
  · exact s1 i hi hz
  · rw [zI_sI_s, List.length_append, List.length_singleton]
  · rw [List.length_append, List.length_singleton]
    omega
  · rw [List.length_append, List.length_singleton] at hk
    by_cases q : k = xs.length
    · subst q
      have eB : zB (zsI (zLet h e g (ys.length : Nat)) 257 ln ((xs.length + 1 : Nat) : Int)) la xs.length = e := he
      rw [eB, getD_last]
      refine ⟨he0, ?_, hm, ?_⟩
      · rw [zI_ne (by decide)]
        exact zI_Let_n
      · show isLs (zA (zLet h e g (ys.length : Nat)) (zR h 192 e)) ys
        rw [zA_Let_s]
        exact hg
    · rw [getD_app (by omega)]
      obtain ⟨a1, b1, b2, b3⟩ := s5 k (by omega)
      have htk := s1 k (by omega) a1
      have ne : zB h la k ≠ e := fun z => q (s2 k xs.length (by omega) hn a1 (z.trans he.symm))
      have ne2 : zR h 192 (zB h la k) ≠ zR h 192 e := fun z => ne (by
        have a := htk.2.2.2.2.2.2
        rw [z, hte.2.2.2.2.2.2] at a
        exact a.symm)
      refine ⟨a1, ?_, b2, ?_⟩
      · show zI (zsI (zLet h e g (ys.length : Nat)) 257 ln _) 193 (zB h la k) = _
        rw [zI_ne (by decide), zI_Let, if_neg (fun z => ne z.2)]
        exact b1
      · intro i v hv
        show zA (zLet h e g (ys.length : Nat)) (zR h 192 (zB h la k)) i = v
        rw [zA_Let, if_neg ne2]
        exact b3 i v hv
theorem RepC.put {j e : Nat} {g : Nat → Int} (R : RepC h0 N M h w c l) (hln : (ln = 22 ∧ la = 23 ∧ j = 0) ∨ (ln = 24 ∧ la = 25 ∧ j = 1)) (hn : (l j).length < 40) (he : zB h la (l j).length = e) (he0 : e ≠ 0) (hm : ys.length ≤ (zK h (zR h 192 e)).2) (hg : isLs g ys) : RepC h0 N M (zsI (zLet h e g (ys.length : Nat)) 257 ln (((l j).length + 1 : Nat) : Int)) w c (sndL l j ys) := by
  have hL : cL h w ln la (l j) := by
    rcases hln with ⟨rfl, rfl, rfl⟩ | ⟨rfl, rfl, rfl⟩
    · exact R.2.2.2.2.2.2.2.1
    · exact R.2.2.2.2.2.2.2.2.1
  have hte := hL.1 (l j).length hn (by rw [he]; exact he0)
  rw [he] at hte
  have p := cL_put hL hn he he0 hm hg
  have key := R.line0 (ln := ln) (la := la) (h' := zsI (zLet h e g (ys.length : Nat)) 257 ln (((l j).length + 1 : Nat) : Int)) (b := zR h 192 e) (by
    rcases hln with ⟨a, b, -⟩ | ⟨a, b, -⟩
    · exact Or.inl ⟨a, b⟩
    · exact Or.inr ⟨a, b⟩) rfl rfl rfl rfl (fun _ _ => rfl) (fun f x p1 p2 => by
    have h48 := hte.2.1.1
    rw [zI_sI, if_neg (fun z => p2.elim (fun y => y z.1) (fun y => y z.2)), zI_Let, if_neg (fun z => by
      rcases p1 with y | y
      · exact y z.1
      · rw [z.2] at y; exact absurd h48 (Nat.not_le_of_lt y))]) hte.2.2.2.2.2.1.1 (fun ra t ht => lt_ne hte ht) (fun a z => funext fun i => by
    rw [zA_sI, zA_Let, if_neg z]) (fun ln' la' ys' p1 p2 hq => cL_fr hq (fun _ _ => rfl) (Nat.le_refl _) (fun _ => rfl) (fun _ _ => rfl) (zI_na p1) (fun q hq2 => by
      have ne : q ≠ e := fun z => by
        have a := hq2.2.2.1
        rw [z, hte.2.2.1] at a
        exact p2 a.symm
      have ne2 : zR h 192 q ≠ zR h 192 e := fun z => ne (by
        have a := hq2.2.2.2.2.2.2
        rw [z, hte.2.2.2.2.2.2] at a
        exact a.symm)
      exact ⟨by rw [zI_ne (by decide), zI_Let, if_neg (fun z => ne z.2)], rfl, fun i => by rw [zA_sI, zA_Let, if_neg ne2]⟩)) p
  have e2 : sndL l j ys = fun i => if i = j then l j ++ [ys] else l i := if_pos hn
  rw [e2]
  rcases hln with ⟨rfl, rfl, rfl⟩ | ⟨rfl, rfl, rfl⟩
  · exact key
  · exact key
/-- a new row of bytes for a letter -/
def hNewB (h : zH) (e N : Nat) : zH := zsR (znA h 1 N) 192 e (zn h)
def wB (w : Nat → Nat) (z e : Nat) : Nat → Nat := fun x => if x = z then e else w x
theorem hNewB_f (h : zH) (e N : Nat) : (∀ x, x < zn h → zK (hNewB h e N) x = zK h x) ∧ zn (hNewB h e N) = zn h + 1 ∧ zs (hNewB h e N) = zs h + N ∧ (∀ f x, zI (hNewB h e N) f x = zI h f x) ∧ (∀ a, a < zn h → zA (hNewB h e N) a = zA h a) ∧ (∀ f x, f ≠ 192 ∨ x ≠ e → zR (hNewB h e N) f x = zR h f x) ∧ (∀ a i, a < zn h → zB (hNewB h e N) a i = zB h a i) ∧ zR (hNewB h e N) 192 e = zn h ∧ zK (hNewB h e N) (zn h) = (1, N) ∧ (∀ x, zn h + 1 ≤ x → zK (hNewB h e N) x = zK h x) := by
  refine ⟨fun x hx => ?_, rfl, rfl, fun f x => rfl, fun a ha => ?_, fun f x hx => ?_, fun a i ha => ?_, ?_, ?_, fun x hx => ?_⟩
  · show zK (znA h 1 N) x = _
    rw [zK_nA, if_neg (Nat.ne_of_lt hx)]
  · funext i
    show zA (znA h 1 N) a i = _
    rw [zA_nA, if_neg (Nat.ne_of_lt ha)]
  · show zR (zsR (znA h 1 N) 192 e (zn h)) f x = _
    rw [zR_sR, if_neg (fun z => hx.elim (fun y => y z.1) (fun y => y z.2))]
    rfl
  · show zB (znA h 1 N) a i = _
    rw [zB_nA, if_neg (Nat.ne_of_lt ha)]
  · show zR (zsR (znA h 1 N) 192 e (zn h)) 192 e = _
    rw [zR_sR, if_pos ⟨rfl, rfl⟩]
  · show zK (znA h 1 N) (zn h) = _
    rw [zK_nA, if_pos rfl]
  · show zK (znA h 1 N) x = _
    rw [zK_nA, if_neg (Nat.ne_of_gt hx)]
theorem wB_o {z e x : Nat} (hx : x < z) : wB w z e x = w x := if_neg (Nat.ne_of_lt hx)
theorem cS_B {so ra : Nat} {S : Nat → sT} {e K : Nat} (hS : cS h w so ra n S) (p2 : ra < zn h) (p3 : so < zn h) : cS (hNewB h e K) (wB w (zn h) e) so ra n S := by
  obtain ⟨f1, f2, f3, f4, f5, f6, f7, f8, f9, f10⟩ := hNewB_f h e K
  exact cS_fr hS f1 (by rw [f2]; exact Nat.le_succ _) (fun i => f7 _ _ p2) (f6 _ _ (Or.inl (by decide))) (fun x hx => ⟨f6 _ _ (Or.inl (by decide)), f6 _ _ (Or.inl (by decide))⟩) (fun x hx => wB_o hx) (fun t ht => ⟨f4 _ _, f4 _ _, f4 _ _, f4 _ _, fun k _ => by rw [f5 _ ht.2.2.2.2.2.2.2.1]⟩)
theorem cL_B {e K : Nat} (hL : cL h w ln la xs) (p2 : la < zn h) (hK : K ≤ 100000) (h48 : 48 ≤ zn h) (hse : ∀ k, k < xs.length → zB h la k ≠ e) : cL (hNewB h e K) (wB w (zn h) e) ln la xs := by
  obtain ⟨f1, f2, f3, f4, f5, f6, f7, f8, f9, f10⟩ := hNewB_f h e K
  obtain ⟨s1, s2, s3, s4, s5⟩ := hL
  refine ⟨fun i hi hz => ?_, fun i j hi hj hz q => ?_, (f4 _ _).trans s3, s4, fun k hk => ?_⟩
  · rw [f7 _ _ p2] at hz ⊢
    obtain ⟨t1, t2, t3, t4, t5, t6, t7⟩ := s1 i hi hz
    by_cases z : zB h la i = e
    · rw [z] at t1 t2 t3 ⊢
      refine ⟨by rw [f1 _ t2.2]; exact t1, ⟨t2.1, by rw [f2]; exact Nat.lt_succ_of_lt t2.2⟩, by rw [wB_o t2.2]; exact t3, ?_, ?_, ?_, ?_⟩
      · rw [f8, f9]
      · rw [f8, f9]; exact hK
      · rw [f8, f2]; exact ⟨h48, Nat.lt_succ_self _⟩
      · rw [f8]; exact if_pos rfl
    · have e6 := f6 192 _ (Or.inr z)
      refine ⟨by rw [f1 _ t2.2]; exact t1, ⟨t2.1, by rw [f2]; exact Nat.lt_succ_of_lt t2.2⟩, by rw [wB_o t2.2]; exact t3, ?_, ?_, ?_, ?_⟩
      · rw [e6, f1 _ t6.2]; exact t4
      · rw [e6, f1 _ t6.2]; exact t5
      · rw [e6, f2]; exact ⟨t6.1, Nat.lt_succ_of_lt t6.2⟩
      · rw [e6, wB_o t6.2]; exact t7
  · rw [f7 _ _ p2] at hz q
    rw [f7 _ _ p2] at q
    exact s2 i j hi hj hz q
  · rw [f7 _ _ p2]
    obtain ⟨a1, b1, b2, b3⟩ := s5 k hk
    obtain ⟨t1, t2, t3, t4, t5, t6, t7⟩ := s1 k (Nat.lt_of_lt_of_le hk s4) a1
    have e6 := f6 192 _ (Or.inr (hse k hk))
    refine ⟨a1, (f4 _ _).trans b1, ?_, ?_⟩
    · rw [e6, f1 _ t6.2]; exact b2
    · rw [e6, f5 _ t6.2]; exact b3
theorem RepC.newB {e K : Nat} (R : RepC h0 N M h w c l) (he : 48 ≤ e) (hK : K ≤ 100000) (h1 : ∀ k, k < (l 0).length → zB h 23 k ≠ e) (h2 : ∀ k, k < (l 1).length → zB h 25 k ≠ e) : RepC h0 (N + 1) (M + K) (hNewB h e K) (wB w (zn h) e) c l := by
  have R' := R
  obtain ⟨hc, -, -, s0, s1, -, -, l0, l1, z1, -⟩ := R'
  have hz1 := z1.1
  have lt : ∀ x, x < 48 → x < zn h := fun x hx => Nat.lt_of_lt_of_le hx hz1
  have ne : ∀ x, x < 48 → x ≠ e := fun x hx => Nat.ne_of_lt (Nat.lt_of_lt_of_le hx he)
  obtain ⟨f1, f2, f3, f4, f5, f6, f7, f8, f9, f10⟩ := hNewB_f h e K
  refine R.new (d := 1) (e := K) f1 f2 (Nat.le_of_eq f3) (fun x hx => ?_) (fun f x _ => f4 f x) f5 (fun x hx => wB_o hx) (fun f x _ hf => f6 f x (Or.inl hf)) (cS_B s0 (lt _ (by decide)) (lt _ (by decide))) (cS_B s1 (lt _ (by decide)) (lt _ (by decide))) (fun i => f7 _ _ (lt _ (by decide))) (cL_B l0 (lt _ (by decide)) hK hz1 h1) (cL_B l1 (lt _ (by decide)) hK hz1 h2) ?_ (f6 _ _ (Or.inr (ne _ (by decide)))) (hc.fr (fun x hx => f1 x (lt x hx)) (fun f x hx _ => f6 f x (Or.inr (ne x hx))))
  · rw [f2] at hx
    rw [f10 x hx]
    exact z1.2.1 x (Nat.le_of_succ_le hx)
  · rw [f6 _ _ (Or.inr (ne _ (by decide)))]; exact hc.r192_26
end cLine
