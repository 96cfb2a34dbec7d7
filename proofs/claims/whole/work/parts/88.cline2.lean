/-! THE CLASS'S LINES: a new letter; one taken out; one bent; all gone -/
section cLine2
variable {h0 h h' : zH} {N M : Nat} {w w' : Nat → Nat} {c : cg} {l : lg} {ln la n : Nat} {xs : List (List Int)} {ys : List Int}
def hNewL (h : zH) (la n K : Nat) : zH := zsB (zsR (znA (znO h 3 2) 1 K) 192 (zn h) (zn h + 1)) la n (zn h)
def wL (w : Nat → Nat) (z la : Nat) : Nat → Nat := fun x => if x = z then la else if x = z + 1 then z else w x
theorem hNewL_f (h : zH) (la n K : Nat) : (∀ x, x < zn h → zK (hNewL h la n K) x = zK h x) ∧ zn (hNewL h la n K) = zn h + 2 ∧ zs (hNewL h la n K) = zs h + (2 + K) ∧ (∀ f x, x < zn h → zI (hNewL h la n K) f x = zI h f x) ∧ (∀ a, a < zn h → zA (hNewL h la n K) a = zA h a) ∧ (∀ f x, x < zn h → zR (hNewL h la n K) f x = zR h f x) ∧ (∀ a i, a < zn h → ¬ (a = la ∧ i = n) → zB (hNewL h la n K) a i = zB h a i) ∧ zB (hNewL h la n K) la n = zn h ∧ (zK (hNewL h la n K) (zn h)).1 = 13 ∧ zK (hNewL h la n K) (zn h + 1) = (1, K) ∧ zR (hNewL h la n K) 192 (zn h) = zn h + 1 ∧ (∀ x, zn h + 2 ≤ x → zK (hNewL h la n K) x = zK h x) := by
  have hz : zn (znO h 3 2) = zn h + 1 := rfl
  refine ⟨fun x hx => ?_, rfl, ?_, fun f x hx => ?_, fun a ha => ?_, fun f x hx => ?_, fun a i ha hn => ?_, ?_, ?_, ?_, ?_, fun x hx => ?_⟩
  · show zK (znA (znO h 3 2) 1 K) x = _
    rw [zK_nA, hz, if_neg (by omega), zK_nO, if_neg (by omega)]
  · show zs h + 2 + K = zs h + (2 + K)
    omega
  · show zI (znO h 3 2) f x = _
    rw [zI_nO, if_neg (by omega)]
  · funext i
    show zA (znA (znO h 3 2) 1 K) a i = _
    rw [zA_nA, hz, if_neg (by omega)]
    rfl
  · show zR (zsR (znA (znO h 3 2) 1 K) 192 (zn h) (zn h + 1)) f x = _
    rw [zR_sR, if_neg (by omega), zR_nA, zR_nO, if_neg (by omega)]
  · show zB (zsB (zsR (znA (znO h 3 2) 1 K) 192 (zn h) (zn h + 1)) la n (zn h)) a i = _
    rw [zB_sB, if_neg hn]
    show zB (znA (znO h 3 2) 1 K) a i = _
    rw [zB_nA, hz, if_neg (by omega)]
    rfl
  · show zB (zsB (zsR (znA (znO h 3 2) 1 K) 192 (zn h) (zn h + 1)) la n (zn h)) la n = _
    rw [zB_sB, if_pos ⟨rfl, rfl⟩]
  · show (zK (znA (znO h 3 2) 1 K) (zn h)).1 = 13
    rw [zK_nA, hz, if_neg (by omega), zK_nO, if_pos rfl]
  · show zK (znA (znO h 3 2) 1 K) (zn h + 1) = _
    rw [zK_nA, hz, if_pos rfl]
  · show zR (zsR (znA (znO h 3 2) 1 K) 192 (zn h) (zn h + 1)) 192 (zn h) = _
    rw [zR_sR, if_pos ⟨rfl, rfl⟩]
  · show zK (znA (znO h 3 2) 1 K) x = _
    rw [zK_nA, hz, if_neg (by omega), zK_nO, if_neg (by omega)]
theorem wL_o {z x : Nat} (hx : x < z) : wL w z la x = w x := by
  unfold wL
  rw [if_neg (by omega), if_neg (by omega)]
theorem cS_L {so ra m K : Nat} {S : Nat → sT} (hS : cS h w so ra m S) (p1 : ra ≠ la) (p2 : ra < zn h) (p3 : so < zn h) : cS (hNewL h la n K) (wL w (zn h) la) so ra m S := by
  obtain ⟨f1, f2, f3, f4, f5, f6, f7, f8, f9, f10, f11, f12⟩ := hNewL_f h la n K
  refine cS_fr hS f1 (by rw [f2]; exact Nat.le_add_right _ _) (fun i => f7 _ _ p2 (fun z => p1 z.1)) (f6 _ _ p3) (fun x hx => ⟨f6 _ _ hx, f6 _ _ hx⟩) (fun x hx => wL_o hx) (fun t ht => ?_)
  have k2 : t + 2 < zn h := ht.2.2.2.2.2.2.2.1
  have k1 : t + 1 < zn h := Nat.lt_of_succ_lt k2
  have k0 : t < zn h := Nat.lt_of_succ_lt k1
  exact ⟨f4 _ _ k0, f4 _ _ k0, f4 _ _ k1, f4 _ _ k1, fun k _ => by rw [f5 _ k2]⟩
theorem cL_Lo {ln' la' K : Nat} (hL : cL h w ln' la' xs) (p1 : la' ≠ la) (p2 : la' < zn h) (p3 : ln' < zn h) : cL (hNewL h la n K) (wL w (zn h) la) ln' la' xs := by
  obtain ⟨f1, f2, f3, f4, f5, f6, f7, f8, f9, f10, f11, f12⟩ := hNewL_f h la n K
  exact cL_fr hL f1 (by rw [f2]; exact Nat.le_add_right _ _) (fun i => f7 _ _ p2 (fun z => p1 z.1)) (fun x hx => wL_o hx) (f4 _ _ p3) (fun q hq2 => ⟨f4 _ _ hq2.2.1.2, f6 _ _ hq2.2.1.2, fun i => by rw [f5 _ hq2.2.2.2.2.2.1.2]⟩)
theorem cL_L {K : Nat} (hL : cL h w ln la xs) (hn : xs.length < 40) (hz : zB h la xs.length = 0) (p2 : la < zn h) (p3 : ln < zn h) (h48 : 48 ≤ zn h) (hK : K ≤ 100000) : cL (hNewL h la xs.length K) (wL w (zn h) la) ln la xs := by
  obtain ⟨f1, f2, f3, f4, f5, f6, f7, f8, f9, f10, f11, f12⟩ := hNewL_f h la xs.length K
  obtain ⟨s1, s2, s3, s4, s5⟩ := hL
  have hB : ∀ i, i ≠ xs.length → zB (hNewL h la xs.length K) la i = zB h la i := fun i hi => f7 la i p2 (fun z => hi z.2)
  have hlt : ∀ i, i < 40 → zB h la i ≠ 0 → zB h la i < zn h := fun i hi hz => (s1 i hi hz).2.1.2
  have hw1 : wL w (zn h) la (zn h) = la := if_pos rfl
  have hw2 : wL w (zn h) la (zn h + 1) = zn h := by
    unfold wL
    rw [if_neg (Nat.succ_ne_self _), if_pos rfl]
  generalize hNewL h la xs.length K = H at *
  refine ⟨fun i hi hz => ?_, fun i j hi hj hz e => ?_, (f4 _ _ p3).trans s3, s4, fun k hk => ?_⟩
  · by_cases q : i = xs.length
    · subst q
      rw [f8]
      refine ⟨f9, ⟨h48, by rw [f2]; exact Nat.lt_add_of_pos_right (by decide)⟩, hw1, ?_, ?_, ?_, ?_⟩
      · rw [f11, f10]
      · rw [f11, f10]; exact hK
      · rw [f11, f2]; exact ⟨Nat.le_succ_of_le h48, Nat.lt_succ_self _⟩
      · rw [f11]; exact hw2
    · rw [hB i q] at hz ⊢
      obtain ⟨t1, t2, t3, t4, t5, t6, t7⟩ := s1 i hi hz
      have e6 := f6 192 _ t2.2
      refine ⟨by rw [f1 _ t2.2]; exact t1, ⟨t2.1, by rw [f2]; exact Nat.lt_add_right 2 t2.2⟩, by rw [wL_o t2.2]; exact t3, ?_, ?_, ?_, ?_⟩
      · rw [e6, f1 _ t6.2]; exact t4
      · rw [e6, f1 _ t6.2]; exact t5
      · rw [e6, f2]; exact ⟨t6.1, Nat.lt_add_right 2 t6.2⟩
      · rw [e6, wL_o t6.2]; exact t7
  · by_cases q : i = xs.length
    · by_cases y : j = xs.length
      · exact q.trans y.symm
      · rw [q, f8, hB j y] at e
        have hz' : zB h la j ≠ 0 := fun u => by
          rw [u] at e
          rw [e] at h48
          exact absurd h48 (by decide)
        exact absurd e.symm (Nat.ne_of_lt (hlt j hj hz'))
    · rw [hB i q] at hz e
      by_cases y : j = xs.length
      · rw [y, f8] at e
        exact absurd e (Nat.ne_of_lt (hlt i hi hz))
      · rw [hB j y] at e
        exact s2 i j hi hj hz e
  · rw [hB k (Nat.ne_of_lt hk)]
    obtain ⟨a1, b1, b2, b3⟩ := s5 k hk
    obtain ⟨t1, t2, t3, t4, t5, t6, t7⟩ := s1 k (Nat.lt_of_lt_of_le hk s4) a1
    have e6 := f6 192 _ t2.2
    refine ⟨a1, (f4 _ _ t2.2).trans b1, ?_, ?_⟩
    · rw [e6, f1 _ t6.2]; exact b2
    · rw [e6, f5 _ t6.2]; exact b3
theorem RepC.newL {K j : Nat} (R : RepC h0 N M h w c l) (hln : (ln = 22 ∧ la = 23 ∧ j = 0) ∨ (ln = 24 ∧ la = 25 ∧ j = 1)) (hn : (l j).length < 40) (hz : zB h la (l j).length = 0) (hK : K ≤ 100000) : RepC h0 (N + 2) (M + (2 + K)) (hNewL h la (l j).length K) (wL w (zn h) la) c l := by
  have R' := R
  obtain ⟨hc, -, -, s0, s1, -, -, l0, l1, z1, -⟩ := R'
  have hz1 := z1.1
  have lt : ∀ x, x < 48 → x < zn h := fun x hx => Nat.lt_of_lt_of_le hx hz1
  obtain ⟨f1, f2, f3, f4, f5, f6, f7, f8, f9, f10, f11, f12⟩ := hNewL_f h la (l j).length K
  have q6 : 6 ≠ la := by rcases hln with ⟨-, rfl, -⟩ | ⟨-, rfl, -⟩ <;> decide
  have q18 : 18 ≠ la := by rcases hln with ⟨-, rfl, -⟩ | ⟨-, rfl, -⟩ <;> decide
  have q11 : 11 ≠ la := by rcases hln with ⟨-, rfl, -⟩ | ⟨-, rfl, -⟩ <;> decide
  refine R.new (d := 2) (e := 2 + K) f1 f2 (Nat.le_of_eq f3) (fun x hx => ?_) f4 f5 (fun x hx => wL_o hx) (fun f x hx _ => f6 f x hx) (cS_L s0 q6 (lt _ (by decide)) (lt _ (by decide))) (cS_L s1 q18 (lt _ (by decide)) (lt _ (by decide))) (fun i => f7 _ _ (lt _ (by decide)) (fun z => q11 z.1)) ?_ ?_ ?_ (f6 _ _ (lt _ (by decide))) (hc.fr (fun x hx => f1 x (lt x hx)) (fun f x hx _ => f6 f x (lt x hx)))
  · rw [f2] at hx
    rw [f12 x hx]
    exact z1.2.1 x (Nat.le_of_add_right_le hx)
  · rcases hln with ⟨rfl, rfl, rfl⟩ | ⟨rfl, rfl, rfl⟩
    · exact cL_L l0 hn hz (lt _ (by decide)) (lt _ (by decide)) hz1 hK
    · exact cL_Lo l0 (by decide) (lt _ (by decide)) (lt _ (by decide))
  · rcases hln with ⟨rfl, rfl, rfl⟩ | ⟨rfl, rfl, rfl⟩
    · exact cL_Lo l1 (by decide) (lt _ (by decide)) (lt _ (by decide))
    · exact cL_L l1 hn hz (lt _ (by decide)) (lt _ (by decide)) hz1 hK
  · rw [f6 _ _ (lt _ (by decide))]; exact hc.r192_26
theorem cL_out {k : Nat} (hL : cL h w ln la xs) (hk : k < xs.length) : cL (zsI (zBs h la (rout (zB h la) k xs.length)) 257 ln ((xs.length - 1 : Nat) : Int)) w ln la (xs.eraseIdx k) := by
  obtain ⟨s1, s2, s3, s4, s5⟩ := hL
  have hB : ∀ i, zB (zsI (zBs h la (rout (zB h la) k xs.length)) 257 ln ((xs.length - 1 : Nat) : Int)) la i = zB h la (if k ≤ i ∧ i + 1 < xs.length then i + 1 else if i + 1 = xs.length then k else i) := fun i => by
    rw [zB_sI, zB_Bs_s]
    unfold rout
    split
    · rfl
    · split <;> rfl
  have hπ : ∀ i, i < 40 → (if k ≤ i ∧ i + 1 < xs.length then i + 1 else if i + 1 = xs.length then k else i) < 40 := fun i hi => by
    split
    · omega
    · split <;> omega
  refine ⟨fun i hi hz => ?_, fun i j hi hj hz e => ?_, ?_, ?_, fun m hm => ?_⟩
  · rw [hB] at hz ⊢
    exact s1 _ (hπ i hi) hz
  · rw [hB] at hz e
    rw [hB] at e
    have := s2 _ _ (hπ i hi) (hπ j hj) hz e
    clear s1 s2 s3 s5 hB hπ hz e
    revert this
    split
    · split
      · omega
      · split <;> omega
    · split
      · split
        · omega
        · split <;> omega
      · split
        · omega
        · split <;> omega
  · rw [zI_sI_s, List.length_eraseIdx, if_pos hk]
  · rw [List.length_eraseIdx, if_pos hk]
    omega
  · rw [List.length_eraseIdx, if_pos hk] at hm
    have e : (if k ≤ m ∧ m + 1 < xs.length then m + 1 else if m + 1 = xs.length then k else m) = if m < k then m else m + 1 := by
      by_cases q : m < k
      · rw [if_neg (by omega), if_neg (by omega), if_pos q]
      · rw [if_pos (by omega), if_neg q]
    rw [hB, e, eraseIdx_getD]
    obtain ⟨a1, b1, b2, b3⟩ := s5 (if m < k then m else m + 1) (by split <;> omega)
    exact ⟨a1, (zI_ne (by decide)).trans b1, b2, b3⟩
theorem RepC.out {j k : Nat} (R : RepC h0 N M h w c l) (hln : (ln = 22 ∧ la = 23 ∧ j = 0) ∨ (ln = 24 ∧ la = 25 ∧ j = 1)) (hk : k < (l j).length) : RepC h0 N M (zsI (zBs h la (rout (zB h la) k (l j).length)) 257 ln (((l j).length - 1 : Nat) : Int)) w c (outL l j k) := by
  have hL : cL h w ln la (l j) := by
    rcases hln with ⟨rfl, rfl, rfl⟩ | ⟨rfl, rfl, rfl⟩
    · exact R.2.2.2.2.2.2.2.1
    · exact R.2.2.2.2.2.2.2.2.1
  have p := cL_out hL hk
  have key := R.line0 (ln := ln) (la := la) (h' := zsI (zBs h la (rout (zB h la) k (l j).length)) 257 ln (((l j).length - 1 : Nat) : Int)) (b := zn h + 48) (by
    rcases hln with ⟨a, b, -⟩ | ⟨a, b, -⟩
    · exact Or.inl ⟨a, b⟩
    · exact Or.inr ⟨a, b⟩) rfl rfl rfl rfl (fun a z => funext fun i => by rw [zB_sI, zB_Bs, if_neg z]) (fun f x p1 p2 => by
    rw [zI_sI, if_neg (fun z => p2.elim (fun y => y z.1) (fun y => y z.2))]
    rfl) (Nat.le_add_left _ _) (fun ra t ht => fun z => by
      have := ht.2.2.2.2.2.2.2.1
      rw [← z] at this
      exact absurd this (Nat.not_lt_of_le (Nat.le_add_right _ _))) (fun a z => rfl) (fun ln' la' ys' p1 p2 hq => cL_fr hq (fun _ _ => rfl) (Nat.le_refl _) (fun i => by rw [zB_sI, zB_Bs, if_neg p2]) (fun _ _ => rfl) (zI_na p1) (fun q hq2 => ⟨zI_ne (by decide), rfl, fun i => rfl⟩)) p
  rcases hln with ⟨rfl, rfl, rfl⟩ | ⟨rfl, rfl, rfl⟩
  · exact key
  · exact key
theorem RepC.nil {j : Nat} (R : RepC h0 N M h w c l) (hln : (ln = 22 ∧ la = 23 ∧ j = 0) ∨ (ln = 24 ∧ la = 25 ∧ j = 1)) : RepC h0 N M (zsI h 257 ln 0) w c (fun i => if i = j then [] else l i) := by
  have hL : cL h w ln la (l j) := by
    rcases hln with ⟨rfl, rfl, rfl⟩ | ⟨rfl, rfl, rfl⟩
    · exact R.2.2.2.2.2.2.2.1
    · exact R.2.2.2.2.2.2.2.2.1
  obtain ⟨s1, s2, s3, s4, s5⟩ := hL
  have p : cL (zsI h 257 ln 0) w ln la [] := ⟨s1, s2, zI_sI_s, Nat.zero_le _, fun k hk => absurd hk (Nat.not_lt_zero _)⟩
  have key := R.line0 (ln := ln) (la := la) (h' := zsI h 257 ln 0) (b := zn h + 48) (by
    rcases hln with ⟨a, b, -⟩ | ⟨a, b, -⟩
    · exact Or.inl ⟨a, b⟩
    · exact Or.inr ⟨a, b⟩) rfl rfl rfl rfl (fun a z => rfl) (fun f x p1 p2 => by
    rw [zI_sI, if_neg (fun z => p2.elim (fun y => y z.1) (fun y => y z.2))]) (Nat.le_add_left _ _) (fun ra t ht => fun z => by
      have := ht.2.2.2.2.2.2.2.1
      rw [← z] at this
      exact absurd this (Nat.not_lt_of_le (Nat.le_add_right _ _))) (fun a z => rfl) (fun ln' la' ys' p1 p2 hq => cL_fr hq (fun _ _ => rfl) (Nat.le_refl _) (fun i => rfl) (fun _ _ => rfl) (zI_na p1) (fun q hq2 => ⟨zI_ne (by decide), rfl, fun i => rfl⟩)) p
  rcases hln with ⟨rfl, rfl, rfl⟩ | ⟨rfl, rfl, rfl⟩
  · exact key
  · exact key
/-- a letter bent, where it lies -/
theorem RepC.bend {j k i : Nat} {v : Int} {q : Nat} (R : RepC h0 N M h w c l) (hln : (ln = 22 ∧ la = 23 ∧ j = 0) ∨ (ln = 24 ∧ la = 25 ∧ j = 1)) (hk : k < (l j).length) (hq : zB h la k = q) : RepC h0 N M (zsA h (zR h 192 q) i v) w c (fun m => if m = j then (l j).set k (((l j).getD k []).set i v) else l m) := by
  have hL : cL h w ln la (l j) := by
    rcases hln with ⟨rfl, rfl, rfl⟩ | ⟨rfl, rfl, rfl⟩
    · exact R.2.2.2.2.2.2.2.1
    · exact R.2.2.2.2.2.2.2.2.1
  obtain ⟨s1, s2, s3, s4, s5⟩ := id hL
  obtain ⟨q0, d1, d2, d3⟩ := s5 k hk
  have hte := s1 k (Nat.lt_of_lt_of_le hk s4) q0
  rw [hq] at hte q0 d1 d2 d3
  have p : cL (zsA h (zR h 192 q) i v) w ln la ((l j).set k (((l j).getD k []).set i v)) := by
    refine ⟨s1, s2, by rw [List.length_set]; exact s3, by rw [List.length_set]; exact s4, fun m hm => ?_⟩
    rw [List.length_set] at hm
    by_cases e : m = k
    · subst e
      have eB : zB (zsA h (zR h 192 q) i v) la m = q := hq
      have eG : ((l j).set m (((l j).getD m []).set i v)).getD m [] = ((l j).getD m []).set i v := by
        rw [List.getD_eq_getElem?_getD, List.getElem?_set_self hm]
        rfl
      rw [eB, eG]
      refine ⟨q0, by rw [List.length_set]; exact d1, by rw [List.length_set]; exact d2, ?_⟩
      have := isLs_set (i := i) (v := v) d3
      intro b u hu
      have e2 := this b u hu
      show zA (zsA h (zR h 192 q) i v) (zR h 192 q) b = u
      rw [zA_sA]
      unfold fup at e2
      by_cases y : b = i
      · rw [if_pos y] at e2
        rw [if_pos ⟨rfl, y⟩]
        exact e2
      · rw [if_neg y] at e2
        rw [if_neg (fun z => y z.2)]
        exact e2
    · obtain ⟨a1, b1, b2, b3⟩ := s5 m hm
      have htm := s1 m (Nat.lt_of_lt_of_le hm s4) a1
      have eG : ((l j).set k (((l j).getD k []).set i v)).getD m [] = (l j).getD m [] := by
        rw [List.getD_eq_getElem?_getD, List.getElem?_set_ne (Ne.symm e), ← List.getD_eq_getElem?_getD]
      have ne2 : zR h 192 (zB h la m) ≠ zR h 192 q := fun z => by
        have a := htm.2.2.2.2.2.2
        rw [z, hte.2.2.2.2.2.2] at a
        exact e (s2 m k (Nat.lt_of_lt_of_le hm s4) (Nat.lt_of_lt_of_le hk s4) a1 (a.symm.trans hq.symm))
      rw [eG]
      refine ⟨a1, b1, b2, ?_⟩
      intro b u hu
      show zA (zsA h (zR h 192 q) i v) (zR h 192 (zB h la m)) b = u
      rw [zA_sA, if_neg (fun z => ne2 z.1)]
      exact b3 b u hu
  have key := R.line0 (ln := ln) (la := la) (h' := zsA h (zR h 192 q) i v) (b := zR h 192 q) (by
    rcases hln with ⟨a, b, -⟩ | ⟨a, b, -⟩
    · exact Or.inl ⟨a, b⟩
    · exact Or.inr ⟨a, b⟩) rfl rfl rfl rfl (fun a z => rfl) (fun f x p1 p2 => rfl) hte.2.2.2.2.2.1.1 (fun ra t ht => lt_ne hte ht) (fun a z => funext fun m => by rw [zA_sA, if_neg (fun y => z y.1)]) (fun ln' la' ys' p1 p2 hq3 => cL_fr hq3 (fun _ _ => rfl) (Nat.le_refl _) (fun i => rfl) (fun _ _ => rfl) rfl (fun u hu => ⟨rfl, rfl, fun m => by
      have ne2 : zR h 192 u ≠ zR h 192 q := fun z => by
        have a := hu.2.2.2.2.2.2
        rw [z, hte.2.2.2.2.2.2] at a
        have b := hu.2.2.1
        rw [← a, hte.2.2.1] at b
        exact p2 b.symm
      rw [zA_sA, if_neg (fun y => ne2 y.1)]⟩)) p
  rcases hln with ⟨rfl, rfl, rfl⟩ | ⟨rfl, rfl, rfl⟩
  · exact key
  · exact key
end cLine2
