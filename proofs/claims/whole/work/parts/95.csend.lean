/-! THE CLASS: a letter sent -/
section cSend
variable {h0 h h' : zH} {N M N' M' : Nat} {w w' : Nat → Nat} {c : cg} {l : lg} {Q : Option zV → zH → Prop} {B : Int} {ln la j : Nat} {ys : List Int}
theorem RepC.lj (R : RepC h0 N M h w c l) (hln : (ln = 22 ∧ la = 23 ∧ j = 0) ∨ (ln = 24 ∧ la = 25 ∧ j = 1)) : cL h w ln la (l j) ∧ (zK h ln).1 = 14 ∧ zR h 256 ln = la ∧ zK h la = (3, 40) ∧ ln < 48 ∧ la < 48 ∧ 0 < ln := by
  have hc := R.1
  rcases hln with ⟨rfl, rfl, rfl⟩ | ⟨rfl, rfl, rfl⟩
  · exact ⟨R.2.2.2.2.2.2.2.1, hc.k22, hc.r256_22, hc.k23, by decide, by decide, by decide⟩
  · exact ⟨R.2.2.2.2.2.2.2.2.1, hc.k24, hc.r256_24, hc.k25, by decide, by decide, by decide⟩
theorem x_append (R : RepC h0 N M h w c l) (hln : (ln = 22 ∧ la = 23 ∧ j = 0) ∨ (ln = 24 ∧ la = 25 ∧ j = 1)) (hL : isL h 26 1010 ys) (hB : byteL ys) (hlt : (l j).length < 40)
    (hQ : ∀ h' w', RepC h0 (N + 2) (M + 1012) h' w' c (sndL l j ys) → Q (some (.inl 1)) h') : zE 42 0 [some (.inr ln), some (.inr 26), none] [] h Q := by
  have hc := R.1
  have z48 := R.z48
  obtain ⟨hl, a1, a2, a3, a4, a5, a6⟩ := R.lj hln
  have hy : ys.length ≤ 1010 := hL.2.2.1
  have h27 : zR h 192 26 = 27 := hc.r192_26
  have hsz := hl.2.2.1
  refine c_LnAppend (n := (l j).length) (m := (zK h (zR h 192 (zB h la (l j).length))).2) a1 a2 a3 hsz hlt hL hB (by omega) (by omega) (by omega) R.z0 (by omega) rfl ?_ ?_ ?_ ?_
  · intro e0
    obtain ⟨t1, t2, t3, t4, t5, t6, t7⟩ := hl.1 _ hlt e0
    exact ⟨⟨t1, by rw [← t4], t5⟩, by omega, by omega, t2.2⟩
  · intro e0 hm g hg
    exact hQ _ _ ((R.put hln hlt rfl e0 hm hg).mono (by omega) (by omega))
  · intro e0 hm g hg
    have hte := hl.1 _ hlt e0
    have hne : ∀ {ln' la' : Nat} {xs : List (List Int)}, cL h w ln' la' xs → (la' = la → xs = l j) → ∀ k, k < xs.length → zB h la' k ≠ zB h la (l j).length := by
      intro ln' la' xs hq hx k hk z
      obtain ⟨b1, b2, _, b4⟩ := cL_let hq hk
      by_cases e : la' = la
      · have := hx e
        subst this
        rw [e] at z b2
        have := hl.2.1 k _ (by omega) hlt b2 z
        omega
      · have w1 := b4.2.2.1
        rw [z, hte.2.2.1] at w1
        exact e w1.symm
    have R1 := R.newB (e := zB h la (l j).length) (K := ys.length) hte.2.1.1 (by omega) (hne R.2.2.2.2.2.2.2.1 (fun z => by rcases hln with ⟨-, p, q⟩ | ⟨-, p, q⟩ <;> subst p q <;> first | rfl | cases z)) (hne R.2.2.2.2.2.2.2.2.1 (fun z => by rcases hln with ⟨-, p, q⟩ | ⟨-, p, q⟩ <;> subst p q <;> first | rfl | cases z))
    obtain ⟨f1, f2, f3, f4, f5, f6, f7, f8, f9, f10⟩ := hNewB_f h (zB h la (l j).length) ys.length
    have R2 := R1.put (e := zB h la (l j).length) (g := g) (ys := ys) hln hlt (f7 _ _ (by omega)) e0 (by rw [f8, f9]; exact Nat.le_refl _) hg
    exact hQ _ _ (R2.mono (by omega) (by omega))
  · intro e0 g hg
    have R1 := R.newL (K := ys.length) hln hlt e0 (by omega)
    obtain ⟨f1, f2, f3, f4, f5, f6, f7, f8, f9, f10, f11, f12⟩ := hNewL_f h la (l j).length ys.length
    have R2 := R1.put (e := zn h) (g := g) (ys := ys) hln hlt f8 (by omega) (by rw [f11, f10]; exact Nat.le_refl _) hg
    exact hQ _ _ (R2.mono (by omega) (by omega))
theorem x_send (R : RepC h0 N M h w c l) (hln : (ln = 22 ∧ la = 23 ∧ j = 0) ∨ (ln = 24 ∧ la = 25 ∧ j = 1)) (hL : isL h 26 1010 ys) (hB : byteL ys) (hv : (0 ≤ c.1 24 ∧ c.1 24 ≤ 1000000) ∧ (0 ≤ c.1 25 ∧ c.1 25 ≤ 2000000000) ∧ (0 ≤ c.1 26 ∧ c.1 26 ≤ 1000000))
    (hQ : ∀ h' w', RepC h0 (N + 2) (M + 1012) h' w' (sndC c (l j).length ys.length) (sndL l j ys) → Q none h') : zE 98 0 [some (.inr 2), some (.inr ln)] [] h Q := by
  have hc := R.1
  have hy : ys.length ≤ 1010 := hL.2.2.1
  have h27 : zR h 192 26 = 27 := hc.r192_26
  have hlen : zI h 193 26 = ys.length := hL.2.1
  have u0 : zA h 28 0 = c.1 24 := R.2.1.2 0 (by decide)
  have u1 : zA h 28 1 = c.1 25 := R.2.1.2 1 (by decide)
  have R1 := (R.sT (i := 0) (v := c.1 24 + 1) (by decide)).sT (i := 1) (v := c.1 25 + ys.length) (by decide)
  rw [wX10_send_0 hc, u0, zw_eq (by omega) (by omega), wX10_send_10 (by exact hc)]
  have u1' : zA (zsA h 28 0 (c.1 24 + 1)) 28 1 = c.1 25 := by rw [zA_sA, if_neg (by omega)]; exact u1
  have ul : zI (zsA h 28 0 (c.1 24 + 1)) 193 26 = ys.length := hlen
  rw [u1', ul, zw_eq (x := c.1 25 + ys.length) (by omega) (by omega)]
  have hL1 : isL (zsA (zsA h 28 0 (c.1 24 + 1)) 28 1 (c.1 25 + ys.length)) 26 1010 ys := by
    refine ⟨hL.1, hL.2.1, hL.2.2.1, ?_⟩
    show isLs (zA (zsA (zsA h 28 0 (c.1 24 + 1)) 28 1 (c.1 25 + ys.length)) (zR h 192 26)) ys
    intro b v hb
    rw [h27, zA_sA, if_neg (by omega), zA_sA, if_neg (by omega), ← h27]
    exact hL.2.2.2 b v hb
  generalize zsA (zsA h 28 0 (c.1 24 + 1)) 28 1 (c.1 25 + ys.length) = h1 at R1 hL1 ⊢
  have hc1 := R1.1
  obtain ⟨hl, a1, a2, a3, a4, a5, a6⟩ := R1.lj hln
  rw [wX10_send_26 hc1]
  refine ⟨a1, ?_⟩
  by_cases hlt : (l j).length < 40
  · unfold sndC at hQ
    rw [if_pos hlt] at hQ
    refine x_append R1 hln hL1 hB hlt fun h' w' R' => ?_
    simp only [Option.toList_some, List.cons_append, List.nil_append]
    rw [wX10_send_34 R'.1, if_pos (by decide), wX10_send_47 R'.1]
    exact hQ h' w' R'
  · have h40 : (l j).length = 40 := by have := hl.2.2.2.1; omega
    have e2 : sndL l j ys = l := if_neg hlt
    unfold sndC at hQ
    rw [if_neg hlt, e2] at hQ
    refine c_LnFull a1 (by rw [hl.2.2.1, h40]; rfl) ?_
    simp only [Option.toList_some, List.cons_append, List.nil_append]
    have u2 : zA h1 28 2 = c.1 26 := R1.2.1.2 2 (by decide)
    have R2 := R1.sT (i := 2) (v := c.1 26 + 1) (by decide)
    rw [wX10_send_34 hc1, if_neg (fun z => z rfl), wX10_send_37 hc1, u2, zw_eq (by omega) (by omega), wX10_send_47 R2.1]
    exact hQ _ _ (R2.mono (by omega) (by omega))
end cSend
