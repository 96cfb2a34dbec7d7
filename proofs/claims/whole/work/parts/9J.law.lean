/-! THE LAW'S CALLS -/
section lCalls
variable {L : Nat} {g : Nat → Int} {h : zH} {Q : Option zV → zH → Prop} {x3 B : Int} {N M : Nat}
theorem Inv.mono {B' : Int} {N' M' : Nat} (V : Inv L g B N M h) (hB : B ≤ B') (hN : N ≤ N') (hM : M ≤ M') : Inv L g B' N' M' h := by
  obtain ⟨w, c, l, R, hm, hR, hG, hK, hA⟩ := V
  exact ⟨w, c, l, R.mono hN hM, hm, hR, hG.mono hB, hK, hA⟩
def Nxt (L : Nat) (g : Nat → Int) (B : Int) (N M : Nat) (x3 : Int) (Q : Option zV → zH → Prop) : Prop := ∀ h', Inv L g (B + 95) (N + 170) (M + 10500) h' → zE 0 698 [some (.inr 1), some (.inr 2), some (.inr 29), some (.inl x3)] [] h' Q
theorem o_program (V : Inv L g B N M h) (hB : B ≤ 50000) (hx : 0 ≤ x3 ∧ x3 + 5 ≤ (L : Int) ∧ L ≤ 2560) (hg : ∀ i, -2147483648 ≤ g i ∧ g i < 2147483648) (hQ : Nxt L g B N M x3 Q) : zE 0 171 [some (.inr 1), some (.inr 2), some (.inr 29), some (.inl x3)] [] h Q := by
  obtain ⟨w, c, l, R, hm, hR, hG, hK, hA⟩ := V
  have z1 : zw (x3 + 1) = x3 + 1 := zw_eq (by omega) (by omega)
  rw [xL_law_171, hK, z1, hA]
  refine ⟨Or.inr rfl, ⟨by omega, by show x3 + 1 < (L : Int); omega⟩, R.1.k2, ?_⟩
  refine x_program R fun h1 R1 => ?_
  have D := mid_of hm hR hG hK hA R1
  simp only [Option.toList_some, List.cons_append, List.nil_append]
  rw [xL_law_180, D.2.2.2.1, z1, D.2.2.2.2]
  refine ⟨Or.inr rfl, ⟨by omega, by show x3 + 1 < (L : Int); omega⟩, D.2.1.1, ?_⟩
  have key := m_program (h := h1) (I := fun f => zI h1 f 29) (A := zA h1) (p := (g (x3 + 1).toNat)) (l2 := none) D.2.1 D.2.2.1 (Q := fun r h2 => zE 0 189 [some (.inr 1), some (.inr 2), some (.inr 29), some (.inl x3)] (r.toList ++ [.inl (if 0 ≤ (g (x3 + 1).toNat) ∧ (g (x3 + 1).toNat) ≤ 3 then c.1 3 else -1)]) h2 Q) ?_
  · rw [inv_id D] at key
    exact key
  intro I2 R2
  simp only [Option.toList_some, List.cons_append, List.nil_append]
  rw [xL_law_189, if_pos rfl]
  exact hQ _ ((inv_of D R2 (good_prog hG)).mono (by omega) (by omega) (by omega))
theorem o_pen (V : Inv L g B N M h) (hB : B ≤ 50000) (hx : 0 ≤ x3 ∧ x3 + 5 ≤ (L : Int) ∧ L ≤ 2560) (hg : ∀ i, -2147483648 ≤ g i ∧ g i < 2147483648) (hQ : Nxt L g B N M x3 Q) : zE 0 319 [some (.inr 1), some (.inr 2), some (.inr 29), some (.inl x3)] [] h Q := by
  obtain ⟨w, c, l, R, hm, hR, hG, hK, hA⟩ := V
  have z1 : zw (x3 + 1) = x3 + 1 := zw_eq (by omega) (by omega)
  rw [xL_law_319, hK, z1, hA]
  refine ⟨Or.inr rfl, ⟨by omega, by show x3 + 1 < (L : Int); omega⟩, R.1.k2, ?_⟩
  refine x_pen R fun h1 R1 => ?_
  have D := mid_of hm hR hG hK hA R1
  simp only [Option.toList_some, List.cons_append, List.nil_append]
  rw [xL_law_328, D.2.2.2.1, z1, D.2.2.2.2]
  refine ⟨Or.inr rfl, ⟨by omega, by show x3 + 1 < (L : Int); omega⟩, D.2.1.1, ?_⟩
  have key := m_pen (h := h1) (I := fun f => zI h1 f 29) (A := zA h1) (p := (g (x3 + 1).toNat)) (l2 := none) D.2.1 D.2.2.1 (Q := fun r h2 => zE 0 337 [some (.inr 1), some (.inr 2), some (.inr 29), some (.inl x3)] (r.toList ++ [.inl (if 0 ≤ (g (x3 + 1).toNat) ∧ (g (x3 + 1).toNat) ≤ 3 then c.1 5 else -1)]) h2 Q) ?_
  · rw [inv_id D] at key
    exact key
  intro I2 R2
  simp only [Option.toList_some, List.cons_append, List.nil_append]
  rw [xL_law_337, if_pos rfl]
  exact hQ _ ((inv_of D R2 (good_pen hG)).mono (by omega) (by omega) (by omega))
theorem o_write (V : Inv L g B N M h) (hB : B ≤ 50000) (hx : 0 ≤ x3 ∧ x3 + 5 ≤ (L : Int) ∧ L ≤ 2560) (hg : ∀ i, -2147483648 ≤ g i ∧ g i < 2147483648) (hQ : Nxt L g B N M x3 Q) : zE 0 217 [some (.inr 1), some (.inr 2), some (.inr 29), some (.inl x3)] [] h Q := by
  obtain ⟨w, c, l, R, hm, hR, hG, hK, hA⟩ := V
  have z1 : zw (x3 + 1) = x3 + 1 := zw_eq (by omega) (by omega)
  rw [xL_law_217, hK, z1, hA]
  refine ⟨Or.inr rfl, ⟨by omega, by show x3 + 1 < (L : Int); omega⟩, R.1.k2, ?_⟩
  refine x_write R hG fun h1 R1 => ?_
  have D := mid_of hm hR hG hK hA R1
  simp only [Option.toList_some, List.cons_append, List.nil_append]
  rw [xL_law_226, D.2.2.2.1, z1, D.2.2.2.2]
  refine ⟨Or.inr rfl, ⟨by omega, by show x3 + 1 < (L : Int); omega⟩, D.2.1.1, ?_⟩
  have key := m_write (h := h1) (I := fun f => zI h1 f 29) (A := zA h1) (s := (g (x3 + 1).toNat)) D.2.1 D.2.2.1 hG.2.1.1 (Q := fun r h2 => zE 0 235 [some (.inr 1), some (.inr 2), some (.inr 29), some (.inl x3)] (r.toList ++ [.inl (if (32 ≤ (g (x3 + 1).toNat) ∧ (g (x3 + 1).toNat) ≤ 126) ∨ (g (x3 + 1).toNat) = 13 ∨ (g (x3 + 1).toNat) = 8 then 1 else 0)]) h2 Q) ?_
  · rw [inv_id D] at key
    exact key
  intro A2 R2
  simp only [Option.toList_some, List.cons_append, List.nil_append]
  rw [xL_law_235, if_pos rfl]
  exact hQ _ ((inv_of D R2 (good_write hG)).mono (by omega) (by omega) (by omega))
theorem o_move (V : Inv L g B N M h) (hB : B ≤ 50000) (hx : 0 ≤ x3 ∧ x3 + 5 ≤ (L : Int) ∧ L ≤ 2560) (hg : ∀ i, -2147483648 ≤ g i ∧ g i < 2147483648) (hQ : Nxt L g B N M x3 Q) : zE 0 240 [some (.inr 1), some (.inr 2), some (.inr 29), some (.inl x3)] [] h Q := by
  obtain ⟨w, c, l, R, hm, hR, hG, hK, hA⟩ := V
  have z1 : zw (x3 + 1) = x3 + 1 := zw_eq (by omega) (by omega)
  have z2 : zw (x3 + 2) = x3 + 2 := zw_eq (by omega) (by omega)
  rw [xL_law_240, hK, z1, z2, hA]
  refine ⟨Or.inr rfl, ⟨by omega, by show x3 + 1 < (L : Int); omega⟩, Or.inr rfl, ⟨by omega, by show x3 + 2 < (L : Int); omega⟩, R.1.k2, ?_⟩
  refine x_move R fun h1 R1 => ?_
  have D := mid_of hm hR hG hK hA R1
  simp only [Option.toList_some, List.cons_append, List.nil_append]
  rw [xL_law_254, D.2.2.2.1, z1, z2, D.2.2.2.2]
  refine ⟨Or.inr rfl, ⟨by omega, by show x3 + 1 < (L : Int); omega⟩, Or.inr rfl, ⟨by omega, by show x3 + 2 < (L : Int); omega⟩, D.2.1.1, ?_⟩
  have key := m_move (h := h1) (I := fun f => zI h1 f 29) (A := zA h1) (r := (g (x3 + 1).toNat)) (q := (g (x3 + 2).toNat)) D.2.1 D.2.2.1 (Q := fun r h2 => zE 0 268 [some (.inr 1), some (.inr 2), some (.inr 29), some (.inl x3)] (r.toList ++ [.inl (if 0 ≤ (g (x3 + 1).toNat) ∧ (g (x3 + 1).toNat) < 8 ∧ 0 ≤ (g (x3 + 2).toNat) ∧ (g (x3 + 2).toNat) < 24 then 1 else 0)]) h2 Q) ?_
  · rw [inv_id D] at key
    exact key
  intro A2 R2
  simp only [Option.toList_some, List.cons_append, List.nil_append]
  rw [xL_law_268, if_pos rfl]
  exact hQ _ ((inv_of D R2 (good_move hG)).mono (by omega) (by omega) (by omega))
theorem o_wipe (V : Inv L g B N M h) (hB : B ≤ 50000) (hx : 0 ≤ x3 ∧ x3 + 5 ≤ (L : Int) ∧ L ≤ 2560) (hg : ∀ i, -2147483648 ≤ g i ∧ g i < 2147483648) (hQ : Nxt L g B N M x3 Q) : zE 0 273 [some (.inr 1), some (.inr 2), some (.inr 29), some (.inl x3)] [] h Q := by
  obtain ⟨w, c, l, R, hm, hR, hG, hK, hA⟩ := V
  have z1 : zw (x3 + 1) = x3 + 1 := zw_eq (by omega) (by omega)
  rw [xL_law_273, hK, z1, hA]
  refine ⟨Or.inr rfl, ⟨by omega, by show x3 + 1 < (L : Int); omega⟩, R.1.k2, ?_⟩
  refine x_wipe R fun h1 R1 => ?_
  have D := mid_of hm hR hG hK hA R1
  simp only [Option.toList_some, List.cons_append, List.nil_append]
  rw [xL_law_282, D.2.2.2.1, z1, D.2.2.2.2]
  refine ⟨Or.inr rfl, ⟨by omega, by show x3 + 1 < (L : Int); omega⟩, D.2.1.1, ?_⟩
  have key := m_wipe (h := h1) (I := fun f => zI h1 f 29) (A := zA h1) (r := (g (x3 + 1).toNat)) D.2.1 D.2.2.1 (Q := fun r h2 => zE 0 291 [some (.inr 1), some (.inr 2), some (.inr 29), some (.inl x3)] (r.toList ++ [.inl (if 0 ≤ (g (x3 + 1).toNat) ∧ (g (x3 + 1).toNat) < 8 then 1 else 0)]) h2 Q) ?_
  · rw [inv_id D] at key
    exact key
  intro A2 R2
  simp only [Option.toList_some, List.cons_append, List.nil_append]
  rw [xL_law_291, if_pos rfl]
  exact hQ _ ((inv_of D R2 (good_wipe hG)).mono (by omega) (by omega) (by omega))
theorem o_scroll (V : Inv L g B N M h) (hB : B ≤ 50000) (hx : 0 ≤ x3 ∧ x3 + 5 ≤ (L : Int) ∧ L ≤ 2560) (hg : ∀ i, -2147483648 ≤ g i ∧ g i < 2147483648) (hQ : Nxt L g B N M x3 Q) : zE 0 296 [some (.inr 1), some (.inr 2), some (.inr 29), some (.inl x3)] [] h Q := by
  obtain ⟨w, c, l, R, hm, hR, hG, hK, hA⟩ := V
  have z1 : zw (x3 + 1) = x3 + 1 := zw_eq (by omega) (by omega)
  rw [xL_law_296, hK, z1, hA]
  refine ⟨Or.inr rfl, ⟨by omega, by show x3 + 1 < (L : Int); omega⟩, R.1.k2, ?_⟩
  refine x_scroll R fun h1 R1 => ?_
  have D := mid_of hm hR hG hK hA R1
  simp only [Option.toList_some, List.cons_append, List.nil_append]
  rw [xL_law_305, D.2.2.2.1, z1, D.2.2.2.2]
  refine ⟨Or.inr rfl, ⟨by omega, by show x3 + 1 < (L : Int); omega⟩, D.2.1.1, ?_⟩
  have key := m_scroll (h := h1) (I := fun f => zI h1 f 29) (A := zA h1) (n := (g (x3 + 1).toNat)) D.2.1 D.2.2.1 (Q := fun r h2 => zE 0 314 [some (.inr 1), some (.inr 2), some (.inr 29), some (.inl x3)] (r.toList ++ [.inl (if 1 ≤ (g (x3 + 1).toNat) ∧ (g (x3 + 1).toNat) ≤ 8 then 1 else 0)]) h2 Q) ?_
  · rw [inv_id D] at key
    exact key
  intro A2 R2
  simp only [Option.toList_some, List.cons_append, List.nil_append]
  rw [xL_law_314, if_pos rfl]
  exact hQ _ ((inv_of D R2 (good_scroll hG)).mono (by omega) (by omega) (by omega))
theorem o_roam (V : Inv L g B N M h) (hB : B ≤ 50000) (hx : 0 ≤ x3 ∧ x3 + 5 ≤ (L : Int) ∧ L ≤ 2560) (hg : ∀ i, -2147483648 ≤ g i ∧ g i < 2147483648) (hQ : Nxt L g B N M x3 Q) : zE 0 421 [some (.inr 1), some (.inr 2), some (.inr 29), some (.inl x3)] [] h Q := by
  obtain ⟨w, c, l, R, hm, hR, hG, hK, hA⟩ := V
  rw [xL_law_421]
  refine ⟨R.1.k2, ?_⟩
  refine x_roam R hG fun h1 R1 => ?_
  have D := mid_of hm hR hG hK hA R1
  simp only [Option.toList_some, List.cons_append, List.nil_append]
  rw [xL_law_425]
  refine ⟨D.2.1.1, ?_⟩
  have key := m_roam (h := h1) (I := fun f => zI h1 f 29) (A := zA h1) D.2.1 D.2.2.1 hG (Q := fun r h2 => zE 0 429 [some (.inr 1), some (.inr 2), some (.inr 29), some (.inl x3)] (r.toList ++ [.inl ((roamS c).1 18)]) h2 Q) ?_
  · rw [inv_id D] at key
    exact key
  intro I2 A2 R2
  simp only [Option.toList_some, List.cons_append, List.nil_append]
  rw [xL_law_429, if_pos rfl]
  exact hQ _ ((inv_of D R2 (good_roam hG)).mono (by omega) (by omega) (by omega))
theorem o_tick (V : Inv L g B N M h) (hB : B ≤ 50000) (hx : 0 ≤ x3 ∧ x3 + 5 ≤ (L : Int) ∧ L ≤ 2560) (hg : ∀ i, -2147483648 ≤ g i ∧ g i < 2147483648) (hQ : Nxt L g B N M x3 Q) : zE 0 342 [some (.inr 1), some (.inr 2), some (.inr 29), some (.inl x3)] [] h Q := by
  obtain ⟨w, c, l, R, hm, hR, hG, hK, hA⟩ := V
  rw [xL_law_342]
  refine ⟨R.1.k2, ?_⟩
  refine x_tick R hG hB fun h1 w1 R1 => ?_
  have D := mid_of hm hR hG hK hA R1
  simp only [Option.toList_some, List.cons_append, List.nil_append]
  rw [xL_law_346]
  refine ⟨D.2.1.1, ?_⟩
  have key := m_tick (h := h1) (I := fun f => zI h1 f 29) (A := zA h1) (l1 := none) D.2.1 D.2.2.1 hG hB (Q := fun r h2 => zE 0 350 [some (.inr 1), some (.inr 2), some (.inr 29), some (.inl x3)] (r.toList ++ [.inl ((tickS c l).1.1 24 - c.1 24)]) h2 Q) ?_
  · rw [inv_id D] at key
    exact key
  intro I2 A2 R2
  simp only [Option.toList_some, List.cons_append, List.nil_append]
  rw [xL_law_350, if_pos rfl]
  exact hQ _ ((inv_of D R2 (good_tick hG hB)).mono (by omega) (by omega) (by omega))
theorem o_round (V : Inv L g B N M h) (hB : B ≤ 50000) (hx : 0 ≤ x3 ∧ x3 + 5 ≤ (L : Int) ∧ L ≤ 2560) (hg : ∀ i, -2147483648 ≤ g i ∧ g i < 2147483648) (hQ : Nxt L g B N M x3 Q) : zE 0 355 [some (.inr 1), some (.inr 2), some (.inr 29), some (.inl x3)] [] h Q := by
  obtain ⟨w, c, l, R, hm, hR, hG, hK, hA⟩ := V
  rw [xL_law_355]
  refine ⟨R.1.k2, ?_⟩
  refine x_round R hG hB fun h1 w1 R1 => ?_
  have D := mid_of hm hR hG hK hA R1
  simp only [Option.toList_some, List.cons_append, List.nil_append]
  rw [xL_law_359]
  refine ⟨D.2.1.1, ?_⟩
  have key := m_round (h := h1) (I := fun f => zI h1 f 29) (A := zA h1) (l1 := none) (l2 := none) D.2.1 D.2.2.1 hG hB (Q := fun r h2 => zE 0 363 [some (.inr 1), some (.inr 2), some (.inr 29), some (.inl x3)] (r.toList ++ [.inl (((((tickS c l).2 0).length + ((tickS c l).2 1).length : Nat) : Int))]) h2 Q) ?_
  · rw [inv_id D] at key
    exact key
  intro I2 A2 R2
  simp only [Option.toList_some, List.cons_append, List.nil_append]
  rw [xL_law_363, if_pos rfl]
  exact hQ _ ((inv_of D R2 (good_round hG hB)).mono (by omega) (by omega) (by omega))
theorem o_carry (V : Inv L g B N M h) (hB : B ≤ 50000) (hx : 0 ≤ x3 ∧ x3 + 5 ≤ (L : Int) ∧ L ≤ 2560) (hg : ∀ i, -2147483648 ≤ g i ∧ g i < 2147483648) (hQ : Nxt L g B N M x3 Q) : zE 0 368 [some (.inr 1), some (.inr 2), some (.inr 29), some (.inl x3)] [] h Q := by
  obtain ⟨w, c, l, R, hm, hR, hG, hK, hA⟩ := V
  have z1 : zw (x3 + 1) = x3 + 1 := zw_eq (by omega) (by omega)
  have z2 : zw (x3 + 2) = x3 + 2 := zw_eq (by omega) (by omega)
  have z3 : zw (x3 + 3) = x3 + 3 := zw_eq (by omega) (by omega)
  have z4 : zw (x3 + 4) = x3 + 4 := zw_eq (by omega) (by omega)
  rw [xL_law_368, hK, z1, z2, z3, z4, hA]
  refine ⟨Or.inr rfl, ⟨by omega, by show x3 + 1 < (L : Int); omega⟩, Or.inr rfl, ⟨by omega, by show x3 + 2 < (L : Int); omega⟩, Or.inr rfl, ⟨by omega, by show x3 + 3 < (L : Int); omega⟩, Or.inr rfl, ⟨by omega, by show x3 + 4 < (L : Int); omega⟩, R.1.k2, ?_⟩
  refine x_carry R hG (by omega) (hg _).2 fun h1 w1 R1 => ?_
  have D := mid_of hm hR hG hK hA R1
  simp only [Option.toList_some, List.cons_append, List.nil_append]
  rw [xL_law_392, D.2.2.2.1, z1, z2, z3, z4, D.2.2.2.2]
  refine ⟨Or.inr rfl, ⟨by omega, by show x3 + 1 < (L : Int); omega⟩, Or.inr rfl, ⟨by omega, by show x3 + 2 < (L : Int); omega⟩, Or.inr rfl, ⟨by omega, by show x3 + 3 < (L : Int); omega⟩, Or.inr rfl, ⟨by omega, by show x3 + 4 < (L : Int); omega⟩, D.2.1.1, ?_⟩
  have key := m_carry (h := h1) (I := fun f => zI h1 f 29) (A := zA h1) (line := (g (x3 + 1).toNat)) (k := (g (x3 + 2).toNat)) (how := (g (x3 + 3).toNat)) (arg := (g (x3 + 4).toNat)) (l5 := none) D.2.1 D.2.2.1 hG hB (hg _).2 (Q := fun r h2 => zE 0 416 [some (.inr 1), some (.inr 2), some (.inr 29), some (.inl x3)] (r.toList ++ [.inl (carryA l (g (x3 + 1).toNat) (g (x3 + 2).toNat) (g (x3 + 3).toNat) (g (x3 + 4).toNat))]) h2 Q) ?_
  · rw [inv_id D] at key
    exact key
  intro I2 A2 R2
  simp only [Option.toList_some, List.cons_append, List.nil_append]
  rw [xL_law_416, if_pos rfl]
  exact hQ _ ((inv_of D R2 (good_carry hG)).mono (by omega) (by omega) (by omega))
theorem o_cell (V : Inv L g B N M h) (hB : B ≤ 50000) (hx : 0 ≤ x3 ∧ x3 + 5 ≤ (L : Int) ∧ L ≤ 2560) (hg : ∀ i, -2147483648 ≤ g i ∧ g i < 2147483648) (hQ : Nxt L g B N M x3 Q) : zE 0 434 [some (.inr 1), some (.inr 2), some (.inr 29), some (.inl x3)] [] h Q := by
  obtain ⟨w, c, l, R, hm, hR, hG, hK, hA⟩ := V
  have z1 : zw (x3 + 1) = x3 + 1 := zw_eq (by omega) (by omega)
  have z2 : zw (x3 + 2) = x3 + 2 := zw_eq (by omega) (by omega)
  have z3 : zw (x3 + 3) = x3 + 3 := zw_eq (by omega) (by omega)
  have z4 : zw (x3 + 4) = x3 + 4 := zw_eq (by omega) (by omega)
  rw [xL_law_434, hK, z1, z2, z3, z4, hA]
  refine ⟨Or.inr rfl, ⟨by omega, by show x3 + 1 < (L : Int); omega⟩, Or.inr rfl, ⟨by omega, by show x3 + 2 < (L : Int); omega⟩, Or.inr rfl, ⟨by omega, by show x3 + 3 < (L : Int); omega⟩, Or.inr rfl, ⟨by omega, by show x3 + 4 < (L : Int); omega⟩, R.1.k2, ?_⟩
  refine x_cell R hG ?_
  have D := mid_of hm hR hG hK hA R
  simp only [Option.toList_some, List.cons_append, List.nil_append]
  rw [xL_law_458, D.2.2.2.1, z1, z2, z3, z4, D.2.2.2.2]
  refine ⟨Or.inr rfl, ⟨by omega, by show x3 + 1 < (L : Int); omega⟩, Or.inr rfl, ⟨by omega, by show x3 + 2 < (L : Int); omega⟩, Or.inr rfl, ⟨by omega, by show x3 + 3 < (L : Int); omega⟩, Or.inr rfl, ⟨by omega, by show x3 + 4 < (L : Int); omega⟩, D.2.1.1, ?_⟩
  have key := m_cell (h := h) (I := fun f => zI h f 29) (A := zA h) (e := (g (x3 + 1).toNat)) (r := (g (x3 + 2).toNat)) (q := (g (x3 + 3).toNat)) (w := (g (x3 + 4).toNat)) (l5 := none) (l6 := none) D.2.1 D.2.2.1 hG (Q := fun r h2 => zE 0 482 [some (.inr 1), some (.inr 2), some (.inr 29), some (.inl x3)] (r.toList ++ [.inl (cellA c (g (x3 + 1).toNat) (g (x3 + 2).toNat) (g (x3 + 3).toNat) (g (x3 + 4).toNat))]) h2 Q) ?_
  · rw [inv_id D] at key
    exact key
  intro A2 R2
  simp only [Option.toList_some, List.cons_append, List.nil_append]
  rw [xL_law_482, if_pos rfl]
  exact hQ _ ((inv_of D R2 hG).mono (by omega) (by omega) (by omega))
theorem o_cursor (V : Inv L g B N M h) (hB : B ≤ 50000) (hx : 0 ≤ x3 ∧ x3 + 5 ≤ (L : Int) ∧ L ≤ 2560) (hg : ∀ i, -2147483648 ≤ g i ∧ g i < 2147483648) (hQ : Nxt L g B N M x3 Q) : zE 0 487 [some (.inr 1), some (.inr 2), some (.inr 29), some (.inl x3)] [] h Q := by
  obtain ⟨w, c, l, R, hm, hR, hG, hK, hA⟩ := V
  have z1 : zw (x3 + 1) = x3 + 1 := zw_eq (by omega) (by omega)
  have z2 : zw (x3 + 2) = x3 + 2 := zw_eq (by omega) (by omega)
  rw [xL_law_487, hK, z1, z2, hA]
  refine ⟨Or.inr rfl, ⟨by omega, by show x3 + 1 < (L : Int); omega⟩, Or.inr rfl, ⟨by omega, by show x3 + 2 < (L : Int); omega⟩, R.1.k2, ?_⟩
  refine x_cursor R hG ?_
  have D := mid_of hm hR hG hK hA R
  simp only [Option.toList_some, List.cons_append, List.nil_append]
  rw [xL_law_501, D.2.2.2.1, z1, z2, D.2.2.2.2]
  refine ⟨Or.inr rfl, ⟨by omega, by show x3 + 1 < (L : Int); omega⟩, Or.inr rfl, ⟨by omega, by show x3 + 2 < (L : Int); omega⟩, D.2.1.1, ?_⟩
  have key := m_cursor (h := h) (I := fun f => zI h f 29) (A := zA h) (e := (g (x3 + 1).toNat)) (a := (g (x3 + 2).toNat)) (l3 := none) D.2.1 D.2.2.1 hG (Q := fun r h2 => zE 0 515 [some (.inr 1), some (.inr 2), some (.inr 29), some (.inl x3)] (r.toList ++ [.inl (cursA c (g (x3 + 1).toNat) (g (x3 + 2).toNat))]) h2 Q) ?_
  · rw [inv_id D] at key
    exact key
  intro A2 R2
  simp only [Option.toList_some, List.cons_append, List.nil_append]
  rw [xL_law_515, if_pos rfl]
  exact hQ _ ((inv_of D R2 hG).mono (by omega) (by omega) (by omega))
theorem o_state (V : Inv L g B N M h) (hB : B ≤ 50000) (hx : 0 ≤ x3 ∧ x3 + 5 ≤ (L : Int) ∧ L ≤ 2560) (hg : ∀ i, -2147483648 ≤ g i ∧ g i < 2147483648) (hQ : Nxt L g B N M x3 Q) : zE 0 533 [some (.inr 1), some (.inr 2), some (.inr 29), some (.inl x3)] [] h Q := by
  obtain ⟨w, c, l, R, hm, hR, hG, hK, hA⟩ := V
  have z1 : zw (x3 + 1) = x3 + 1 := zw_eq (by omega) (by omega)
  have z2 : zw (x3 + 2) = x3 + 2 := zw_eq (by omega) (by omega)
  rw [xL_law_533, hK, z1, z2, hA]
  refine ⟨Or.inr rfl, ⟨by omega, by show x3 + 1 < (L : Int); omega⟩, Or.inr rfl, ⟨by omega, by show x3 + 2 < (L : Int); omega⟩, R.1.k2, ?_⟩
  refine x_state R ?_
  have D := mid_of hm hR hG hK hA R
  simp only [Option.toList_some, List.cons_append, List.nil_append]
  rw [xL_law_547, D.2.2.2.1, z1, z2, D.2.2.2.2]
  refine ⟨Or.inr rfl, ⟨by omega, by show x3 + 1 < (L : Int); omega⟩, Or.inr rfl, ⟨by omega, by show x3 + 2 < (L : Int); omega⟩, D.2.1.1, ?_⟩
  have key := m_state (h := h) (I := fun f => zI h f 29) (A := zA h) (e := (g (x3 + 1).toNat)) (w := (g (x3 + 2).toNat)) (l3 := none) D.2.1 D.2.2.1 hG (Q := fun r h2 => zE 0 561 [some (.inr 1), some (.inr 2), some (.inr 29), some (.inl x3)] (r.toList ++ [.inl (stateA c (g (x3 + 1).toNat) (g (x3 + 2).toNat))]) h2 Q) ?_
  · rw [inv_id D] at key
    exact key
  rw [inv_id D]
  simp only [Option.toList_some, List.cons_append, List.nil_append]
  rw [xL_law_561, if_pos rfl]
  exact hQ _ ((show Inv L g B N M h from ⟨w, c, l, R, hm, hR, hG, hK, hA⟩).mono (by omega) (by omega) (by omega))
theorem o_kept (V : Inv L g B N M h) (hB : B ≤ 50000) (hx : 0 ≤ x3 ∧ x3 + 5 ≤ (L : Int) ∧ L ≤ 2560) (hg : ∀ i, -2147483648 ≤ g i ∧ g i < 2147483648) (hQ : Nxt L g B N M x3 Q) : zE 0 566 [some (.inr 1), some (.inr 2), some (.inr 29), some (.inl x3)] [] h Q := by
  obtain ⟨w, c, l, R, hm, hR, hG, hK, hA⟩ := V
  have z1 : zw (x3 + 1) = x3 + 1 := zw_eq (by omega) (by omega)
  have z2 : zw (x3 + 2) = x3 + 2 := zw_eq (by omega) (by omega)
  rw [xL_law_566, hK, z1, z2, hA]
  refine ⟨Or.inr rfl, ⟨by omega, by show x3 + 1 < (L : Int); omega⟩, Or.inr rfl, ⟨by omega, by show x3 + 2 < (L : Int); omega⟩, R.1.k2, ?_⟩
  refine x_kept R ?_
  have D := mid_of hm hR hG hK hA R
  simp only [Option.toList_some, List.cons_append, List.nil_append]
  rw [xL_law_580, D.2.2.2.1, z1, z2, D.2.2.2.2]
  refine ⟨Or.inr rfl, ⟨by omega, by show x3 + 1 < (L : Int); omega⟩, Or.inr rfl, ⟨by omega, by show x3 + 2 < (L : Int); omega⟩, D.2.1.1, ?_⟩
  have key := m_kept (h := h) (I := fun f => zI h f 29) (A := zA h) (e := (g (x3 + 1).toNat)) (i := (g (x3 + 2).toNat)) D.2.1 D.2.2.1 hG (Q := fun r h2 => zE 0 594 [some (.inr 1), some (.inr 2), some (.inr 29), some (.inl x3)] (r.toList ++ [.inl (keptA c (g (x3 + 1).toNat) (g (x3 + 2).toNat))]) h2 Q) ?_
  · rw [inv_id D] at key
    exact key
  rw [inv_id D]
  simp only [Option.toList_some, List.cons_append, List.nil_append]
  rw [xL_law_594, if_pos rfl]
  exact hQ _ ((show Inv L g B N M h from ⟨w, c, l, R, hm, hR, hG, hK, hA⟩).mono (by omega) (by omega) (by omega))
theorem o_guess (V : Inv L g B N M h) (hB : B ≤ 50000) (hx : 0 ≤ x3 ∧ x3 + 5 ≤ (L : Int) ∧ L ≤ 2560) (hg : ∀ i, -2147483648 ≤ g i ∧ g i < 2147483648) (hQ : Nxt L g B N M x3 Q) : zE 0 599 [some (.inr 1), some (.inr 2), some (.inr 29), some (.inl x3)] [] h Q := by
  obtain ⟨w, c, l, R, hm, hR, hG, hK, hA⟩ := V
  have z1 : zw (x3 + 1) = x3 + 1 := zw_eq (by omega) (by omega)
  have z2 : zw (x3 + 2) = x3 + 2 := zw_eq (by omega) (by omega)
  rw [xL_law_599, hK, z1, z2, hA]
  refine ⟨Or.inr rfl, ⟨by omega, by show x3 + 1 < (L : Int); omega⟩, Or.inr rfl, ⟨by omega, by show x3 + 2 < (L : Int); omega⟩, R.1.k2, ?_⟩
  refine x_guess R hG ?_
  have D := mid_of hm hR hG hK hA R
  simp only [Option.toList_some, List.cons_append, List.nil_append]
  rw [xL_law_613, D.2.2.2.1, z1, z2, D.2.2.2.2]
  refine ⟨Or.inr rfl, ⟨by omega, by show x3 + 1 < (L : Int); omega⟩, Or.inr rfl, ⟨by omega, by show x3 + 2 < (L : Int); omega⟩, D.2.1.1, ?_⟩
  have key := m_guessQ (h := h) (I := fun f => zI h f 29) (A := zA h) (i := (g (x3 + 1).toNat)) (w := (g (x3 + 2).toNat)) D.2.1 D.2.2.1 hG (Q := fun r h2 => zE 0 627 [some (.inr 1), some (.inr 2), some (.inr 29), some (.inl x3)] (r.toList ++ [.inl (guessA c (g (x3 + 1).toNat) (g (x3 + 2).toNat))]) h2 Q) ?_
  · rw [inv_id D] at key
    exact key
  rw [inv_id D]
  simp only [Option.toList_some, List.cons_append, List.nil_append]
  rw [xL_law_627, if_pos rfl]
  exact hQ _ ((show Inv L g B N M h from ⟨w, c, l, R, hm, hR, hG, hK, hA⟩).mono (by omega) (by omega) (by omega))
theorem o_letter (V : Inv L g B N M h) (hB : B ≤ 50000) (hx : 0 ≤ x3 ∧ x3 + 5 ≤ (L : Int) ∧ L ≤ 2560) (hg : ∀ i, -2147483648 ≤ g i ∧ g i < 2147483648) (hQ : Nxt L g B N M x3 Q) : zE 0 632 [some (.inr 1), some (.inr 2), some (.inr 29), some (.inl x3)] [] h Q := by
  obtain ⟨w, c, l, R, hm, hR, hG, hK, hA⟩ := V
  have z1 : zw (x3 + 1) = x3 + 1 := zw_eq (by omega) (by omega)
  have z2 : zw (x3 + 2) = x3 + 2 := zw_eq (by omega) (by omega)
  have z3 : zw (x3 + 3) = x3 + 3 := zw_eq (by omega) (by omega)
  rw [xL_law_632, hK, z1, z2, z3, hA]
  refine ⟨Or.inr rfl, ⟨by omega, by show x3 + 1 < (L : Int); omega⟩, Or.inr rfl, ⟨by omega, by show x3 + 2 < (L : Int); omega⟩, Or.inr rfl, ⟨by omega, by show x3 + 3 < (L : Int); omega⟩, R.1.k2, ?_⟩
  refine x_letter R (hg _).2 ?_
  have D := mid_of hm hR hG hK hA R
  simp only [Option.toList_some, List.cons_append, List.nil_append]
  rw [xL_law_651, D.2.2.2.1, z1, z2, z3, D.2.2.2.2]
  refine ⟨Or.inr rfl, ⟨by omega, by show x3 + 1 < (L : Int); omega⟩, Or.inr rfl, ⟨by omega, by show x3 + 2 < (L : Int); omega⟩, Or.inr rfl, ⟨by omega, by show x3 + 3 < (L : Int); omega⟩, D.2.1.1, ?_⟩
  have key := m_letter (h := h) (I := fun f => zI h f 29) (A := zA h) (line := (g (x3 + 1).toNat)) (k := (g (x3 + 2).toNat)) (w := (g (x3 + 3).toNat)) (l4 := none) D.2.1 D.2.2.1 hG (Q := fun r h2 => zE 0 670 [some (.inr 1), some (.inr 2), some (.inr 29), some (.inl x3)] (r.toList ++ [.inl (letterA l (g (x3 + 1).toNat) (g (x3 + 2).toNat) (g (x3 + 3).toNat))]) h2 Q) ?_
  · rw [inv_id D] at key
    exact key
  rw [inv_id D]
  simp only [Option.toList_some, List.cons_append, List.nil_append]
  rw [xL_law_670, if_pos rfl]
  exact hQ _ ((show Inv L g B N M h from ⟨w, c, l, R, hm, hR, hG, hK, hA⟩).mono (by omega) (by omega) (by omega))
theorem o_count (V : Inv L g B N M h) (hB : B ≤ 50000) (hx : 0 ≤ x3 ∧ x3 + 5 ≤ (L : Int) ∧ L ≤ 2560) (hg : ∀ i, -2147483648 ≤ g i ∧ g i < 2147483648) (hQ : Nxt L g B N M x3 Q) : zE 0 675 [some (.inr 1), some (.inr 2), some (.inr 29), some (.inl x3)] [] h Q := by
  obtain ⟨w, c, l, R, hm, hR, hG, hK, hA⟩ := V
  have z1 : zw (x3 + 1) = x3 + 1 := zw_eq (by omega) (by omega)
  rw [xL_law_675, hK, z1, hA]
  refine ⟨Or.inr rfl, ⟨by omega, by show x3 + 1 < (L : Int); omega⟩, R.1.k2, ?_⟩
  refine x_count R ?_
  have D := mid_of hm hR hG hK hA R
  simp only [Option.toList_some, List.cons_append, List.nil_append]
  rw [xL_law_684, D.2.2.2.1, z1, D.2.2.2.2]
  refine ⟨Or.inr rfl, ⟨by omega, by show x3 + 1 < (L : Int); omega⟩, D.2.1.1, ?_⟩
  have key := m_count (h := h) (I := fun f => zI h f 29) (A := zA h) (w := (g (x3 + 1).toNat)) D.2.1 D.2.2.1 (Q := fun r h2 => zE 0 693 [some (.inr 1), some (.inr 2), some (.inr 29), some (.inl x3)] (r.toList ++ [.inl (countA c l (g (x3 + 1).toNat))]) h2 Q) ?_
  · rw [inv_id D] at key
    exact key
  rw [inv_id D]
  simp only [Option.toList_some, List.cons_append, List.nil_append]
  rw [xL_law_693, if_pos rfl]
  exact hQ _ ((show Inv L g B N M h from ⟨w, c, l, R, hm, hR, hG, hK, hA⟩).mono (by omega) (by omega) (by omega))
theorem o_alike (V : Inv L g B N M h) (hB : B ≤ 50000) (hx : 0 ≤ x3 ∧ x3 + 5 ≤ (L : Int) ∧ L ≤ 2560) (hg : ∀ i, -2147483648 ≤ g i ∧ g i < 2147483648) (hQ : Nxt L g B N M x3 Q) : zE 0 520 [some (.inr 1), some (.inr 2), some (.inr 29), some (.inl x3)] [] h Q := by
  obtain ⟨w, c, l, R, hm, hR, hG, hK, hA⟩ := V
  rw [xL_law_520]
  refine ⟨R.1.k2, ?_⟩
  refine x_alike R fun b hb hb2 => ?_
  have D := mid_of hm hR hG hK hA R
  simp only [Option.toList_some, List.cons_append, List.nil_append]
  rw [xL_law_524]
  refine ⟨D.2.1.1, ?_⟩
  have key := m_alike (h := h) (I := fun f => zI h f 29) (A := zA h) D.2.1 D.2.2.1 hG (Q := fun r h2 => zE 0 528 [some (.inr 1), some (.inr 2), some (.inr 29), some (.inl x3)] (r.toList ++ [.inl (b)]) h2 Q) ?_
  · rw [inv_id D] at key
    exact key
  intro r hr hr2
  rw [inv_id D]
  simp only [Option.toList_some, List.cons_append, List.nil_append]
  have e : r = b := by
    by_cases z : likeX c.2.1 (newN c).1
    · rw [hr2.2 z, hb2.2 z]
    · have n1 : r ≠ 1 := fun y => z (hr2.1 y)
      have n2 : b ≠ 1 := fun y => z (hb2.1 y)
      omega
  rw [xL_law_528]
  first
    | rw [if_pos e]
    | rw [if_pos e.symm]
  exact hQ _ ((show Inv L g B N M h from ⟨w, c, l, R, hm, hR, hG, hK, hA⟩).mono (by omega) (by omega) (by omega))
theorem o_open (V : Inv L g B N M h) (hB : B ≤ 50000) (hx : 0 ≤ x3 ∧ x3 + 5 ≤ (L : Int) ∧ L ≤ 2560) (hg : ∀ i, -2147483648 ≤ g i ∧ g i < 2147483648) (hQ : Nxt L g B N M x3 Q) : zE 0 128 [some (.inr 1), some (.inr 2), some (.inr 29), some (.inl x3)] [] h Q := by
  obtain ⟨w, c, l, R, hm, hR, hG, hK, hA⟩ := V
  have z1 : zw (x3 + 1) = x3 + 1 := zw_eq (by omega) (by omega)
  have z2 : zw (x3 + 2) = x3 + 2 := zw_eq (by omega) (by omega)
  have z3 : zw (x3 + 3) = x3 + 3 := zw_eq (by omega) (by omega)
  rw [xL_law_128, hK, z1, z2, z3, hA]
  refine ⟨Or.inr rfl, ⟨by omega, by show x3 + 1 < (L : Int); omega⟩, Or.inr rfl, ⟨by omega, by show x3 + 2 < (L : Int); omega⟩, Or.inr rfl, ⟨by omega, by show x3 + 3 < (L : Int); omega⟩, R.1.k2, ?_⟩
  have hB0 : 0 ≤ B := by
    have gv := hG.1
    unfold gV at gv
    omega
  refine x_open R (fun ok h1 R1 => ?_) (fun nk => ?_)
  · have D := mid_of hm hR hG hK hA R1
    simp only [Option.toList_some, List.cons_append, List.nil_append]
    rw [xL_law_147, D.2.2.2.1, z1, z2, z3, D.2.2.2.2]
    refine ⟨Or.inr rfl, ⟨by omega, by show x3 + 1 < (L : Int); omega⟩, Or.inr rfl, ⟨by omega, by show x3 + 2 < (L : Int); omega⟩, Or.inr rfl, ⟨by omega, by show x3 + 3 < (L : Int); omega⟩, D.2.1.1, ?_⟩
    have key := m_open (h := h1) (I := fun f => zI h1 f 29) (A := zA h1) (p := (g (x3 + 1).toNat)) (f := (g (x3 + 2).toNat)) (a := (g (x3 + 3).toNat)) D.2.1 D.2.2.1 ?_ (Q := fun r h2 => zE 0 166 [some (.inr 1), some (.inr 2), some (.inr 29), some (.inl x3)] (r.toList ++ [.inl (1)]) h2 Q) ?_
    · rw [inv_id D] at key
      exact key
    · intro ok2 I2 A2 R2
      simp only [Option.toList_some, List.cons_append, List.nil_append]
      rw [xL_law_166, if_pos rfl]
      exact hQ _ ((inv_of D R2 (good_0 ok)).mono (by omega) (by omega) (by omega))
    · exact fun nk => absurd ok nk
  · have D := mid_of hm hR hG hK hA R
    simp only [Option.toList_some, List.cons_append, List.nil_append]
    rw [xL_law_147, D.2.2.2.1, z1, z2, z3, D.2.2.2.2]
    refine ⟨Or.inr rfl, ⟨by omega, by show x3 + 1 < (L : Int); omega⟩, Or.inr rfl, ⟨by omega, by show x3 + 2 < (L : Int); omega⟩, Or.inr rfl, ⟨by omega, by show x3 + 3 < (L : Int); omega⟩, D.2.1.1, ?_⟩
    have key := m_open (h := h) (I := fun f => zI h f 29) (A := zA h) (p := (g (x3 + 1).toNat)) (f := (g (x3 + 2).toNat)) (a := (g (x3 + 3).toNat)) D.2.1 D.2.2.1 ?_ (Q := fun r h2 => zE 0 166 [some (.inr 1), some (.inr 2), some (.inr 29), some (.inl x3)] (r.toList ++ [.inl (0)]) h2 Q) ?_
    · rw [inv_id D] at key
      exact key
    · exact fun ok => absurd ok nk
    · intro _
      rw [inv_id D]
      simp only [Option.toList_some, List.cons_append, List.nil_append]
      rw [xL_law_166, if_pos rfl]
      exact hQ _ ((show Inv L g B N M h from ⟨w, c, l, R, hm, hR, hG, hK, hA⟩).mono (by omega) (by omega) (by omega))
theorem o_key (V : Inv L g B N M h) (hB : B ≤ 50000) (hx : 0 ≤ x3 ∧ x3 + 5 ≤ (L : Int) ∧ L ≤ 2560) (hg : ∀ i, -2147483648 ≤ g i ∧ g i < 2147483648) (hQ : Nxt L g B N M x3 Q) : zE 0 194 [some (.inr 1), some (.inr 2), some (.inr 29), some (.inl x3)] [] h Q := by
  obtain ⟨w, c, l, R, hm, hR, hG, hK, hA⟩ := V
  have z1 : zw (x3 + 1) = x3 + 1 := zw_eq (by omega) (by omega)
  rw [xL_law_194, hK, z1, hA]
  refine ⟨Or.inr rfl, ⟨by omega, by show x3 + 1 < (L : Int); omega⟩, R.1.k2, ?_⟩
  refine x_key R hG (by omega) (fun h1 ok R1 => ?_) (fun nk => ?_)
  · have D := mid_of hm hR hG hK hA R1
    simp only [Option.toList_some, List.cons_append, List.nil_append]
    rw [xL_law_203, D.2.2.2.1, z1, D.2.2.2.2]
    refine ⟨Or.inr rfl, ⟨by omega, by show x3 + 1 < (L : Int); omega⟩, D.2.1.1, ?_⟩
    have key := m_key (h := h1) (I := fun f => zI h1 f 29) (A := zA h1) (k := (g (x3 + 1).toNat)) (l2 := none) (l3 := none) (l4 := none) (l5 := none) (l6 := none) D.2.1 D.2.2.1 hG ?_ (Q := fun r h2 => zE 0 212 [some (.inr 1), some (.inr 2), some (.inr 29), some (.inl x3)] (r.toList ++ [.inl (c.1 13 + 1)]) h2 Q) ?_
    · rw [inv_id D] at key
      exact key
    · intro I2 A2 ok2 R2
      simp only [Option.toList_some, List.cons_append, List.nil_append]
      rw [xL_law_212, if_pos rfl]
      exact hQ _ ((inv_of D R2 (good_keyS hG ok.2 ok.1)).mono (by omega) (by omega) (by omega))
    · exact fun nk => absurd ok nk
  · have D := mid_of hm hR hG hK hA R
    simp only [Option.toList_some, List.cons_append, List.nil_append]
    rw [xL_law_203, D.2.2.2.1, z1, D.2.2.2.2]
    refine ⟨Or.inr rfl, ⟨by omega, by show x3 + 1 < (L : Int); omega⟩, D.2.1.1, ?_⟩
    have key := m_key (h := h) (I := fun f => zI h f 29) (A := zA h) (k := (g (x3 + 1).toNat)) (l2 := none) (l3 := none) (l4 := none) (l5 := none) (l6 := none) D.2.1 D.2.2.1 hG ?_ (Q := fun r h2 => zE 0 212 [some (.inr 1), some (.inr 2), some (.inr 29), some (.inl x3)] (r.toList ++ [.inl (-1)]) h2 Q) ?_
    · rw [inv_id D] at key
      exact key
    · exact fun _ _ ok => absurd ok nk
    · intro _
      rw [inv_id D]
      simp only [Option.toList_some, List.cons_append, List.nil_append]
      rw [xL_law_212, if_pos rfl]
      exact hQ _ ((show Inv L g B N M h from ⟨w, c, l, R, hm, hR, hG, hK, hA⟩).mono (by omega) (by omega) (by omega))
end lCalls
