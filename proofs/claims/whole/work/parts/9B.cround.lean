/-! THE CLASS'S CALLS: a round -/
section cRound
variable {h0 h h' : zH} {N M N' M' : Nat} {w w' : Nat → Nat} {c : cg} {l : lg} {Q : Option zV → zH → Prop} {B : Int} {q m la ln j : Nat} {xs : List Int}
theorem x_round_l {tot : Int} (hln : (ln = 22 ∧ la = 23 ∧ j = 0) ∨ (ln = 24 ∧ la = 25 ∧ j = 1)) : ∀ (d i : Nat) {N M : Nat} {h : zH} {w : Nat → Nat} {c : cg} {B : Int}, i + d = (l j).length → RepC h0 N M h w c l → Good B c l → B ≤ 100000 - d →
    (∀ h' w', RepC h0 (N + 4 * (j * d)) (M + 205 * (j * d)) h' w' (foldT c j ((l j).drop i)) l → zE 85 60 [some (.inr 2), some (.inl tot), some (.inl (j : Int)), some (.inr ln), some (.inl ((l j).length : Nat))] [] h' Q) →
    zE 85 33 [some (.inr 2), some (.inl tot), some (.inl (j : Int)), some (.inr ln), some (.inl (i : Int))] [] h Q := by
  intro d
  induction d with
  | zero =>
    intro i N M h w c B hi R hG hB hQ
    obtain ⟨a0, a1, a2, a3, _⟩ := R.lj hln
    rw [wX10_round_33 R.1, show zI h 257 ln = ((l j).length : Nat) from a0.2.2.1, if_pos (by omega)]
    refine ⟨a1, ?_⟩
    have hi' : i = (l j).length := by omega
    have q := hQ h w (by
      rw [hi', List.drop_length]
      exact R.mono (by omega) (by omega))
    rw [hi']
    exact q
  | succ d ih =>
    intro i N M h w c B hi R hG hB hQ
    have hj : j < 2 := by omega
    have hc := R.1
    obtain ⟨a0, a1, a2, a3, _⟩ := R.lj hln
    have hik : i < (l j).length := by omega
    have h40 := a0.2.2.2.1
    obtain ⟨t1, t2, t3, t4⟩ := cL_let a0 hik
    have hlet := hG.letJ hj hik
    have G1 := good_takenS hG hlet
    rw [wX10_round_33 hc, show zI h 257 ln = ((l j).length : Nat) from a0.2.2.1, if_neg (by omega), wX10_round_42 hc]
    refine ⟨a1, a1, c_LnFind a1 a2 a3 a0.2.2.1 h40 ?_⟩
    simp only [Option.toList_some, List.cons_append, List.nil_append]
    rw [if_pos (by omega), Int.toNat_natCast, wX10_round_50 hc]
    refine ⟨hc.k2, x_deliver hj R hG (by omega) t3 t4 hlet fun h' w' R' => ?_⟩
    simp only [Option.toList_none, List.nil_append]
    rw [wX10_round_54 R'.1, zw_eq (by omega) (by omega), show (i : Int) + 1 = ((i + 1 : Nat) : Int) by omega]
    refine ih (i + 1) (by omega) R' G1 (by omega) fun h2 w2 R2 => ?_
    refine hQ h2 w2 ?_
    have ed : (l j).drop i = (l j).getD i [] :: (l j).drop (i + 1) := by
      rw [List.drop_eq_getElem_cons hik]
      congr 1
      rw [List.getD_eq_getElem?_getD, List.getElem?_eq_getElem hik]
      rfl
    rw [ed]
    have em : j * (d + 1) = j * d + j := Nat.mul_succ j d
    exact R2.mono (by rw [em]; omega) (by rw [em]; omega)
/-- one line of a round -/
theorem x_round_j {tot : Int} (hln : (ln = 22 ∧ la = 23 ∧ j = 0) ∨ (ln = 24 ∧ la = 25 ∧ j = 1)) (R : RepC h0 N M h w c l) (hG : Good B c l) (hB : B ≤ 99000) (ht : 0 ≤ tot ∧ tot ≤ 1000)
    (hQ : ∀ h' w', RepC h0 (N + 160 * j) (M + 8200 * j) h' w' (foldT c j (l j)) (fun i => if i = j then [] else l i) → zE 85 9 [some (.inr 2), some (.inl (tot + ((l j).length : Nat))), some (.inl ((j : Int) + 1)), some (.inr ln), some (.inl ((l j).length : Nat))] [] h' Q) {l4 : Option zV} :
    zE 85 33 [some (.inr 2), some (.inl tot), some (.inl (j : Int)), some (.inr ln), some (.inl 0)] [] h Q := by
  have h40 := (R.lj hln).1.2.2.2.1
  refine x_round_l hln (l j).length 0 (by omega) R hG (by omega) fun h' w' R' => ?_
  rw [List.drop_zero] at R'
  obtain ⟨a0, a1, a2, a3, _⟩ := R'.lj hln
  rw [wX10_round_60 R'.1, show zI h' 257 ln = ((l j).length : Nat) from a0.2.2.1, zw_eq (by omega) (by omega)]
  have R2 := R'.nil hln
  have R2' : RepC h0 (N + 4 * (j * (l j).length)) (M + 205 * (j * (l j).length)) (zsI h' 257 ln 0) w' (foldT c j (l j)) (fun i => if i = j then [] else l i) := R2
  refine ⟨a1, a1, ?_⟩
  rw [wX10_round_72 R2'.1, zw_eq (by omega) (by omega)]
  have em : j * (l j).length ≤ j * 40 := Nat.mul_le_mul_left j h40
  exact hQ _ _ (R2'.mono (by omega) (by omega))
theorem x_round (R : RepC h0 N M h w c l) (hG : Good B c l) (hB : B ≤ 50000)
    (hQ : ∀ h' w', RepC h0 (N + 170) (M + 10500) h' w' (roundS c l).1 (roundS c l).2 → Q (some (.inl (((((tickS c l).2 0).length + ((tickS c l).2 1).length : Nat)) : Int))) h') {l1 l2 l3 l4 : Option zV} :
    zE 85 0 [some (.inr 2), l1, l2, l3, l4] [] h Q := by
  have hc := R.1
  have G1 := good_tick hG hB
  rw [wX10_round_0 hc]
  refine x_runTick R hG hB fun h1 w1 R1 => ?_
  simp only [Option.toList_some, List.cons_append, List.nil_append]
  generalize hd : tickS c l = d at *
  have h40 := (R1.lj (Or.inl ⟨rfl, rfl, rfl⟩)).1.2.2.2.1
  have h41 := (R1.lj (Or.inr ⟨rfl, rfl, rfl⟩)).1.2.2.2.1
  rw [wX10_round_4 R1.1, wX10_round_9 R1.1, if_neg (by decide), wX10_round_14 R1.1, if_neg (fun z => z rfl), wX10_round_18 R1.1, wX10_round_29 R1.1]
  have G2 := good_fold (j := 0) (d.2 0) G1 (fun xs hx => G1.2.2.2.2.2.2.1 xs hx)
  refine x_round_j (j := 0) (tot := 0) (l4 := none) (Or.inl ⟨rfl, rfl, rfl⟩) R1 G1 (by omega) (by omega) fun h2 w2 R2 => ?_
  have e1 : ((0 : Nat) : Int) + 1 = 1 := rfl
  rw [e1, wX10_round_9 R2.1, if_neg (by decide), wX10_round_14 R2.1, if_pos (by decide), wX10_round_25 R2.1, wX10_round_29 R2.1]
  have G2' : Good (B + 3 + (d.2 0).length) (foldT d.1 0 (d.2 0)) (fun i => if i = 0 then [] else d.2 i) := G2.cut
  refine x_round_j (j := 1) (l4 := none) (Or.inr ⟨rfl, rfl, rfl⟩) R2 G2' (by omega) (by omega) fun h3 w3 R3 => ?_
  have e2 : ((1 : Nat) : Int) + 1 = 2 := rfl
  rw [e2, wX10_round_9 R3.1, if_pos (by decide), wX10_round_78 R3.1]
  have el : (fun i => if i = 1 then [] else (fun i => if i = 0 then [] else d.2 i) i) = (roundS c l).2 := by
    unfold roundS
    rw [hd]
    funext i
    show (if i = 1 then [] else if i = 0 then [] else d.2 i) = if i < 2 then [] else d.2 i
    by_cases z1 : i = 1
    · rw [if_pos z1, if_pos (by omega)]
    · rw [if_neg z1]
      by_cases z0 : i = 0
      · rw [if_pos z0, if_pos (by omega)]
      · rw [if_neg z0, if_neg (by omega)]
  have ec : foldT (foldT d.1 0 (d.2 0)) 1 ((fun i => if i = 0 then [] else d.2 i) 1) = (roundS c l).1 := by
    unfold roundS
    rw [hd]
    rfl
  rw [el, ec] at R3
  have q := hQ h3 w3 (R3.mono (by omega) (by omega))
  have en : (0 : Int) + ((d.2 0).length : Nat) + (((fun i => if i = 0 then [] else d.2 i) 1 : List (List Int)).length : Nat) = (((d.2 0).length + (d.2 1).length : Nat) : Int) := by
    show (0 : Int) + ((d.2 0).length : Nat) + ((d.2 1).length : Nat) = _
    omega
  rw [en]
  exact q
end cRound
