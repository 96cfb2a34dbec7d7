/-! THE CLASS: a letter taken by the near end -/
section nComm
variable {c : cg} {k j : Nat} {v a b : Int} {xs : List Int} {t : sT}
theorem vS_comm {i : Nat} (h : i ≠ k) : vS (vS c i a) k b = vS (vS c k b) i a := Prod.ext (fup_comm h) rfl
theorem newN_vS (hk : k ≠ 20) : newN (vS c k v) = newN c := by
  show c.2.2.1 0 ((vS c k v).1 20 - 1).toNat = _
  rw [vS_n (Ne.symm hk)]
  rfl
theorem dropN_vS (hk : k ≠ 20) : dropN (vS c k v) j = vS (dropN c j) k v := by
  refine Prod.ext ?_ rfl
  show fup (fup c.1 k v) 20 ((vS c k v).1 20 - j) = fup (fup c.1 20 (c.1 20 - j)) k v
  rw [vS_n (Ne.symm hk), fup_comm hk]
theorem addN_vS (hk : k ≠ 20) : addS (vS c k v) 0 20 t = vS (addS c 0 20 t) k v := by
  unfold addS
  rw [vS_n (Ne.symm hk)]
  refine Prod.ext ?_ rfl
  show fup (fup c.1 k v) 20 (c.1 20 + 1) = fup (fup c.1 20 (c.1 20 + 1)) k v
  rw [fup_comm hk]
theorem settS_vS (hk : k < 20 ∨ (24 ≤ k ∧ k < 31)) : settS (vS c k v) = vS (settS c) k v := by
  have e : stlS (vS c k v) = stlS c := by
    unfold stlS
    rw [newN_vS (by omega), vS_n (by omega), vS_n (by omega)]
    rfl
  unfold settS
  rw [e, vS_n (k := k) (j := 31) (by omega), vS_n (k := k) (j := 32) (by omega), vS_n (k := k) (j := 33) (by omega), vS_n (k := k) (j := 21) (by omega), vS_n (k := k) (j := 23) (by omega)]
  split
  · refine Prod.ext (funext fun i => ?_) rfl
    by_cases q : i = k
    · subst q
      simp only [setG, vS, fup, if_neg (show i ≠ 31 by omega), if_neg (show i ≠ 32 by omega), if_neg (show i ≠ 33 by omega), if_neg (show i ≠ 21 by omega), if_neg (show i ≠ 22 by omega), if_neg (show i ≠ 23 by omega)]
    · simp only [setG, vS, fup, if_neg q]
  · refine Prod.ext (funext fun i => ?_) rfl
    by_cases q : i = k
    · subst q
      simp only [setG, vS, fup, if_neg (show i ≠ 31 by omega), if_neg (show i ≠ 21 by omega), if_neg (show i ≠ 22 by omega)]
    · simp only [setG, vS, fup, if_neg q]
theorem nAdd_vS (hk : k < 20 ∨ (24 ≤ k ∧ k < 31)) : nAdd (vS c k v) xs = vS (nAdd c xs) k v := by
  unfold nAdd
  rw [newN_vS (by omega)]
  split
  · rw [← settS_vS hk, ← addN_vS (by omega)]
    rfl
  · rfl
theorem nOwes_vS {T : Int} (hk : k ≠ 20) (h17 : k ≠ 17) : nOwes (vS c k v) T = vS (nOwes c T) k v := by
  unfold nOwes
  rw [newN_vS hk]
  split
  · rfl
  · exact vS_comm h17
theorem nAdd_17 : (nAdd c xs).1 17 = c.1 17 := by
  unfold nAdd settS
  split
  · split
    · rfl
    · rfl
  · rfl
theorem nOwes_c {T : Int} (h : c.1 17 = 0 ∨ c.1 17 = 1) : vS c 17 (if c.1 17 ≠ 0 ∨ ¬ (newN c).2.1 ≤ T then 1 else 0) = nOwes c T := by
  unfold nOwes
  by_cases z : (newN c).2.1 ≤ T
  · rw [if_pos z]
    refine Prod.ext (funext fun i => ?_) rfl
    by_cases q : i = 17
    · subst q
      rw [vS_s]
      by_cases y : c.1 17 = 0
      · rw [if_neg (fun x => x.elim (fun u => u y) (fun u => u z))]; exact y.symm
      · rw [if_pos (Or.inl y)]; omega
    · rw [vS_n q]
  · rw [if_neg z, if_pos (Or.inr z)]
def nearT (c : cg) (j : Nat) (xs : List Int) : cg := nAdd (vS (dropN (vS c 19 (num xs 2)) j) 14 (max (c.1 14) (num xs 6))) xs
theorem nearT_eq : vS (nOwes (nearT c j xs) (num xs 2)) 29 (c.1 29 + 1) = nOwes (vS (nAdd (vS (dropN (vS c 29 (c.1 29 + 1)) j) 14 (max (c.1 14) (num xs 6))) xs) 19 (num xs 2)) (num xs 2) := by
  unfold nearT
  rw [dropN_vS (by decide), dropN_vS (by decide), vS_comm (i := 19) (k := 14) (by decide), vS_comm (i := 29) (k := 14) (by decide), nAdd_vS (k := 19) (by decide), nAdd_vS (k := 29) (by decide), vS_comm (i := 29) (k := 19) (by decide), nOwes_vS (k := 29) (by decide) (by decide)]
end nComm
section cNear
variable {h0 h h' : zH} {N M N' M' : Nat} {w w' : Nat → Nat} {c : cg} {l : lg} {Q : Option zV → zH → Prop} {B : Int} {q m la : Nat} {xs : List Int}
theorem x_settle (R : RepC h0 N M h w c l) (hG : Good B c l) (hQ : ∀ h', RepC h0 (N + 1) (M + 7) h' w (settS c) l → Q none h') :
    zE 21 0 [some (.inr 10), some (.inr (zR h 513 5)), none, none, none] [] h Q := by
  have gv := hG.1
  have hV : (0 ≤ c.1 21 ∧ c.1 21 ≤ 60) ∧ (0 ≤ c.1 31 ∧ c.1 31 < 1000000) ∧ (0 ≤ c.1 32 ∧ c.1 32 < 1000000) ∧ (0 ≤ c.1 33 ∧ c.1 33 < 1000000) ∧ (0 ≤ c.1 23 ∧ c.1 23 < 1000000) := by unfold gV at gv; omega
  obtain ⟨t, t1, t2, t3, t4, t5, t6, _⟩ := R.tN
  have hx : scIs h (zR h 448 t) (newN c).1 := by rw [t3]; exact t6.1
  have hce := (hG.newN).1
  rw [t1]
  refine c_Gsettle (x := (newN c).1) (tk := (newN c).2.2) (R0 := c.1 31) (C0 := c.1 22) (a := c.1 32) (b := c.1 33) (e := c.1 23) R.gG t2 (by rw [t3]; exact t4) hx t6.2.2 (fun i hi h3 => by have := hG.2.2.2.2.1 i (by omega); unfold gOK at this; omega) (fun k hk => by have := hce.2 k hk; omega)
    (R.v 31 (by decide) (Or.inr (by decide))) (R.v 22 (by decide) (Or.inl (by decide))) (R.v 32 (by decide) (Or.inr (by decide))) (R.v 33 (by decide) (Or.inr (by decide))) (R.v 23 (by decide) (Or.inl (by decide))) hV.2.1 hV.2.2.1 hV.2.2.2.1 hV.2.2.2.2 ?_ ?_
  · intro hno h' hf hg r1 r2 r3 r4 r5
    have hno' : (stlS c).2.2 = false := hno
    have hs1 : (stlS c).1 ≤ (c.1 21).toNat := by have := stl_le c.2.2.2.2 (newN c).2.2 (newN c).1 (c.1 21).toNat 0 (c.1 22); unfold stlS; omega
    refine hQ h' ?_
    have e : settS c = (fup (fup (fup c.1 31 (c.1 31 + (stlS c).1)) 22 (stlS c).2.1) 21 (c.1 21 - (stlS c).1), c.2.1, c.2.2.1, c.2.2.2.1, fun i => c.2.2.2.2 (i + (stlS c).1)) := by
      unfold settS
      rw [if_neg (by rw [hno']; decide)]
      rfl
    rw [e]
    refine R.sG (n := c.1 21 - (stlS c).1) hf ?_ ?_ ?_ ?_ ?_ ?_ ?_ ?_ ?_
    · rw [show (c.1 21 - (stlS c).1).toNat = (c.1 21).toNat - (stlS c).1 by omega]; exact hg
    · intro k _ k21 k22 _ k31 _ _
      rw [fup_n k21, fup_n k22, fup_n k31]
    · rw [fup_s]
    · omega
    · rw [fup_n (by decide), fup_s]; exact r2
    · rw [fup_n (by decide), fup_n (by decide), fup_n (by decide)]; exact r5
    · rw [fup_n (by decide), fup_n (by decide), fup_s]; exact r1
    · rw [fup_n (by decide), fup_n (by decide), fup_n (by decide)]; exact r3
    · rw [fup_n (by decide), fup_n (by decide), fup_n (by decide)]; exact r4
  · intro hye h' hf hg r1 r2 r3 r4 r5
    have hye' : (stlS c).2.2 = true := hye
    refine hQ h' ?_
    have e : settS c = (fup (fup (fup (fup (fup (fup c.1 31 (c.1 31 + (stlS c).1)) 22 (stlS c).2.1) 32 (c.1 32 + 1)) 33 (c.1 33 + (c.1 21 - (stlS c).1))) 21 0) 23 (c.1 23 + 1), c.2.1, c.2.2.1, c.2.2.2.1, c.2.2.2.2) := by
      unfold settS
      rw [if_pos hye']
      rfl
    rw [e]
    refine R.sG (n := 0) hf hg ?_ ?_ ?_ ?_ ?_ ?_ ?_ ?_
    · intro k _ k21 k22 k23 k31 k32 k33
      rw [fup_n k23, fup_n k21, fup_n k33, fup_n k32, fup_n k22, fup_n k31]
    · rw [fup_n (by decide), fup_s]
    · omega
    · rw [fup_n (by decide), fup_n (by decide), fup_n (by decide), fup_n (by decide), fup_s]; exact r2
    · rw [fup_s]; exact r5
    · rw [fup_n (by decide), fup_n (by decide), fup_n (by decide), fup_n (by decide), fup_n (by decide), fup_s]; exact r1
    · rw [fup_n (by decide), fup_n (by decide), fup_n (by decide), fup_s]; exact r3
    · rw [fup_n (by decide), fup_n (by decide), fup_s, r4]; unfold stlS; omega
theorem RepC.s12 (R : RepC h0 N M h w c l) : sOK h 12 := ⟨R.1.k12, by rw [show zR h 384 12 = 13 from R.1.r384_12]; exact R.1.k13⟩
theorem gon_inc {f : Nat → Int} {v : Int} {n j : Nat} (hf : ∀ a b, a < b → b < n → f a < f b) (hj : j < n) (hv : f j = v) : gon f v (n - 1) 0 = j := by
  obtain ⟨g1, g2, g3, g4⟩ := gon_spec (f := f) (v := v) (n - 1) 0
  generalize gon f v (n - 1) 0 = m at *
  rcases Nat.lt_trichotomy m j with z | z | z
  · have := g4 (by omega)
    have := hf m j z hj
    omega
  · exact z
  · have := g3 j (by omega) z
    omega
/-- the state that a letter tells -/
theorem x_takeState {j : Nat} (R : RepC h0 N M h w c l) (hG : Good B c l) (hL : isL h q m xs) (hlt : ltOK h w la q) (hl : let1 (c.1 13) xs) (hj : j < (c.1 20).toNat) (hnum : (c.2.2.1 0 j).2.1 = num xs 2)
    (hQ : ∀ h' w', RepC h0 (N + 4) (M + 205) h' w' (nearT c j xs) l → Q none h') {l4 l5 : Option zV} : zE 50 0 [some (.inr 3), some (.inr q), some (.inl (num xs 2)), some (.inr (zB h 6 j)), l4, l5] [] h Q := by
  have hc := R.1
  have gv := hG.1
  have n20 := R.n20
  have hV : (0 ≤ c.1 14 ∧ c.1 14 ≤ c.1 13) ∧ c.1 13 ≤ 1000 := by unfold gV at gv; omega
  have hb := hl.1
  have h13 := hl.2.2.1
  have h1010 := hl.2.2.2.1
  have hb48 : 48 ≤ zR h 192 q := hlt.2.2.2.2.2.1.1
  have G1 := good_nPre (j := j) hG hl (by omega)
  have hS := R.2.2.2.1
  obtain ⟨n, hn⟩ : ∃ n : Nat, c.1 20 = n := ⟨(c.1 20).toNat, by omega⟩
  have hn' : (c.1 20).toNat = n := by omega
  rw [hn'] at hj hS
  have hf : ∀ i, i < n → zI h 449 (zB h 6 i) = (c.2.2.1 0 i).2.1 := fun i hi => (cS_row hS hi).2.2.2.2.1.2.1
  rw [wX6_takeState_0 hc]
  refine ⟨hL.1.1, c_LnumberAt (i := 4) hL hb (by omega) ?_⟩
  simp only [Option.toList_some, List.cons_append, List.nil_append]
  rw [wX6_takeState_5 hc]
  refine ⟨hL.1.1, c_LnumberAt (i := 6) hL hb (by omega) ?_⟩
  simp only [Option.toList_some, List.cons_append, List.nil_append]
  rw [wX6_takeState_13 hc]
  have R1 := R.sI (k := 19) (v := num xs 2) (by decide) (Or.inl (by decide)) (by decide) (by decide) (by decide) (by decide)
  have R1' : RepC h0 N M (zsI h 328 3 (num xs 2)) w (vS c 19 (num xs 2)) l := R1
  have hf1 : ∀ i, i < n → zI (zsI h 328 3 (num xs 2)) 449 (zB h 6 i) = (c.2.2.1 0 i).2.1 := fun i hi => (zI_ne (by decide)).trans (hf i hi)
  rw [wX6_takeState_20 (by exact hc)]
  have hr1 := R1'.rN
  have hn1 : ((vS c 19 (num xs 2)).1 20).toNat = n := hn'
  rw [hn1] at hr1
  refine c_SDrop hr1 ?_
  have hgon : gon (fun i => zI (zsI h 328 3 (num xs 2)) 449 (zB (zsI h 328 3 (num xs 2)) 6 i)) (num xs 2) (n - 1) 0 = j := by
    refine gon_inc (fun a b ab hb2 => ?_) hj ?_
    · show zI (zsI h 328 3 (num xs 2)) 449 (zB h 6 a) < zI (zsI h 328 3 (num xs 2)) 449 (zB h 6 b)
      rw [hf1 a (by omega), hf1 b hb2]
      exact hG.2.2.1.2.2 a b ab (by omega)
    · exact (hf1 j hj).trans hnum
  rw [hgon]
  simp only [Option.toList_none, List.nil_append]
  have R2 := R1'.dropN (n := n) (m := j) hn hj
  have z0 : zB (zsI (zBs (zsI h 328 3 (num xs 2)) 6 (rotm (zB (zsI h 328 3 (num xs 2)) 6) j n)) 514 5 ((n - j : Nat) : Int)) 6 0 = zB h 6 j := by
    show (if 6 = 6 then rotm (zB h 6) j n 0 else zB h 6 0) = _
    rw [if_pos rfl]
    unfold rotm
    rw [if_pos (by omega), Nat.zero_add, Nat.mod_eq_of_lt hj]
  have hL1 : isL (zBs (zsI h 328 3 (num xs 2)) 6 (rotm (zB (zsI h 328 3 (num xs 2)) 6) j n)) q m xs := by
    have e : isL (zsI h 328 3 (num xs 2)) q m xs := isL_sI hL (by decide)
    exact e
  have hL2 : isL (zsI (zBs (zsI h 328 3 (num xs 2)) 6 (rotm (zB (zsI h 328 3 (num xs 2)) 6) j n)) 514 5 ((n - j : Nat) : Int)) q m xs := isL_sI hL1 (by decide)
  have hb2 : 48 ≤ zR (zsI (zBs (zsI h 328 3 (num xs 2)) 6 (rotm (zB (zsI h 328 3 (num xs 2)) 6) j n)) 514 5 ((n - j : Nat) : Int)) 192 q := hb48
  generalize zsI (zBs (zsI h 328 3 (num xs 2)) 6 (rotm (zB (zsI h 328 3 (num xs 2)) 6) j n)) 514 5 ((n - j : Nat) : Int) = h2 at R2 z0 hL2 hb2 ⊢
  have v14 : zI h2 325 3 = c.1 14 := R2.v 14 (by decide) (Or.inl (by decide))
  have R3 := R2.sI (k := 14) (v := max (c.1 14) (num xs 6)) (by decide) (Or.inl (by decide)) (by decide) (by decide) (by decide) (by decide)
  have R3' : RepC h0 N M (zsI h2 325 3 (max (c.1 14) (num xs 6))) w (vS (dropN (vS c 19 (num xs 2)) j) 14 (max (c.1 14) (num xs 6))) l := R3
  have hL3 : isL (zsI h2 325 3 (max (c.1 14) (num xs 6))) q m xs := isL_sI hL2 (by decide)
  have hb3 : 48 ≤ zR (zsI h2 325 3 (max (c.1 14) (num xs 6))) 192 q := hb2
  have z3 : zB (zsI h2 325 3 (max (c.1 14) (num xs 6))) 6 0 = zB h 6 j := z0
  rw [wX6_takeState_28 R2.1, v14, wX6_takeState_38 R2.1]
  refine ⟨R2.1.k3, ?_⟩
  unfold nearT at hQ
  have ecnt : (vS (dropN (vS c 19 (num xs 2)) j) 14 (max (c.1 14) (num xs 6))).1 20 = c.1 20 - j := rfl
  have es00 : ((vS (dropN (vS c 19 (num xs 2)) j) 14 (max (c.1 14) (num xs 6))).2.2.1 0 0) = c.2.2.1 0 j := by
    show c.2.2.1 0 (0 + j) = _
    rw [Nat.zero_add]
  have enew : newN (vS (dropN (vS c 19 (num xs 2)) j) 14 (max (c.1 14) (num xs 6))) = newN (nPre c j xs) := rfl
  have eg : (vS (dropN (vS c 19 (num xs 2)) j) 14 (max (c.1 14) (num xs 6))).2.2.1 = (nPre c j xs).2.2.1 := rfl
  have G3 : Good (B + 1) (vS (dropN (vS c 19 (num xs 2)) j) 14 (max (c.1 14) (num xs 6))) l := by
    obtain ⟨g1, g2⟩ := G1
    refine ⟨?_, g2⟩
    have gv1 := g1
    unfold gV at gv1 gv ⊢
    show _
    exact (by
      have hx := gv
      refine ⟨gv1.1, gv1.2.1, gv1.2.2.1, gv1.2.2.2.1, gv1.2.2.2.2.1, gv1.2.2.2.2.2.1, gv1.2.2.2.2.2.2.1, gv1.2.2.2.2.2.2.2.1, gv1.2.2.2.2.2.2.2.2.1, gv1.2.2.2.2.2.2.2.2.2.1, gv1.2.2.2.2.2.2.2.2.2.2.1, gv1.2.2.2.2.2.2.2.2.2.2.2.1, gv1.2.2.2.2.2.2.2.2.2.2.2.2.1, gv1.2.2.2.2.2.2.2.2.2.2.2.2.2.1, gv1.2.2.2.2.2.2.2.2.2.2.2.2.2.2.1, gv1.2.2.2.2.2.2.2.2.2.2.2.2.2.2.2.1, gv1.2.2.2.2.2.2.2.2.2.2.2.2.2.2.2.2.1, gv1.2.2.2.2.2.2.2.2.2.2.2.2.2.2.2.2.2.1, gv1.2.2.2.2.2.2.2.2.2.2.2.2.2.2.2.2.2.2.1, gv1.2.2.2.2.2.2.2.2.2.2.2.2.2.2.2.2.2.2.2.1, gv1.2.2.2.2.2.2.2.2.2.2.2.2.2.2.2.2.2.2.2.2.1, gv1.2.2.2.2.2.2.2.2.2.2.2.2.2.2.2.2.2.2.2.2.2.1, gv1.2.2.2.2.2.2.2.2.2.2.2.2.2.2.2.2.2.2.2.2.2.2.1, gv1.2.2.2.2.2.2.2.2.2.2.2.2.2.2.2.2.2.2.2.2.2.2.2.1, gv1.2.2.2.2.2.2.2.2.2.2.2.2.2.2.2.2.2.2.2.2.2.2.2.2.1, ?_, gv1.2.2.2.2.2.2.2.2.2.2.2.2.2.2.2.2.2.2.2.2.2.2.2.2.2.2⟩
      show 0 ≤ c.1 29 ∧ c.1 29 ≤ B + 1
      omega)
  generalize hc3 : vS (dropN (vS c 19 (num xs 2)) j) 14 (max (c.1 14) (num xs 6)) = c3 at R3' hQ ecnt es00 enew eg G3
  generalize zsI h2 325 3 (max (c.1 14) (num xs 6)) = h3 at R3' hL3 hb3 z3 ⊢
  obtain ⟨t, t1, t2, t3, t4, t5, t6, _⟩ := R3'.tN
  have tn : zI h3 449 t = (newN c3).2.1 := t6.2.1
  rw [wX6_takeState_41 R3'.1, t1, tn]
  refine ⟨t2, ?_⟩
  unfold nAdd at hQ
  by_cases hlt4 : (newN c3).2.1 < num xs 4
  case neg =>
    rw [if_neg hlt4] at hQ
    rw [if_pos (by omega), wX6_takeState_114 R3'.1]
    exact hQ _ _ (R3'.mono (by omega) (by omega))
  rw [if_pos hlt4] at hQ
  have hroom : c3.1 20 ≤ 31 := near_room G3 (t := num xs 2) (u := num xs 4) (by rw [es00]; exact hnum) hlt4 hl.2.2.2.2.2.2.1
  have hcnt := R3'.n20
  rw [if_neg (by omega), wX6_takeState_56 R3'.1]
  refine c_SFull R3'.rN ?_
  simp only [Option.toList_some, List.cons_append, List.nil_append]
  rw [wX6_takeState_63 R3'.1, if_pos (show (c3.1 20).toNat < 32 by omega), if_neg (fun z => z rfl), wX6_takeState_66 R3'.1]
  obtain ⟨r1, r2, r3, r4, r5, r6, r7⟩ := cS_row R3'.2.2.2.1 (i := 0) (by omega)
  rw [z3] at r1 r2 r3 r4 r5 r6 r7
  rw [r2]
  have h12c : zR h3 384 12 = 13 := R3'.1.r384_12
  have ne12 : 12 ≠ zB h 6 j + 1 := by have := r6.2.2.2.2.2.2.2.2; omega
  refine ⟨r1, c_copyFrom R3'.s12 r3 ne12 ?_⟩
  simp only [Option.toList_none, List.nil_append]
  rw [wX6_takeState_77 ?_]
  rotate_left
  · exact R3'.sL.1
  have hbn : zR h3 192 q ≠ zR h3 384 12 := by rw [h12c]; omega
  have b10 := (hb.at (i := 10) (by omega)).1
  refine c_lay hL3 hb R3'.s12 hbn (by omega) ⟨b10, hl.2.2.2.2.2.2.2.2.2.1⟩ ?_
  simp only [Option.toList_none, List.nil_append]
  have hev : eqv ((fun k => if k < 192 then zA h3 (zR h3 384 (zB h 6 j + 1)) k else zA h3 (zR h3 384 12) k), zI h3 385 (zB h 6 j + 1), zI h3 386 (zB h 6 j + 1)) (c3.2.2.1 0 0).1 := by
    refine ⟨fun k hk => ?_, Prod.ext r5.1.2.1 r5.1.2.2⟩
    show (if k < 192 then _ else _) = _
    rw [if_pos hk]
    exact r5.1.1 k hk
  have hev2 := eqv_lLay (xs := xs) hev
  generalize lLay xs ((fun k => if k < 192 then zA h3 (zR h3 384 (zB h 6 j + 1)) k else zA h3 (zR h3 384 12) k), zI h3 385 (zB h 6 j + 1), zI h3 386 (zB h 6 j + 1)) = Y at hev2
  have R4 : RepC h0 N M (zScr h3 12 Y.1 Y.2.1 Y.2.2) w c3 l := R3'.sL
  have hsc : scIs (zScr h3 12 Y.1 Y.2.1 Y.2.2) 12 (lLay xs (c3.2.2.1 0 0).1) := by
    refine ⟨fun k hk => ?_, zI_Scr_r.trans (by rw [hev2.2]), zI_Scr_c.trans (by rw [hev2.2])⟩
    rw [zR_Scr, zA_Scr_s]
    exact hev2.1 k hk
  generalize zScr h3 12 Y.1 Y.2.1 Y.2.2 = h4 at R4 hsc ⊢
  rw [wX6_takeState_85 R4.1]
  refine x_keepN R4 (by omega) R4.s12 hsc (Or.inl rfl) fun h5 w5 R5 => ?_
  simp only [Option.toList_none, List.nil_append]
  rw [wX6_takeState_100 R5.1]
  have hx0 := (hG.2.2.1.2.1 j (by omega)).1
  have G5 := good_addN (t := (lLay xs (c3.2.2.1 0 0).1, num xs 4, num xs 6)) G3 hroom (lLay_ok hl (by rw [es00]; exact hx0)).1 (num_r hb (by omega)) (num_r hb (by omega)) hlt4
  refine x_settle R5 G5 fun h6 R6 => ?_
  simp only [Option.toList_none, List.nil_append]
  rw [wX6_takeState_114 R6.1]
  exact hQ _ _ (R6.mono (by omega) (by omega))
end cNear
