/-! THE CLASS: a letter delivered -/
section cDeliv
variable {h0 h h' : zH} {N M N' M' : Nat} {w w' : Nat → Nat} {c : cg} {l : lg} {Q : Option zV → zH → Prop} {B : Int} {q m la : Nat} {xs : List Int}
theorem x_takeN_e {a3 : Nat} {T : Int} {l1 : Option zV} (R : RepC h0 N M h w c l) (h17 : c.1 17 = 0 ∨ c.1 17 = 1) (hQ : ∀ h', RepC h0 N M h' w (nOwes c T) l → Q (some (.inl (if a3 = 0 then 4 else 5))) h') : zE 49 51 [some (.inr 3), l1, some (.inl T), some (.inr a3)] [] h Q := by
  have hc := R.1
  have v17 : zI h 329 3 = c.1 17 := R.v 17 (by decide) (Or.inl (by decide))
  obtain ⟨t, t1, t2, t3, t4, t5, t6, _⟩ := R.tN
  have tn : zI h 449 t = (newN c).2.1 := t6.2.1
  have e78 : ∀ s0 : Int, s0 = (if c.1 17 ≠ 0 ∨ ¬ (newN c).2.1 ≤ T then 1 else 0) → (s0 = 0 ∨ s0 = 1) → zE 49 78 [some (.inr 3), l1, some (.inl T), some (.inr a3)] [.inl s0, .inr 3] h Q := by
    intro s0 hs hs2
    have R1 := R.sI (k := 17) (v := s0) (by decide) (Or.inl (by decide)) (by decide) (by decide) (by decide) (by decide)
    have R1' : RepC h0 N M (zsI h 329 3 s0) w (vS c 17 s0) l := R1
    have e : vS c 17 s0 = nOwes c T := by rw [hs]; exact nOwes_c h17
    rw [e] at R1'
    rw [wX6_take_78 hc]
    refine ⟨hc.k3, hs2, ?_⟩
    have q := hQ _ R1'
    rw [wX6_take_81 R1'.1]
    by_cases z : a3 = 0
    · rw [if_pos z] at q
      rw [if_neg (fun y => y z), wX6_take_85 R1'.1, wX6_take_90 R1'.1]; exact q
    · rw [if_neg z] at q
      rw [if_pos z, wX6_take_89 R1'.1, wX6_take_90 R1'.1]; exact q
  rw [wX6_take_51 hc, v17]
  by_cases z : c.1 17 = 0
  · rw [if_neg (fun y => y z), wX6_take_59 hc, t1, tn]
    refine ⟨t2, ?_⟩
    by_cases y : (newN c).2.1 ≤ T
    · rw [if_pos y, wX6_take_77 hc]
      exact e78 0 (by rw [if_neg (fun u => u.elim (fun v => v z) (fun v => v y))]) (Or.inl rfl)
    · rw [if_neg y, wX6_take_73 hc]
      exact e78 1 (by rw [if_pos (Or.inr y)]) (Or.inr rfl)
  · rw [if_pos z, wX6_take_73 hc]
    exact e78 1 (by rw [if_pos (Or.inl z)]) (Or.inr rfl)
theorem nearT_17 {j : Nat} : (nearT c j xs).1 17 = c.1 17 := nAdd_17.trans rfl
theorem nAdd_29 : (nAdd c xs).1 29 = c.1 29 := by
  unfold nAdd settS
  split
  · split
    · rfl
    · rfl
  · rfl
theorem nearT_29 {j : Nat} : (nearT c j xs).1 29 = c.1 29 := nAdd_29.trans rfl
theorem nOwes_V {T : Int} {k : Nat} (hk : k ≠ 17) : (nOwes c T).1 k = c.1 k := by
  unfold nOwes
  split
  · rfl
  · exact vS_n hk
theorem farD_29 : (farD c xs).1 29 = c.1 29 := by
  unfold farD
  dsimp only
  split
  · split
    · rfl
    · rfl
  · split
    · rfl
    · rfl
theorem x_takeN (R : RepC h0 N M h w c l) (hG : Good B c l) (hL : isL h q m xs) (hlt : ltOK h w la q) (hl : let1 (c.1 13) xs) (q2 : ¬ bt xs 1 = c.1 18 → Q (some (.inl 2)) h)
    (q4 : bt xs 1 = c.1 18 → fnd (fun i => (c.2.2.1 0 i).2.1) (num xs 2) (c.1 20).toNat 0 = none → ∀ h', RepC h0 N M h' w (nOwes c (num xs 2)) l → Q (some (.inl 4)) h')
    (q5 : ∀ j, bt xs 1 = c.1 18 → fnd (fun i => (c.2.2.1 0 i).2.1) (num xs 2) (c.1 20).toNat 0 = some j → ∀ h' w', RepC h0 (N + 4) (M + 205) h' w' (nOwes (nearT c j xs) (num xs 2)) l → Q (some (.inl 5)) h') {l2 l3 : Option zV} : zE 49 0 [some (.inr 3), some (.inr q), l2, l3] [] h Q := by
  have hc := R.1
  have gv := hG.1
  have hV : c.1 17 = 0 ∨ c.1 17 = 1 := by unfold gV at gv; omega
  have hb := hl.1
  have h13 := hl.2.2.1
  have v18 : zI h 330 3 = c.1 18 := R.v 18 (by decide) (Or.inl (by decide))
  have hS := R.2.2.2.1
  rw [wX6_take_0 hc]
  refine ⟨hL.1.1, c_LisWhole hL hb (by omega) ?_⟩
  intro b hb1 hb2
  simp only [Option.toList_some, List.cons_append, List.nil_append]
  have b1 := hb2.2 hl.2.1
  rw [wX6_take_6 hc, if_pos (by omega), wX6_take_11 hc]
  refine ⟨hL.1.1, c_Lat' (i := 1) hL ?_⟩
  simp only [Option.toList_some, List.cons_append, List.nil_append]
  rw [wX6_take_16 hc, v18]
  by_cases z : bt xs 1 = c.1 18
  case neg =>
    have z' : ¬ xs.getD 1 (-1) = c.1 18 := z
    rw [if_neg z', wX6_take_23 hc]
    exact q2 z
  have z' : xs.getD 1 (-1) = c.1 18 := z
  rw [if_pos z', wX6_take_25 hc]
  refine ⟨hL.1.1, c_LnumberAt (i := 2) hL hb (by omega) ?_⟩
  simp only [Option.toList_some, List.cons_append, List.nil_append]
  rw [wX6_take_30 hc]
  refine c_SFindN R.rN ?_
  simp only [Option.toList_some, List.cons_append, List.nil_append]
  have efnd : fnd (fun i => zI h 449 (zB h 6 i)) (num xs 2) (c.1 20).toNat 0 = fnd (fun i => (c.2.2.1 0 i).2.1) (num xs 2) (c.1 20).toNat 0 := fnd_congr _ _ (fun k _ hk => (cS_row hS (by omega)).2.2.2.2.1.2.1)
  rw [efnd]
  cases hF : fnd (fun i => (c.2.2.1 0 i).2.1) (num xs 2) (c.1 20).toNat 0 with
  | none =>
    dsimp only
    rw [wX6_take_39 hc, if_pos rfl]
    exact x_takeN_e R hV (fun h' R' => q4 z hF h' R')
  | some j =>
    dsimp only
    obtain ⟨_, j1, j2, _⟩ := fnd_some hF
    have hne := (cS_row hS (i := j) (by omega)).2.2.2.2.2.2
    rw [wX6_take_39 hc, if_neg hne, wX6_take_44 hc]
    refine x_takeState R hG hL hlt hl (by omega) j2 fun h' w' R' => ?_
    simp only [Option.toList_none, List.nil_append]
    refine x_takeN_e R' (by rw [nearT_17]; exact hV) fun h2 R2 => ?_
    rw [if_neg hne]
    exact q5 j z hF h2 w' R2
theorem x_takeN_b (R : RepC h0 N M h w c l) (hL : isL h q m xs) (hb : byteL xs) (h10 : 10 ≤ xs.length) (hw : ¬ wholeL 83 xs) (q3 : Q (some (.inl 3)) h) {l2 l3 : Option zV} : zE 49 0 [some (.inr 3), some (.inr q), l2, l3] [] h Q := by
  have hc := R.1
  rw [wX6_take_0 hc]
  refine ⟨hL.1.1, c_LisWhole hL hb h10 ?_⟩
  intro b hb1 hb2
  simp only [Option.toList_some, List.cons_append, List.nil_append]
  rw [wX6_take_6 hc, if_neg (by have : b ≠ 1 := fun z => hw (hb2.1 z); omega), wX6_take_9 hc]
  exact q3
/-- the tally of a fate -/
theorem x_tally {f : Nat} {hid : Int} {l1 l2 : Option zV} {c' : cg} (R : RepC h0 N M h w c' l) (hf : 2 ≤ f ∧ f ≤ 5) (hh : hid = 0 ∨ f ≠ 5) (hr : 0 ≤ c'.1 (24 + f) ∧ c'.1 (24 + f) ≤ 2000000) (hQ : ∀ h', RepC h0 N M h' w (vS c' (24 + f) (c'.1 (24 + f) + 1)) l → Q none h') {l4 : Option zV} :
    zE 99 28 [some (.inr 2), l1, l2, some (.inl hid), l4] [.inl (f : Int)] h Q := by
  have hc := R.1
  have u : zA h 28 f = c'.1 (24 + f) := R.2.1.2 f (by omega)
  have R1 := R.sT (i := f) (v := c'.1 (24 + f) + 1) (by omega)
  rw [wX10_deliver_28 hc, if_neg (by omega), wX10_deliver_35 hc, if_neg (by omega), wX10_deliver_42 hc, Int.toNat_natCast, u, zw_eq (by omega) (by omega)]
  refine ⟨by omega, by omega, ?_⟩
  have q := hQ _ R1
  rw [wX10_deliver_53 R1.1]
  by_cases z : (f : Int) = 5
  · rw [if_neg (fun y => y z), wX10_deliver_59 R1.1, if_pos (by omega), wX10_deliver_74 R1.1]; exact q
  · rw [if_pos z, wX10_deliver_74 R1.1]; exact q
theorem x_deliver {j : Nat} (hj : j < 2) (R : RepC h0 N M h w c l) (hG : Good B c l) (hB : B ≤ 1000000) (hL : isL h q m xs) (hlt : ltOK h w la q) (hl : letJ (c.1 13) j xs)
    (hQ : ∀ h' w', RepC h0 (N + 4 * j) (M + 205 * j) h' w' (takenS c j xs) l → Q none h') {l4 : Option zV} : zE 99 0 [some (.inr 2), some (.inl (j : Int)), some (.inr q), some (.inl 0), l4] [] h Q := by
  have hc := R.1
  have gv := hG.1
  have hV : (c.1 10 = 0 ∨ c.1 10 = 1) ∧ (0 ≤ c.1 26 ∧ c.1 26 ≤ B) ∧ (0 ≤ c.1 28 ∧ c.1 28 ≤ B) ∧ (0 ≤ c.1 29 ∧ c.1 29 ≤ B) := by unfold gV at gv; omega
  have hq : q ≠ 0 := by have := hlt.2.1.1; omega
  rw [wX10_deliver_0 hc, if_pos hq, wX10_deliver_5 hc]
  by_cases j0 : j = 0
  · subst j0
    have hl0 : let0 (c.1 13) xs := hl
    have eT : takenS c 0 xs = byFarS c xs := rfl
    rw [eT] at hQ
    rw [if_neg (fun z => z rfl), wX10_deliver_9 hc]
    refine x_takeF R hG hL hlt hl0 ?_ ?_
    · intro hk
      simp only [Option.toList_some, List.cons_append, List.nil_append]
      rw [wX10_deliver_17 hc]
      refine x_tally (f := 4) R (by omega) (Or.inl rfl) (by show 0 ≤ c.1 28 ∧ c.1 28 ≤ 2000000; omega) fun h' R' => ?_
      refine hQ h' w ?_
      unfold byFarS
      rw [if_neg hk]
      exact R'.mono (by omega) (by omega)
    · intro hk h' R'
      simp only [Option.toList_some, List.cons_append, List.nil_append]
      rw [wX10_deliver_17 R'.1]
      refine x_tally (f := 5) R' (by omega) (Or.inl rfl) (by show 0 ≤ (farD c xs).1 29 ∧ (farD c xs).1 29 ≤ 2000000; rw [farD_29]; omega) fun h2 R2 => ?_
      refine hQ h2 w ?_
      have R2' : RepC h0 N M h2 w (vS (farD c xs) 29 ((farD c xs).1 29 + 1)) l := R2
      rw [farD_29, farD_eq hV.1 hk] at R2'
      exact R2'.mono (by omega) (by omega)
  · have j1 : j = 1 := by omega
    subst j1
    have hl1 : let1 (c.1 13) xs := hl
    have eT : takenS c 1 xs = byNearS c xs := rfl
    rw [eT] at hQ
    rw [if_pos (by decide), wX10_deliver_20 hc]
    unfold byNearS at hQ
    refine x_takeN R hG hL hlt hl1 ?_ ?_ ?_
    · intro hk
      rw [if_neg hk] at hQ
      simp only [Option.toList_some, List.cons_append, List.nil_append]
      refine x_tally (f := 2) R (by omega) (Or.inl rfl) (by show 0 ≤ c.1 26 ∧ c.1 26 ≤ 2000000; omega) fun h' R' => ?_
      exact hQ h' w (R'.mono (by omega) (by omega))
    · intro hk hF h' R'
      rw [if_pos hk, hF] at hQ
      simp only [Option.toList_some, List.cons_append, List.nil_append]
      refine x_tally (f := 4) R' (by omega) (Or.inl rfl) (by show 0 ≤ (nOwes c (num xs 2)).1 28 ∧ (nOwes c (num xs 2)).1 28 ≤ 2000000; rw [nOwes_V (by decide)]; omega) fun h2 R2 => ?_
      have R2' : RepC h0 N M h2 w (vS (nOwes c (num xs 2)) 28 ((nOwes c (num xs 2)).1 28 + 1)) l := R2
      rw [nOwes_V (by decide), ← nOwes_vS (by decide) (by decide)] at R2'
      exact hQ h2 w (R2'.mono (by omega) (by omega))
    · intro j hk hF h' w' R'
      rw [if_pos hk, hF] at hQ
      simp only [Option.toList_some, List.cons_append, List.nil_append]
      have e29 : (nOwes (nearT c j xs) (num xs 2)).1 29 = c.1 29 := (nOwes_V (by decide)).trans nearT_29
      refine x_tally (f := 5) R' (by omega) (Or.inl rfl) (by show 0 ≤ (nOwes (nearT c j xs) (num xs 2)).1 29 ∧ (nOwes (nearT c j xs) (num xs 2)).1 29 ≤ 2000000; rw [e29]; omega) fun h2 R2 => ?_
      have R2' : RepC h0 (N + 4) (M + 205) h2 w' (vS (nOwes (nearT c j xs) (num xs 2)) 29 ((nOwes (nearT c j xs) (num xs 2)).1 29 + 1)) l := R2
      rw [e29, nearT_eq] at R2'
      exact hQ h2 w' (R2'.mono (by omega) (by omega))
theorem x_deliver_b {j : Nat} {hid : Int} (hj : j < 2) (R : RepC h0 N M h w c l) (hG : Good B c l) (hB : B ≤ 1000000) (hL : isL h q m xs) (hq : q ≠ 0) (hb : byteL xs) (h10 : 10 ≤ xs.length) (hw : ¬ wholeL (kindL j) xs)
    (hQ : ∀ h', RepC h0 N M h' w (vS c 27 (c.1 27 + 1)) l → Q none h') {l4 : Option zV} : zE 99 0 [some (.inr 2), some (.inl (j : Int)), some (.inr q), some (.inl hid), l4] [] h Q := by
  have hc := R.1
  have gv := hG.1
  have hV : 0 ≤ c.1 27 ∧ c.1 27 ≤ B := by unfold gV at gv; omega
  rw [wX10_deliver_0 hc, if_pos hq, wX10_deliver_5 hc]
  have hr : 0 ≤ c.1 (24 + 3) ∧ c.1 (24 + 3) ≤ 2000000 := by show 0 ≤ c.1 27 ∧ c.1 27 ≤ 2000000; omega
  by_cases j0 : j = 0
  · subst j0
    rw [if_neg (fun z => z rfl), wX10_deliver_9 hc]
    refine x_takeF_b R hL hb h10 hw ?_
    simp only [Option.toList_some, List.cons_append, List.nil_append]
    rw [wX10_deliver_17 hc]
    exact x_tally (f := 3) R (by omega) (Or.inr (by decide)) hr hQ
  · have j1 : j = 1 := by omega
    subst j1
    rw [if_pos (by decide), wX10_deliver_20 hc]
    refine x_takeN_b R hL hb h10 hw ?_
    simp only [Option.toList_some, List.cons_append, List.nil_append]
    exact x_tally (f := 3) R (by omega) (Or.inr (by decide)) hr hQ
end cDeliv
