/-! THE CLASS: a state kept; what is due -/
section cKeep
variable {h0 h h' : zH} {N M N' M' : Nat} {w w' : Nat → Nat} {c : cg} {l : lg} {Q : Option zV → zH → Prop} {B : Int}
theorem x_keepN {o : Nat} {x : sC} {nu tk : Int} (R : RepC h0 N M h w c l) (hn : c.1 20 < 32) (ho : sOK h o) (hox : scIs h o x) (ho2 : o = 12 ∨ o = 15) (hQ : ∀ h' w', RepC h0 (N + 3) (M + 198) h' w' (addS c 0 20 (x, nu, tk)) l → Q none h') :
    zE 71 0 [some (.inr 5), some (.inl nu), some (.inl tk), some (.inr o), none] [] h Q := by
  have hc := R.1
  have n20 := R.n20
  have z48 := R.z48
  obtain ⟨n, hn2⟩ : ∃ n : Nat, c.1 20 = n := ⟨(c.1 20).toNat, by omega⟩
  have hv : zI h 514 5 = n := (R.v 20 (by decide) (Or.inl (by decide))).trans hn2
  have hS := R.2.2.2.1
  by_cases ht0 : zB h 6 n = 0
  · have hoc : zR h 384 o < 48 := by
      rcases ho2 with rfl | rfl
      · rw [show zR h 384 12 = 13 from hc.r384_12]; omega
      · rw [show zR h 384 15 = 16 from hc.r384_15]; omega
    refine c_keep0 hc.k5 hc.r512_5 hc.k6 hv (by omega) ht0 ho (by omega) (by omega) (by omega) (by omega) (by omega) ?_
    have R1 := R.newN (n := n) (by omega) (by omega) ht0
    have hf := hNew_f h 6 n
    exact hQ _ _ (R1.keepN (t := zn h) (o := o) (x := x) (nu := nu) (tk := tk) hn2 (by omega) hf.2.2.2.2.2.2.2.1 (by omega) (scIs_new hox (by omega) (by omega)))
  · have htk := hS.1 n (by omega) ht0
    obtain ⟨t1, t2, t3, t4, t5, t6, t7, t8, t9⟩ := id htk
    refine c_keep1 hc.k5 hc.r512_5 hc.k6 hv (by omega) rfl ht0 t1 ?_ ho ?_ ?_
    · rw [t2]; exact ⟨t3, by rw [t4]; exact t5⟩
    · rw [t2]; omega
    · exact hQ _ _ ((R.keepN (x := x) (nu := nu) (tk := tk) hn2 (by omega) rfl ht0 hox).mono (by omega) (by omega))
theorem x_keepF {x : sC} {nu tk : Int} (R : RepC h0 N M h w c l) (hn : c.1 12 < 32) (hox : scIs h 15 x) (hQ : ∀ h' w', RepC h0 (N + 3) (M + 198) h' w' (addS c 1 12 (x, nu, tk)) l → Q none h') :
    zE 71 0 [some (.inr 17), some (.inl nu), some (.inl tk), some (.inr 15), none] [] h Q := by
  have hc := R.1
  have n12 := R.n12
  have z48 := R.z48
  have ho := R.s15
  obtain ⟨n, hn2⟩ : ∃ n : Nat, c.1 12 = n := ⟨(c.1 12).toNat, by omega⟩
  have hv : zI h 514 17 = n := (R.v 12 (by decide) (Or.inl (by decide))).trans hn2
  have hS := R.2.2.2.2.1
  by_cases ht0 : zB h 18 n = 0
  · have hoc : zR h 384 15 < 48 := by
      rw [show zR h 384 15 = 16 from hc.r384_15]; omega
    refine c_keep0 hc.k17 hc.r512_17 hc.k18 hv (by omega) ht0 ho (by omega) (by omega) (by omega) (by omega) (by omega) ?_
    have R1 := R.newF (n := n) (by omega) (by omega) ht0
    have hf := hNew_f h 18 n
    exact hQ _ _ (R1.keepF (t := zn h) (o := 15) (x := x) (nu := nu) (tk := tk) hn2 (by omega) hf.2.2.2.2.2.2.2.1 (by omega) (scIs_new hox (by omega) (by omega)))
  · have htk := hS.1 n (by omega) ht0
    obtain ⟨t1, t2, t3, t4, t5, t6, t7, t8, t9⟩ := id htk
    refine c_keep1 hc.k17 hc.r512_17 hc.k18 hv (by omega) rfl ht0 t1 ?_ ho ?_ ?_
    · rw [t2]; exact ⟨t3, by rw [t4]; exact t5⟩
    · rw [t2]; omega
    · exact hQ _ _ ((R.keepF (x := x) (nu := nu) (tk := tk) hn2 (by omega) rfl ht0 hox).mono (by omega) (by omega))
theorem x_keepState (R : RepC h0 N M h w c l) (hG : Good B c l) (hB : B ≤ 60000) (hQ : ∀ h' w', RepC h0 (N + 3) (M + 198) h' w' (farKeep c) l → Q none h') :
    zE 3 0 [some (.inr 14), none, none] [] h Q := by
  have hc := R.1
  have gv := hG.1
  have n12 := R.n12
  have hV : (0 ≤ c.1 0 ∧ c.1 0 ≤ B) ∧ (0 ≤ c.1 7 ∧ c.1 7 + c.1 12 ≤ c.1 0 + 1) := by unfold gV at gv; omega
  have hnum : (newF c).2.1 = c.1 7 + ((c.1 12 - 1).toNat : Nat) := (hG.2.2.1.1 _ (by omega)).2.1
  obtain ⟨t, t1, t2, t3, t4, t5, t6, _⟩ := R.tF
  have x15 := R.2.2.1
  have hlike : likeS h 15 (t + 1) ↔ likeX c.2.1 (newF c).1 := by
    unfold likeS likeX
    obtain ⟨a1, a2, a3⟩ := x15
    obtain ⟨b1, b2, b3⟩ := t6.1
    rw [a2, a3, b2, b3]
    constructor
    · rintro ⟨p1, p2, p3⟩
      exact ⟨fun k hk => by rw [← a1 k hk, p1 k hk]; exact b1 k hk, p2, p3⟩
    · rintro ⟨p1, p2, p3⟩
      exact ⟨fun k hk => by rw [a1 k hk, p1 k hk]; exact (b1 k hk).symm, p2, p3⟩
  have htook : zI h 450 t = (newF c).2.2 := t6.2.2
  refine c_keepState (tk := c.1 6) (nu := (newF c).2.1) hc.k14 hc.r0_14 R.s15 hc.r1_14 R.rF t1 t2 (by rw [t3]; exact t4) (R.v 6 (by decide) (Or.inl (by decide))) t6.2.1 (by omega) ?_ ?_
  · intro hno
    rw [t3, htook, hlike] at hno
    refine hQ h w ?_
    unfold farKeep
    rw [pif_neg]
    · exact R.mono (by omega) (by omega)
    · rintro ⟨p1, p2⟩
      rcases hno with ⟨q1, q2⟩ | q
      · exact p2 ⟨q2, q1.symm⟩
      · omega
  · intro hno hlt
    rw [t3, htook, hlike] at hno
    refine x_keepF R (by omega) x15 fun h' w' R' => ⟨rfl, hQ h' w' ?_⟩
    unfold farKeep
    rw [pif_pos]
    · exact R'
    · exact ⟨by omega, fun z => hno ⟨z.2.symm, z.1⟩⟩
theorem x_Fdue (R : RepC h0 N M h w c l) (hG : Good B c l) (hB : B ≤ 60000) (hQ : ∀ b : Int, (b = 0 ∨ b = 1) → (b = 1 ↔ fDue (c.1 0) (c.1 1) (c.1 2) (c.1 9) (newF c).2.1 (c.1 8) (c.1 10) (c.1 7)) → Q (some (.inl b)) h) {l4 l5 : Option zV} :
    zE 4 0 [some (.inr 14), some (.inl (c.1 0)), some (.inl (c.1 1)), some (.inl (c.1 2)), l4, l5] [] h Q := by
  have hc := R.1
  have gv := hG.1
  have hV : (0 ≤ c.1 0 ∧ c.1 0 ≤ B) ∧ (0 ≤ c.1 9 ∧ c.1 9 ≤ B) := by unfold gV at gv; omega
  obtain ⟨t, t1, t2, t3, t4, t5, t6, _⟩ := R.tF
  exact c_FisDue hc.k14 hc.r1_14 hc.k17 t1 t2 (R.v 9 (by decide) (Or.inl (by decide))) t6.2.1 (R.v 8 (by decide) (Or.inl (by decide))) (R.v 10 (by decide) (Or.inl (by decide))) (R.v 7 (by decide) (Or.inl (by decide))) (by omega) hQ
theorem x_Ndue (R : RepC h0 N M h w c l) (hG : Good B c l) (hB : B ≤ 60000) (hQ : ∀ b : Int, (b = 0 ∨ b = 1) → (b = 1 ↔ nDue (c.1 0) (c.1 1) (c.1 2) (c.1 16) (c.1 13) (c.1 15) (c.1 17) (c.1 14)) → Q (some (.inl b)) h) {l4 : Option zV} :
    zE 47 0 [some (.inr 3), some (.inl (c.1 0)), some (.inl (c.1 1)), some (.inl (c.1 2)), l4] [] h Q := by
  have hc := R.1
  have gv := hG.1
  have hV : (0 ≤ c.1 0 ∧ c.1 0 ≤ B) ∧ (0 ≤ c.1 16 ∧ c.1 16 ≤ B) ∧ (1 ≤ c.1 2 ∧ c.1 2 ≤ 50) := by unfold gV at gv; omega
  exact c_NisDue hc.k3 (R.v 16 (by decide) (Or.inl (by decide))) (R.v 13 (by decide) (Or.inl (by decide))) (R.v 15 (by decide) (Or.inl (by decide))) (R.v 17 (by decide) (Or.inl (by decide))) (R.v 14 (by decide) (Or.inl (by decide))) (by omega) (by omega) hQ
end cKeep
