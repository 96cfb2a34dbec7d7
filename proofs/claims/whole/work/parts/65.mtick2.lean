/-! THE MODEL'S TICK: letters sent -/
section mTick2
variable {h : zH} {I : Nat → Int} {A A' : Nat → Nat → Int} {c : cg} {l : lg} {X Y : sC} {Q : Option zV → zH → Prop} {B : Int}
theorem fl3_of {n : Int} : fup I 674 n = fl3 I (I 675) (I 676) n := by
  unfold fl3
  rw [fup_id rfl, fup_id rfl]
theorem m_farSend (hm : mOK h) (hR : RepR I A c l) (hG : Good B c l) (hB : B ≤ 1000000) (h0 : c.1 0 ≤ 60000)
    (hQ : ∀ I' A', RepR I' A' (farSend c l).1 (farSend c l).2 → Q none (zM h I' A')) {l1 l2 l3 : Option zV} :
    zE 142 82 [some (.inr 29), l1, l2, l3] [] (zM h I A) Q := by
  obtain ⟨⟨a1, a2, a3⟩, a4, a5, a6, a7, a8, a9⟩ := id hR
  obtain ⟨n1, n2, n3, n4⟩ := hG.newF
  have hfb := farB_ok hG h0
  have gv := hG.1
  have g3 := hG.2.2.1.1
  have hV : (0 ≤ c.1 7 ∧ c.1 7 + c.1 12 ≤ c.1 0 + 1) ∧ (1 ≤ c.1 12 ∧ c.1 12 ≤ 32) ∧ (0 ≤ c.1 0 ∧ c.1 0 ≤ B) ∧ (0 ≤ c.1 9 ∧ c.1 9 ≤ B) ∧ (0 ≤ c.1 13 ∧ c.1 13 ≤ 1000) ∧ (0 ≤ c.1 11 ∧ c.1 11 ≤ 255) ∧ c.1 20 ≤ 32 := by unfold gV at gv; omega
  obtain ⟨n, hn⟩ : ∃ n : Nat, c.1 12 = n := ⟨(c.1 12).toNat, by omega⟩
  have i12 : I 654 = n := (a1 12 (by omega)).trans hn
  have i0 : I 651 = c.1 0 := a1 0 (by omega)
  have i1 : I 649 = c.1 1 := a1 1 (by omega)
  have i2 : I 650 = c.1 2 := a1 2 (by omega)
  have i7 : I 653 = c.1 7 := a1 7 (by omega)
  have i8 : I 656 = c.1 8 := a1 8 (by omega)
  have i9 : I 655 = c.1 9 := a1 9 (by omega)
  have i10 : I 657 = c.1 10 := a1 10 (by omega)
  have i11 : I 658 = c.1 11 := a1 11 (by omega)
  have eN : newF c = c.2.2.1 1 (n - 1) := by
    unfold newF
    rw [hn, show ((n : Int) - 1).toNat = n - 1 by omega]
  have tN := a5 (n - 1) (by omega)
  rw [← eN, show 1 + (n - 1) = n by omega] at tN
  have t0 := a5 0 (by omega)
  have hin := n1.1
  unfold s_in at hin
  have w : zw (zw (1 + (n : Int)) - 1) = (n : Int) := by
    rw [zw_eq (x := 1 + (n : Int)) (by omega) (by omega), zw_eq (by omega) (by omega)]
    omega
  rw [yX11_farTick_82 hm, yX11_farNewest_0 hm, i12, w]
  simp only [Option.toList_some, List.cons_append, List.nil_append]
  rw [yX11_farTick_86 hm, Int.toNat_natCast, tN.2.1, i8, i0, i9, zw_eq (by omega) (by omega)]
  refine ⟨⟨by omega, by omega⟩, ?_⟩
  unfold farSend at hQ
  have e154 : ¬ fDue (c.1 0) (c.1 1) (c.1 2) (c.1 9) (newF c).2.1 (c.1 8) (c.1 10) (c.1 7) → zE 142 154 [some (.inr 29), l1, some (.inl (n : Int)), some (.inl (c.1 0 - c.1 9))] [] (zM h I A) Q := by
    intro no
    rw [pif_neg no] at hQ
    rw [yX11_farTick_154 hm]
    exact hQ _ _ hR
  have e155 : fDue (c.1 0) (c.1 1) (c.1 2) (c.1 9) (newF c).2.1 (c.1 8) (c.1 10) (c.1 7) → zE 142 155 [some (.inr 29), l1, some (.inl (n : Int)), some (.inl (c.1 0 - c.1 9))] [] (zM h I A) Q := by
    intro due
    rw [pif_pos due] at hQ
    have eA : A = hW A (A 41) := hW_id.symm
    rw [yX11_farTick_155 hm, yX11_farTick_160 hm, eA]
    refine m_adds (I := I) (ys := []) hm (by show 0 < 1100; omega) (fun i v q => by cases q) ?_
    intro g1 q1
    simp only [Option.toList_none, List.nil_append]
    rw [yX11_farTick_166 hm, fup_n (by decide), i11]
    refine m_adds hm (by simp only [List.length_singleton]; omega) q1 ?_
    intro g2 q2
    simp only [Option.toList_none, List.nil_append]
    rw [yX11_farTick_174 hm, fup_n (by decide), i7]
    refine m_addsTwo hm (by simp only [List.length_append, List.length_singleton]; omega) q2 (by omega) ?_
    intro g3' q3
    simp only [Option.toList_none, List.nil_append]
    rw [yX11_farTick_182 hm, Int.toNat_natCast, hW_o (by decide), tN.2.1]
    refine ⟨⟨by omega, by omega⟩, m_addsTwo hm (by simp only [two, List.length_append, List.length_singleton, List.length_cons, List.length_nil]; omega) q3 (by omega) ?_⟩
    intro g4 q4
    simp only [Option.toList_none, List.nil_append]
    rw [yX11_farTick_192 hm, Int.toNat_natCast, hW_o (by decide), tN.2.2]
    refine ⟨⟨by omega, by omega⟩, m_addsTwo hm (by simp only [two, List.length_append, List.length_singleton, List.length_cons, List.length_nil]; omega) q4 (by omega) ?_⟩
    intro g5 q5
    simp only [Option.toList_none, List.nil_append]
    rw [yX11_farTick_202 hm, Int.toNat_natCast, hW_o (by decide), tN.1.2.1]
    refine ⟨⟨by omega, by omega⟩, m_adds hm (by simp only [two, List.length_append, List.length_singleton, List.length_cons, List.length_nil]; omega) q5 ?_⟩
    intro g6 q6
    simp only [Option.toList_none, List.nil_append]
    rw [yX11_farTick_212 hm, Int.toNat_natCast, hW_o (by decide), tN.1.2.2]
    refine ⟨⟨by omega, by omega⟩, m_adds hm (by simp only [two, List.length_append, List.length_singleton, List.length_cons, List.length_nil]; omega) q6 ?_⟩
    intro g7 q7
    simp only [Option.toList_none, List.nil_append]
    have eH : [83] ++ [c.1 11] ++ two (c.1 7) ++ two (newF c).2.1 ++ two (newF c).2.2 ++ [(newF c).1.2.1] ++ [(newF c).1.2.2] = sHd (c.1 11) (c.1 7) (newF c).2.1 (newF c).2.2 (newF c).1.2.1 (newF c).1.2.2 := by
      unfold sHd; simp only [List.append_assoc, List.cons_append, List.nil_append]
    rw [eH] at q7 ⊢
    rw [yX11_farTick_222 hm, fup_n (by decide), fup_n (by decide), i12, i7]
    refine m_stateOf (base := 1) hm (by omega) ?_
    have e34 : hW A g7 34 (1 + 0) = c.1 7 := by
      rw [hW_o (by decide), t0.2.1, (g3 0 (by omega)).2.1]
      omega
    have eF : fnd (fun i => hW A g7 34 (1 + i)) (c.1 7) n 0 = some 0 := by
      obtain ⟨m, rfl⟩ : ∃ m, n = m + 1 := ⟨n - 1, by omega⟩
      show (if hW A g7 34 (1 + 0) = c.1 7 then some 0 else _) = some 0
      rw [if_pos e34]
    rw [eF]
    simp only [Option.toList_some, List.cons_append, List.nil_append]
    rw [yX11_farTick_236 hm, fl3_of]
    have hX' : mS (hW A g7) 1 (c.2.2.1 1 0).1 := mS_hW t0.1
    have hY' : mS (hW A g7) n (newF c).1 := mS_hW tN.1
    refine m_difference (a := 1) (b := n) (X := (c.2.2.1 1 0).1) (Y := (newF c).1) hm (by omega) (by omega) hX' hY' (fun i v q => hW_s.trans (q7 i v q)) (by show 10 + 417 ≤ 1000; omega) ?_
    intro A2 f2 l2 hw hq
    simp only [Option.toList_none, List.nil_append]
    rw [yX11_farTick_240 hm]
    have hlv : ∀ a i, live a i → A2 a i = A a i := fun a i q => by
      have ne : a ≠ 41 := by unfold live at q; omega
      have := hw a i (Or.inl q)
      rw [hW_o ne, hW_o ne] at this
      exact this
    have R1 : RepR (fl3 I f2 l2 ((farB c).length : Nat)) A2 c l := hR.fr (by omega) (by omega) (fun f q => (fup_n (by omega)).trans ((fup_n (by omega)).trans (fup_n (by omega)))) hlv
    refine m_sends (j := 1) (ys := farB c) hm R1 hG hB (by omega) fl3_4 hq hfb.1 (by have := hfb.2; omega) ?_
    intro I3 A3 R3 hI3 hA3
    have j0 : I3 651 = c.1 0 := (hI3 0 (by omega)).trans (R1.1.1 0 (by omega))
    have j34 : A3 34 n = (newF c).2.1 := by
      rw [hA3 34 n (by omega) (by omega), hlv 34 n (Or.inr (Or.inl ⟨by omega, by omega⟩))]
      exact tN.2.1
    simp only [Option.toList_none, List.nil_append]
    rw [yX11_farTick_245 hm, j0, yX11_farTick_253 hm, Int.toNat_natCast, j34, yX11_farTick_263 hm, yX11_farTick_268 hm]
    refine ⟨⟨by omega, by omega⟩, Or.inl rfl, hQ _ _ ?_⟩
    exact ((R3.sI (k := 9) (v := c.1 0) (by decide) (by decide) (by decide) (by decide) (by decide) (by decide)).sI (k := 8) (v := (newF c).2.1) (by decide) (by decide) (by decide) (by decide) (by decide) (by decide)).sI (k := 10) (v := 0) (by decide) (by decide) (by decide) (by decide) (by decide) (by decide)
  unfold fDue at e154 e155
  have e139 : ¬ ((newF c).2.1 ≠ c.1 8 ∧ c.1 1 ≤ c.1 0 - c.1 9) → ¬ (c.1 7 < (newF c).2.1 ∧ c.1 2 ≤ c.1 0 - c.1 9) → zE 142 139 [some (.inr 29), l1, some (.inl (n : Int)), some (.inl (c.1 0 - c.1 9))] [] (zM h I A) Q := by
    intro x1 x2
    rw [yX11_farTick_139 hm, i10]
    by_cases z : c.1 10 = 0
    · rw [if_pos z]
      exact e154 (by omega)
    · rw [if_neg z, yX11_farTick_146 hm, i1]
      by_cases y : c.1 1 ≤ c.1 0 - c.1 9
      · rw [if_pos y]
        exact e155 (by omega)
      · rw [if_neg y]
        exact e154 (by omega)
  have e118 : ¬ ((newF c).2.1 ≠ c.1 8 ∧ c.1 1 ≤ c.1 0 - c.1 9) → zE 142 118 [some (.inr 29), l1, some (.inl (n : Int)), some (.inl (c.1 0 - c.1 9))] [] (zM h I A) Q := by
    intro x1
    rw [yX11_farTick_118 hm, Int.toNat_natCast, tN.2.1, i7]
    refine ⟨⟨by omega, by omega⟩, ?_⟩
    by_cases z : (newF c).2.1 ≤ c.1 7
    · rw [if_pos z]
      exact e139 x1 (by omega)
    · rw [if_neg z, yX11_farTick_131 hm, i2]
      by_cases y : c.1 2 ≤ c.1 0 - c.1 9
      · rw [if_pos y]
        exact e155 (by omega)
      · rw [if_neg y]
        exact e139 x1 (by omega)
  by_cases z : (newF c).2.1 = c.1 8
  · rw [if_pos z]
    exact e118 (by omega)
  · rw [if_neg z, yX11_farTick_110 hm, i1]
    by_cases y : c.1 1 ≤ c.1 0 - c.1 9
    · rw [if_pos y]
      exact e155 (by omega)
    · rw [if_neg y]
      exact e118 (by omega)
theorem m_keys_l {kn ty : Nat} {K : Nat → Int} (hm : mOK h) (hty : I 661 = ty) (ht : ty ≤ 1000) (hK : ∀ i, i < ty → A 36 i = K i) {l1 : Option zV} :
    ∀ (d i : Nat) (ys : List Int) (g : Nat → Int), i + d = ty → isLs g ys → ys.length + d < 1100 → (∀ g' l2, isLs g' (ys ++ kL K d i) → zE 143 151 [some (.inr 29), l1, l2] [] (zM h (fup I 674 ((ys ++ kL K d i).length : Nat)) (hW A g')) Q) →
    zE 143 127 [some (.inr 29), l1, some (.inl (i : Int))] [] (zM h (fup I 674 ys.length) (hW A g)) Q := by
  intro d
  induction d with
  | zero =>
    intro i ys g hi hg hl hQ
    have q := hQ g
    unfold kL at q
    rw [List.append_nil] at q
    rw [yX11_nearTick_127 hm, fup_n (by decide), hty, if_pos (by omega)]
    exact q _ hg
  | succ d ih =>
    intro i ys g hi hg hl hQ
    unfold kL at hQ
    rw [yX11_nearTick_127 hm, fup_n (by decide), hty, if_neg (by omega), yX11_nearTick_135 hm, Int.toNat_natCast, hW_o (by decide), hK i (by omega)]
    refine ⟨⟨by omega, by omega⟩, m_adds hm (by omega) hg ?_⟩
    intro g1 q1
    simp only [Option.toList_none, List.nil_append]
    rw [yX11_nearTick_145 hm, zw_eq (by omega) (by omega)]
    refine ih (i + 1) _ g1 (by omega) q1 (by rw [List.length_append, List.length_singleton]; omega) ?_
    simp only [List.append_assoc, List.cons_append, List.nil_append]
    exact hQ
theorem m_nearSend (hm : mOK h) (hR : RepR I A c l) (hG : Good B c l) (hB : B ≤ 1000000)
    (hQ : ∀ I' A', RepR I' A' (nearSend c l).1 (nearSend c l).2 → Q none (zM h I' A')) {l1 l2 : Option zV} :
    zE 143 0 [some (.inr 29), l1, l2] [] (zM h I A) Q := by
  obtain ⟨⟨a1, a2, a3⟩, a4, a5, a6, a7, a8, a9⟩ := id hR
  obtain ⟨n1, n2, n3⟩ := hG.newN
  have hfb := nearB_ok hG
  have gv := hG.1
  have hV : (1 ≤ c.1 20 ∧ c.1 20 ≤ 32) ∧ (0 ≤ c.1 0 ∧ c.1 0 ≤ B) ∧ (0 ≤ c.1 16 ∧ c.1 16 ≤ B) ∧ (0 ≤ c.1 13 ∧ c.1 13 ≤ 1000) ∧ (0 ≤ c.1 14 ∧ c.1 14 ≤ c.1 13) ∧ (0 ≤ c.1 18 ∧ c.1 18 ≤ 255) ∧ c.1 12 ≤ 32 ∧ (1 ≤ c.1 2 ∧ c.1 2 ≤ 50) := by unfold gV at gv; omega
  obtain ⟨n, hn⟩ : ∃ n : Nat, c.1 20 = n := ⟨(c.1 20).toNat, by omega⟩
  obtain ⟨ty, hty⟩ : ∃ n : Nat, c.1 13 = n := ⟨(c.1 13).toNat, by omega⟩
  obtain ⟨kn, hkn⟩ : ∃ n : Nat, c.1 14 = n := ⟨(c.1 14).toNat, by omega⟩
  have i20 : I 663 = n := (a1 20 (by omega)).trans hn
  have i0 : I 651 = c.1 0 := a1 0 (by omega)
  have i1 : I 649 = c.1 1 := a1 1 (by omega)
  have i2 : I 650 = c.1 2 := a1 2 (by omega)
  have i13 : I 661 = c.1 13 := a1 13 (by omega)
  have i14 : I 662 = c.1 14 := a1 14 (by omega)
  have i15 : I 665 = c.1 15 := a1 15 (by omega)
  have i16 : I 664 = c.1 16 := a1 16 (by omega)
  have i17 : I 666 = c.1 17 := a1 17 (by omega)
  have i18 : I 667 = c.1 18 := a1 18 (by omega)
  have eN : newN c = c.2.2.1 0 (n - 1) := by
    unfold newN
    rw [hn, show ((n : Int) - 1).toNat = n - 1 by omega]
  have tN := a6 (n - 1) (by omega)
  rw [← eN] at tN
  have w : zw (zw (34 + (n : Int)) - 1) = ((34 + (n - 1) : Nat) : Int) := by
    rw [zw_eq (x := 34 + (n : Int)) (by omega) (by omega), zw_eq (by omega) (by omega)]
    omega
  rw [yX11_nearTick_0 hm, i13, i15, i0, i16, zw_eq (by omega) (by omega)]
  unfold nearSend at hQ
  have e73 : ¬ nDue (c.1 0) (c.1 1) (c.1 2) (c.1 16) (c.1 13) (c.1 15) (c.1 17) (c.1 14) → zE 143 73 [some (.inr 29), some (.inl (c.1 0 - c.1 16)), l2] [] (zM h I A) Q := by
    intro no
    rw [pif_neg no] at hQ
    rw [yX11_nearTick_73 hm]
    exact hQ _ _ hR
  have e74 : nDue (c.1 0) (c.1 1) (c.1 2) (c.1 16) (c.1 13) (c.1 15) (c.1 17) (c.1 14) → zE 143 74 [some (.inr 29), some (.inl (c.1 0 - c.1 16)), l2] [] (zM h I A) Q := by
    intro due
    rw [pif_pos due] at hQ
    have eA : A = hW A (A 41) := hW_id.symm
    rw [yX11_nearTick_74 hm, yX11_nearTick_79 hm, eA]
    refine m_adds (I := I) (ys := []) hm (by show 0 < 1100; omega) (fun i v q => by cases q) ?_
    intro g1 q1
    simp only [Option.toList_none, List.nil_append]
    rw [yX11_nearTick_85 hm, fup_n (by decide), i18]
    refine m_adds hm (by simp only [List.length_singleton]; omega) q1 ?_
    intro g2 q2
    simp only [Option.toList_none, List.nil_append]
    rw [yX11_nearTick_93 hm, fup_n (by decide), i14]
    refine m_addsTwo hm (by simp only [List.length_append, List.length_singleton]; omega) q2 (by omega) ?_
    intro g3 q3
    simp only [Option.toList_none, List.nil_append]
    rw [yX11_nearTick_101 hm, fup_n (by decide), i13]
    refine m_addsTwo hm (by simp only [two, List.length_append, List.length_singleton, List.length_cons, List.length_nil]; omega) q3 (by omega) ?_
    intro g4 q4
    simp only [Option.toList_none, List.nil_append]
    rw [yX11_nearTick_109 hm, yX11_nearNewest_0 hm, fup_n (by decide), i20, w]
    show zE 143 118 [some (.inr 29), some (.inl (c.1 0 - c.1 16)), l2] [.inl ((34 + (n - 1) : Nat) : Int), .inr 34, .inr 29] _ Q
    rw [yX11_nearTick_118 hm, Int.toNat_natCast, hW_o (by decide), tN.2.1]
    refine ⟨⟨by omega, by omega⟩, m_addsTwo hm (by simp only [two, List.length_append, List.length_singleton, List.length_cons, List.length_nil]; omega) q4 (by omega) ?_⟩
    intro g5 q5
    simp only [Option.toList_none, List.nil_append]
    have eH : [75] ++ [c.1 18] ++ two (c.1 14) ++ two (c.1 13) ++ two (newN c).2.1 = kHd (c.1 18) (c.1 14) (c.1 13) (newN c).2.1 := by
      unfold kHd; simp only [List.append_assoc, List.cons_append, List.nil_append]
    rw [eH] at q5 ⊢
    rw [yX11_nearTick_122 hm, fup_n (by decide), i14]
    have key := m_keys_l (h := h) (I := I) (A := A) (kn := kn) (ty := ty) (K := c.2.2.2.1) (Q := Q) (l1 := some (.inl (c.1 0 - c.1 16))) hm (i13.trans hty) (by omega) (fun i hi => a7 i (by omega)) (ty - kn) kn (kHd (c.1 18) (c.1 14) (c.1 13) (newN c).2.1) g5 (by omega) q5 (by show 8 + (ty - kn) < 1100; omega) ?_
    · rw [← hkn] at key
      exact key
    · intro g6 l2 q6
      have eB : kHd (c.1 18) (c.1 14) (c.1 13) (newN c).2.1 ++ kL c.2.2.2.1 (ty - kn) kn = nearB c := by
        unfold nearB
        rw [show (c.1 13 - c.1 14).toNat = ty - kn by omega, show (c.1 14).toNat = kn by omega]
      rw [eB] at q6 ⊢
      rw [yX11_nearTick_151 hm]
      have R1 : RepR (fup I 674 ((nearB c).length : Nat)) (hW A g6) c l := hR.fr (by omega) (by omega) (fun f q => fup_n (by omega)) (fun a i q => hW_o (by unfold live at q; omega))
      refine m_sends (j := 0) (ys := nearB c) hm R1 hG hB (by omega) fup_s (fun i v q => hW_s.trans (q6 i v q)) hfb.2.1 (by have := hfb.2.2; omega) ?_
      intro I3 A3 R3 hI3 hA3
      have j0 : I3 651 = c.1 0 := (hI3 0 (by omega)).trans (R1.1.1 0 (by omega))
      have j13 : fup I3 664 (c.1 0) 661 = c.1 13 := (fup_n (by decide)).trans ((hI3 13 (by omega)).trans (R1.1.1 13 (by omega)))
      simp only [Option.toList_none, List.nil_append]
      rw [yX11_nearTick_156 hm, j0, yX11_nearTick_164 hm, j13, yX11_nearTick_172 hm, yX11_nearTick_177 hm]
      refine ⟨Or.inl rfl, hQ _ _ ?_⟩
      exact ((R3.sI (k := 16) (v := c.1 0) (by decide) (by decide) (by decide) (by decide) (by decide) (by decide)).sI (k := 15) (v := c.1 13) (by decide) (by decide) (by decide) (by decide) (by decide) (by decide)).sI (k := 17) (v := 0) (by decide) (by decide) (by decide) (by decide) (by decide) (by decide)
  unfold nDue at e73 e74
  have e63 : ¬ (c.1 13 ≠ c.1 15 ∧ c.1 1 ≤ c.1 0 - c.1 16) → ¬ (c.1 14 < c.1 13 ∧ c.1 2 ≤ c.1 0 - c.1 16) → ¬ (c.1 17 ≠ 0 ∧ c.1 1 ≤ c.1 0 - c.1 16) → zE 143 63 [some (.inr 29), some (.inl (c.1 0 - c.1 16)), l2] [] (zM h I A) Q := by
    intro x1 x2 x3
    rw [yX11_nearTick_63 hm, i2, zw_eq (by omega) (by omega)]
    by_cases y : 4 * c.1 2 ≤ c.1 0 - c.1 16
    · rw [if_pos y]
      exact e74 (by omega)
    · rw [if_neg y]
      exact e73 (by omega)
  have e48 : ¬ (c.1 13 ≠ c.1 15 ∧ c.1 1 ≤ c.1 0 - c.1 16) → ¬ (c.1 14 < c.1 13 ∧ c.1 2 ≤ c.1 0 - c.1 16) → zE 143 48 [some (.inr 29), some (.inl (c.1 0 - c.1 16)), l2] [] (zM h I A) Q := by
    intro x1 x2
    rw [yX11_nearTick_48 hm, i17]
    by_cases z : c.1 17 = 0
    · rw [if_pos z]
      exact e63 x1 x2 (by omega)
    · rw [if_neg z, yX11_nearTick_55 hm, i1]
      by_cases y : c.1 1 ≤ c.1 0 - c.1 16
      · rw [if_pos y]
        exact e74 (by omega)
      · rw [if_neg y]
        exact e63 x1 x2 (by omega)
  have e29 : ¬ (c.1 13 ≠ c.1 15 ∧ c.1 1 ≤ c.1 0 - c.1 16) → zE 143 29 [some (.inr 29), some (.inl (c.1 0 - c.1 16)), l2] [] (zM h I A) Q := by
    intro x1
    rw [yX11_nearTick_29 hm, i13, i14]
    by_cases z : c.1 13 ≤ c.1 14
    · rw [if_pos z]
      exact e48 x1 (by omega)
    · rw [if_neg z, yX11_nearTick_40 hm, i2]
      by_cases y : c.1 2 ≤ c.1 0 - c.1 16
      · rw [if_pos y]
        exact e74 (by omega)
      · rw [if_neg y]
        exact e48 x1 (by omega)
  by_cases z : c.1 13 = c.1 15
  · rw [if_pos z]
    exact e29 (by omega)
  · rw [if_neg z, yX11_nearTick_21 hm, i1]
    by_cases y : c.1 1 ≤ c.1 0 - c.1 16
    · rw [if_pos y]
      exact e74 (by omega)
    · rw [if_neg y]
      exact e29 (by omega)
theorem m_tick (hm : mOK h) (hR : RepR I A c l) (hG : Good B c l) (hB : B ≤ 50000)
    (hQ : ∀ I' A', RepR I' A' (tickS c l).1 (tickS c l).2 → Q (some (.inl ((tickS c l).1.1 24 - c.1 24))) (zM h I' A')) {l1 : Option zV} :
    zE 144 0 [some (.inr 29), l1] [] (zM h I A) Q := by
  have gv := hG.1
  have hV : (0 ≤ c.1 0 ∧ c.1 0 ≤ B) ∧ (0 ≤ c.1 24 ∧ c.1 24 ≤ B) ∧ c.1 7 + c.1 12 ≤ c.1 0 + 1 := by unfold gV at gv; omega
  have i0 : I 651 = c.1 0 := hR.1.1 0 (by omega)
  have i24 : A 37 0 = c.1 24 := hR.1.2.2 0 (by omega)
  have R1 : RepR (fup I 651 (c.1 0 + 1)) A (vS c 0 (c.1 0 + 1)) l := hR.sI (k := 0) (by decide) (by decide) (by decide) (by decide) (by decide) (by decide)
  have G1 : Good (B + 1) (vS c 0 (c.1 0 + 1)) l := hG.ck
  have e0 : (vS c 0 (c.1 0 + 1)).1 0 = c.1 0 + 1 := vS_s
  have hck : (vS c 0 (c.1 0 + 1)).1 7 + (vS c 0 (c.1 0 + 1)).1 12 ≤ (vS c 0 (c.1 0 + 1)).1 0 := by
    rw [e0, vS_n (by decide), vS_n (by decide)]
    omega
  have G2 := good_farKeep G1 hck
  have e1 : (farKeep (vS c 0 (c.1 0 + 1))).1 0 = c.1 0 + 1 := (farKeep_V 0 (by decide)).trans e0
  have G3 := good_farSend G2 (by omega) (by rw [e1]; omega)
  have G4 := good_nearSend G3
  rw [yX11_tick_0 hm, i24, i0, zw_eq (by omega) (by omega), yX11_tick_17 hm]
  refine m_farKeep hm R1 G1 (by rw [e0]; omega) ?_
  intro I2 A2 l1 R2
  refine m_farSend hm R2 G2 (by omega) (by rw [e1]; omega) ?_
  intro I3 A3 R3
  simp only [Option.toList_none, List.nil_append]
  rw [yX11_tick_21 hm]
  refine m_nearSend hm R3 G3 (by omega) ?_
  intro I4 A4 R4
  simp only [Option.toList_none, List.nil_append]
  have j24 : A4 37 0 = (tickS c l).1.1 24 := R4.1.2.2 0 (by omega)
  have hV4 : 0 ≤ (tickS c l).1.1 24 ∧ (tickS c l).1.1 24 ≤ B + 1 + 1 + 1 := by
    have gv4 : gV (B + 1 + 1 + 1) (tickS c l).1.1 := G4.1
    unfold gV at gv4
    omega
  rw [yX11_tick_25 hm, j24, zw_eq (by omega) (by omega)]
  exact hQ _ _ R4
theorem good_tick (hG : Good B c l) (hB : B ≤ 50000) : Good (B + 3) (tickS c l).1 (tickS c l).2 := by
  have gv := hG.1
  have hV : (0 ≤ c.1 0 ∧ c.1 0 ≤ B) ∧ (0 ≤ c.1 24 ∧ c.1 24 ≤ B) ∧ c.1 7 + c.1 12 ≤ c.1 0 + 1 := by unfold gV at gv; omega
  have G1 : Good (B + 1) (vS c 0 (c.1 0 + 1)) l := hG.ck
  have e0 : (vS c 0 (c.1 0 + 1)).1 0 = c.1 0 + 1 := vS_s
  have hck : (vS c 0 (c.1 0 + 1)).1 7 + (vS c 0 (c.1 0 + 1)).1 12 ≤ (vS c 0 (c.1 0 + 1)).1 0 := by
    rw [e0, vS_n (by decide), vS_n (by decide)]
    omega
  have G2 := good_farKeep G1 hck
  have e1 : (farKeep (vS c 0 (c.1 0 + 1))).1 0 = c.1 0 + 1 := (farKeep_V 0 (by decide)).trans e0
  have G3 := good_farSend G2 (by omega) (by rw [e1]; omega)
  exact (good_nearSend G3).mono (by omega)
end mTick2
