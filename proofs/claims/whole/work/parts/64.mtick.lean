/-! THE MODEL'S TICK -/
def slot (s a i : Nat) : Prop := ((a = 30 ∨ a = 31) ∧ 192 * s ≤ i ∧ i < 192 * s + 192) ∨ ((32 ≤ a ∧ a ≤ 35) ∧ i = s)
section mTick
variable {h : zH} {I : Nat → Int} {A A' : Nat → Nat → Int} {c : cg} {l : lg} {X Y : sC} {Q : Option zV → zH → Prop} {B : Int}
theorem mT_slot {s t : Nat} {x : sT} (hst : t ≠ s) (hA : ∀ a i, ¬ slot s a i → A' a i = A a i) (h : mT A t x) : mT A' t x := by
  obtain ⟨⟨h1, h2, h3⟩, h4, h5⟩ := h
  exact ⟨⟨fun k hk => ⟨(hA _ _ (by unfold slot; omega)).trans (h1 k hk).1, (hA _ _ (by unfold slot; omega)).trans (h1 k hk).2⟩, (hA _ _ (by unfold slot; omega)).trans h2, (hA _ _ (by unfold slot; omega)).trans h3⟩, (hA _ _ (by unfold slot; omega)).trans h4, (hA _ _ (by unfold slot; omega)).trans h5⟩
/-- one more state of an end -/
theorem RepR.addF {n : Nat} {t : sT} (hR : RepR I A c l) (hn : c.1 12 = n) (hn2 : n ≤ 32) (h20 : c.1 20 ≤ 32) (hA : ∀ a i, ¬ slot (1 + n) a i → A' a i = A a i) (hT : mT A' (1 + n) t) : RepR (fup I 654 (n + 1)) A' (addS c 1 12 t) l := by
  obtain ⟨⟨a1, a2, a3⟩, a4, a5, a6, a7, a8, a9⟩ := hR
  have e20 : fup c.1 12 (c.1 12 + 1) 20 = c.1 20 := fup_n (by decide)
  have e13 : fup c.1 12 (c.1 12 + 1) 13 = c.1 13 := fup_n (by decide)
  have e21 : fup c.1 12 (c.1 12 + 1) 21 = c.1 21 := fup_n (by decide)
  have e12 : fup c.1 12 (c.1 12 + 1) 12 = c.1 12 + 1 := fup_s
  have hX : mT A' 0 (c.2.1, A 34 0, A 35 0) := mT_slot (s := 1 + n) (by omega) hA ⟨a4, rfl, rfl⟩
  have hA' : ∀ a i, 36 ≤ a → A' a i = A a i := fun a i q => hA a i (by unfold slot; omega)
  refine ⟨⟨fun k hk => ?_, ?_, fun i hi => ?_⟩, hX.1, fun i hi => ?_, fun i hi => ?_, fun i hi => ?_, fun i hi q hq => ?_, fun j hj => ⟨(hA' _ _ (by omega)).trans (a9 j hj).1, fun k hk => ?_⟩⟩
  · show fup I 654 (n + 1) (fM k) = fup c.1 12 (c.1 12 + 1) k
    by_cases e : k = 12
    · subst e
      rw [e12, hn]
      exact fup_s
    · have ne : fM k ≠ 654 := fun q => e (fM_inj k hk 12 (by omega) q)
      rw [fup_n e, fup_n ne]
      exact a1 k hk
  · show fup I 654 (n + 1) 659 = fup c.1 12 (c.1 12 + 1) 6
    rw [fup_n (by decide), fup_n (by decide)]
    exact a2
  · show A' 37 i = fup c.1 12 (c.1 12 + 1) (24 + i)
    rw [fup_n (by omega), hA' _ _ (by omega)]
    exact a3 i hi
  · dsimp only [addS] at hi ⊢
    rw [e12] at hi
    by_cases e : i = (c.1 12).toNat
    · rw [if_pos ⟨rfl, e⟩, e, hn, Int.toNat_natCast]
      exact hT
    · rw [if_neg (fun z => e z.2)]
      exact mT_slot (by omega) hA (a5 i (by omega))
  · dsimp only [addS] at hi ⊢
    rw [e20] at hi
    rw [if_neg (fun z => absurd z.1 (by decide))]
    exact mT_slot (by omega) hA (a6 i hi)
  · dsimp only [addS] at hi ⊢
    rw [e13] at hi
    exact (hA' _ _ (by omega)).trans (a7 i hi)
  · dsimp only [addS] at hi ⊢
    rw [e21] at hi
    exact (hA' _ _ (by omega)).trans (a8 i hi q hq)
  · obtain ⟨b1, b2, b3⟩ := (a9 j hj).2 k hk
    exact ⟨(hA' _ _ (by omega)).trans b1, b2, fun i v hv => (hA' _ _ (by omega)).trans (b3 i v hv)⟩
theorem RepR.addN {n : Nat} {t : sT} (hR : RepR I A c l) (hn : c.1 20 = n) (hn2 : n ≤ 32) (h12 : c.1 12 ≤ 32) (hA : ∀ a i, ¬ slot (34 + n) a i → A' a i = A a i) (hT : mT A' (34 + n) t) : RepR (fup I 663 (n + 1)) A' (addS c 0 20 t) l := by
  obtain ⟨⟨a1, a2, a3⟩, a4, a5, a6, a7, a8, a9⟩ := hR
  have e20 : fup c.1 20 (c.1 20 + 1) 12 = c.1 12 := fup_n (by decide)
  have e13 : fup c.1 20 (c.1 20 + 1) 13 = c.1 13 := fup_n (by decide)
  have e21 : fup c.1 20 (c.1 20 + 1) 21 = c.1 21 := fup_n (by decide)
  have e12 : fup c.1 20 (c.1 20 + 1) 20 = c.1 20 + 1 := fup_s
  have hX : mT A' 0 (c.2.1, A 34 0, A 35 0) := mT_slot (s := 34 + n) (by omega) hA ⟨a4, rfl, rfl⟩
  have hA' : ∀ a i, 36 ≤ a → A' a i = A a i := fun a i q => hA a i (by unfold slot; omega)
  refine ⟨⟨fun k hk => ?_, ?_, fun i hi => ?_⟩, hX.1, fun i hi => ?_, fun i hi => ?_, fun i hi => ?_, fun i hi q hq => ?_, fun j hj => ⟨(hA' _ _ (by omega)).trans (a9 j hj).1, fun k hk => ?_⟩⟩
  · show fup I 663 (n + 1) (fM k) = fup c.1 20 (c.1 20 + 1) k
    by_cases e : k = 20
    · subst e
      rw [e12, hn]
      exact fup_s
    · have ne : fM k ≠ 663 := fun q => e (fM_inj k hk 20 (by omega) q)
      rw [fup_n e, fup_n ne]
      exact a1 k hk
  · show fup I 663 (n + 1) 659 = fup c.1 20 (c.1 20 + 1) 6
    rw [fup_n (by decide), fup_n (by decide)]
    exact a2
  · show A' 37 i = fup c.1 20 (c.1 20 + 1) (24 + i)
    rw [fup_n (by omega), hA' _ _ (by omega)]
    exact a3 i hi
  · dsimp only [addS] at hi ⊢
    rw [e20] at hi
    rw [if_neg (fun z => absurd z.1 (by decide))]
    exact mT_slot (by omega) hA (a5 i hi)
  · dsimp only [addS] at hi ⊢
    rw [e12] at hi
    by_cases e : i = (c.1 20).toNat
    · rw [if_pos ⟨rfl, e⟩, e, hn, Int.toNat_natCast]
      exact hT
    · rw [if_neg (fun z => e z.2)]
      exact mT_slot (by omega) hA (a6 i (by omega))
  · dsimp only [addS] at hi ⊢
    rw [e13] at hi
    exact (hA' _ _ (by omega)).trans (a7 i hi)
  · dsimp only [addS] at hi ⊢
    rw [e21] at hi
    exact (hA' _ _ (by omega)).trans (a8 i hi q hq)
  · obtain ⟨b1, b2, b3⟩ := (a9 j hj).2 k hk
    exact ⟨(hA' _ _ (by omega)).trans b1, b2, fun i v hv => (hA' _ _ (by omega)).trans (b3 i v hv)⟩
theorem m_same_l {a b : Nat} (hm : mOK h) (ha : a < 69) (hb : b < 69) (hX : mS A a X) (hY : mS A b Y) (hQ : ∀ r : Int, (r = 0 ∨ r = 1) → (r = 1 ↔ likeX X Y) → Q (some (.inl r)) (zM h I A)) :
    ∀ (d i : Nat), i + d = 192 → (∀ k, k < i → X.1 k = Y.1 k) → zE 134 2 [some (.inr 29), some (.inl (a : Int)), some (.inl (b : Int)), some (.inl (i : Int))] [] (zM h I A) Q := by
  intro d
  induction d with
  | zero =>
    intro i hi hk
    have e : i = 192 := by omega
    subst e
    rw [yX11_sameCells_2 hm, if_pos (by omega), yX11_sameCells_71 hm, Int.toNat_natCast, Int.toNat_natCast, hX.2.1, hY.2.1]
    refine ⟨⟨by omega, by omega⟩, ⟨by omega, by omega⟩, ?_⟩
    by_cases q : X.2.1 = Y.2.1
    · rw [if_neg (fun z => z q), yX11_sameCells_86 hm, Int.toNat_natCast, Int.toNat_natCast, hX.2.2, hY.2.2]
      refine ⟨⟨by omega, by omega⟩, ⟨by omega, by omega⟩, ?_⟩
      by_cases q2 : X.2.2 = Y.2.2
      · rw [if_neg (fun z => z q2), yX11_sameCells_101 hm, yX11_sameCells_106 hm]
        exact ⟨Or.inr rfl, hQ 1 (Or.inr rfl) ⟨fun _ => ⟨hk, q, q2⟩, fun _ => rfl⟩⟩
      · rw [if_pos q2, yX11_sameCells_105 hm, yX11_sameCells_106 hm]
        exact ⟨Or.inl rfl, hQ 0 (Or.inl rfl) ⟨fun z => absurd z (by decide), fun z => absurd z.2.2 q2⟩⟩
    · rw [if_pos q, yX11_sameCells_105 hm, yX11_sameCells_106 hm]
      exact ⟨Or.inl rfl, hQ 0 (Or.inl rfl) ⟨fun z => absurd z (by decide), fun z => absurd z.2.1 q⟩⟩
  | succ d ih =>
    intro i hi hk
    have hx := hX.1 i (by omega)
    have hy := hY.1 i (by omega)
    have no : X.1 i ≠ Y.1 i → zE 134 63 [some (.inr 29), some (.inl (a : Int)), some (.inl (b : Int)), some (.inl (i : Int))] [] (zM h I A) Q := by
      intro ne
      rw [yX11_sameCells_63 hm]
      exact ⟨Or.inl rfl, hQ 0 (Or.inl rfl) ⟨fun z => absurd z (by decide), fun z => absurd (z.1 i (by omega)) ne⟩⟩
    rw [yX11_sameCells_2 hm, if_neg (by omega), yX11_sameCells_9 hm, ixw (by omega) (by omega), ixw (by omega) (by omega), Int.toNat_natCast, Int.toNat_natCast, hx.1, hy.1]
    refine ⟨⟨by omega, by omega⟩, ⟨by omega, by omega⟩, ?_⟩
    by_cases q : X.1 i % 128 = Y.1 i % 128
    · rw [if_neg (fun z => z q), yX11_sameCells_36 hm, ixw (by omega) (by omega), ixw (by omega) (by omega), Int.toNat_natCast, Int.toNat_natCast, hx.2, hy.2]
      refine ⟨⟨by omega, by omega⟩, ⟨by omega, by omega⟩, ?_⟩
      by_cases q2 : X.1 i / 128 = Y.1 i / 128
      · rw [if_pos q2, yX11_sameCells_65 hm, zw_eq (by omega) (by omega)]
        refine ih (i + 1) (by omega) (fun k hk2 => ?_)
        by_cases e : k = i
        · subst e; omega
        · exact hk k (by omega)
      · rw [if_neg q2]
        exact no (by omega)
    · rw [if_pos q]
      exact no (by omega)
theorem m_same {a b : Nat} (hm : mOK h) (ha : a < 69) (hb : b < 69) (hX : mS A a X) (hY : mS A b Y) (hQ : ∀ r : Int, (r = 0 ∨ r = 1) → (r = 1 ↔ likeX X Y) → Q (some (.inl r)) (zM h I A)) {l3 : Option zV} :
    zE 134 0 [some (.inr 29), some (.inl (a : Int)), some (.inl (b : Int)), l3] [] (zM h I A) Q := by
  rw [yX11_sameCells_0 hm]
  exact m_same_l hm ha hb hX hY hQ 192 0 (by omega) (fun k hk => absurd hk (by omega))
theorem m_stateOf_l {base n : Nat} {v : Int} (hm : mOK h) (hb : base + n ≤ 69) : ∀ (d i : Nat), i + d = n → Q (some (.inl (match fnd (fun i => A 34 (base + i)) v d i with | some j => ((base + j : Nat) : Int) | none => -1))) (zM h I A) →
    zE 136 3 [some (.inr 29), some (.inl (base : Int)), some (.inl (n : Int)), some (.inl v), some (.inl (i : Int))] [] (zM h I A) Q := by
  intro d
  induction d with
  | zero =>
    intro i hi hQ
    rw [yX11_stateOf_3 hm, if_pos (by omega), yX11_stateOf_33 hm]
    exact hQ
  | succ d ih =>
    intro i hi hQ
    have eF : fnd (fun i => A 34 (base + i)) v (d + 1) i = if A 34 (base + i) = v then some i else fnd (fun i => A 34 (base + i)) v d (i + 1) := rfl
    have i1 : zw ((base : Int) + (i : Int)) = ((base + i : Nat) : Int) := by
      rw [zw_eq (by omega) (by omega)]
      omega
    rw [eF] at hQ
    rw [yX11_stateOf_3 hm, if_neg (by omega), yX11_stateOf_9 hm, i1, Int.toNat_natCast]
    refine ⟨⟨by omega, by omega⟩, ?_⟩
    by_cases q : A 34 (base + i) = v
    · rw [if_pos q] at hQ
      rw [if_neg (fun z => z q), yX11_stateOf_22 hm, i1]
      exact hQ
    · rw [if_neg q] at hQ
      rw [if_pos q, yX11_stateOf_27 hm, zw_eq (by omega) (by omega)]
      exact ih (i + 1) (by omega) hQ
theorem m_stateOf {base n : Nat} {v : Int} (hm : mOK h) (hb : base + n ≤ 69) (hQ : Q (some (.inl (match fnd (fun i => A 34 (base + i)) v n 0 with | some j => ((base + j : Nat) : Int) | none => -1))) (zM h I A)) {l4 : Option zV} :
    zE 136 0 [some (.inr 29), some (.inl (base : Int)), some (.inl (n : Int)), some (.inl v), l4] [] (zM h I A) Q := by
  rw [yX11_stateOf_0 hm]
  exact m_stateOf_l hm hb n 0 (by omega) hQ
theorem m_farKeep (hm : mOK h) (hR : RepR I A c l) (hG : Good B c l) (h0 : c.1 0 ≤ 60000)
    (hQ : ∀ I' A' l1, RepR I' A' (farKeep c) l → zE 142 82 [some (.inr 29), l1, none, none] [] (zM h I' A') Q) :
    zE 142 0 [some (.inr 29), none, none, none] [] (zM h I A) Q := by
  obtain ⟨⟨a1, a2, a3⟩, a4, a5, a6, a7, a8, a9⟩ := id hR
  have hN := hG.newF
  have gv := hG.1
  have hV : (0 ≤ c.1 7 ∧ c.1 7 + c.1 12 ≤ c.1 0 + 1) ∧ (1 ≤ c.1 12 ∧ c.1 12 ≤ 32) ∧ (0 ≤ c.1 6 ∧ c.1 6 ≤ 1000) ∧ c.1 20 ≤ 32 := by unfold gV at gv; omega
  obtain ⟨n, hn⟩ : ∃ n : Nat, c.1 12 = n := ⟨(c.1 12).toNat, by omega⟩
  have i12 : I 654 = n := (a1 12 (by omega)).trans hn
  have i6 : I 652 = c.1 6 := a1 6 (by omega)
  have eN : newF c = c.2.2.1 1 (n - 1) := by
    unfold newF
    rw [hn, show ((n : Int) - 1).toNat = n - 1 by omega]
  have tN := a5 (n - 1) (by omega)
  rw [← eN, show 1 + (n - 1) = n by omega] at tN
  have w : zw (zw (1 + (n : Int)) - 1) = (n : Int) := by
    rw [zw_eq (x := 1 + (n : Int)) (by omega) (by omega), zw_eq (by omega) (by omega)]
    omega
  rw [yX11_farTick_0 hm, yX11_farNewest_0 hm, i12, w]
  simp only [Option.toList_some, List.cons_append, List.nil_append]
  rw [yX11_farTick_4 hm, i12]
  unfold farKeep at hQ
  by_cases q : 32 ≤ (n : Int)
  · rw [pif_neg (by omega)] at hQ
    rw [if_pos q]
    exact hQ _ _ _ hR
  · rw [if_neg q, yX11_farTick_14 hm]
    refine m_same (a := 0) hm (by omega) (by omega) a4 tN.1 ?_
    intro r hr hl
    simp only [Option.toList_some, List.cons_append, List.nil_append]
    rw [yX11_farTick_20 hm]
    have e36 : ¬ (likeX c.2.1 (newF c).1 ∧ (newF c).2.2 = c.1 6) → zE 142 36 [some (.inr 29), some (.inl (n : Int)), none, none] [] (zM h I A) Q := by
      intro no
      rw [pif_pos ⟨by omega, no⟩] at hQ
      have w1 : zw ((n : Int) + 1) = ((1 + n : Nat) : Int) := by
        rw [zw_eq (by omega) (by omega)]
        omega
      rw [yX11_farTick_36 hm, w1]
      refine m_copies (fr := 0) hm (by omega) (by omega) (by omega) a4 ?_
      simp only [Option.toList_none, List.nil_append]
      have r34 : (zu (zu (mW A (1 + n) c.2.1) 34 (1 + n) (A 34 0)) 35 (1 + n) (A 35 0)) 34 n = (newF c).2.1 := by
        rw [zu_na (by decide), zu_ni (by omega), mW_o (by decide)]
        exact tN.2.1
      rw [yX11_farTick_44 hm, w1, Int.toNat_natCast, Int.toNat_natCast, r34, zw_eq (by omega) (by omega), yX11_farTick_60 hm, w1, Int.toNat_natCast, i6, yX11_farTick_72 hm, i12, zw_eq (by omega) (by omega)]
      refine ⟨⟨by omega, by omega⟩, ⟨by omega, by omega⟩, ⟨by omega, by omega⟩, hQ _ _ _ ?_⟩
      refine hR.addF hn (by omega) hV.2.2.2 (fun a i hs => ?_) ⟨?_, ?_, ?_⟩
      · have hs' : ¬ (((a = 30 ∨ a = 31) ∧ 192 * (1 + n) ≤ i ∧ i < 192 * (1 + n) + 192) ∨ ((32 ≤ a ∧ a ≤ 35) ∧ i = 1 + n)) := hs
        unfold zu mW
        rw [if_neg (by omega), if_neg (by omega), if_neg (by omega), if_neg (by omega), if_neg (by omega), if_neg (by omega), if_neg (by omega), if_neg (by omega)]
      · exact mS_zu (by omega) (mS_zu (by omega) (mS_zu (by omega) (mS_zu (by omega) mS_W)))
      · rw [zu_na (by decide), zu_s]
      · rw [zu_s]
    by_cases b : r = 1
    · rw [if_neg (by omega), yX11_farTick_23 hm, Int.toNat_natCast, tN.2.2, i6]
      refine ⟨⟨by omega, by omega⟩, ?_⟩
      by_cases e : (newF c).2.2 = c.1 6
      · rw [pif_neg (fun z => z.2 ⟨hl.1 b, e⟩)] at hQ
        rw [if_pos e]
        exact hQ _ _ _ hR
      · rw [if_neg e]
        exact e36 (fun z => e z.2)
    · rw [if_pos (by omega)]
      exact e36 (fun z => b (hl.2 z.1))
end mTick
