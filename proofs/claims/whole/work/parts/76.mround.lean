/-! THE MODEL: carry, round, roam -/
def carryOK (l : lg) (line k how arg : Int) : Prop := (line = 0 ∨ line = 1) ∧ (0 ≤ k ∧ k < ((l line.toNat).length : Nat)) ∧ (0 ≤ how ∧ how ≤ 3) ∧ (how = 3 → 0 ≤ arg ∧ arg / 256 < (((l line.toNat).getD k.toNat []).length : Nat))
def carryC (c : cg) (l : lg) (j k : Nat) (how arg : Int) : cg := if how = 1 then vS c 26 (c.1 26 + 1) else if how = 3 ∧ arg % 256 ≠ 0 then vS c 27 (c.1 27 + 1) else takenS c j ((l j).getD k [])
def carryL (l : lg) (j k : Nat) (how : Int) : lg := if how = 2 then l else outL l j k
noncomputable def carryS (c : cg) (l : lg) (line k how arg : Int) : cg × lg := pif (carryOK l line k how arg) (carryC c l line.toNat k.toNat how arg, carryL l line.toNat k.toNat how) (c, l)
noncomputable def carryA (l : lg) (line k how arg : Int) : Int := pif (carryOK l line k how arg) ((carryL l line.toNat k.toNat how line.toNat).length : Nat) (-1)
def foldT (c : cg) (j : Nat) (xs : List (List Int)) : cg := xs.foldl (fun c ys => takenS c j ys) c
noncomputable def roundS (c : cg) (l : lg) : cg × lg := (foldT (foldT (tickS c l).1 0 ((tickS c l).2 0)) 1 ((tickS c l).2 1), fun j => if j < 2 then [] else (tickS c l).2 j)
section mRound
variable {h : zH} {I : Nat → Int} {A A' : Nat → Nat → Int} {c : cg} {l : lg} {Q : Option zV → zH → Prop} {B : Int} {xs : List Int}
theorem Good.letJ {j k : Nat} (hG : Good B c l) (hj : j < 2) (hk : k < (l j).length) : letJ (c.1 13) j ((l j).getD k []) := by
  have hm : (l j).getD k [] ∈ l j := by
    rw [List.getD_eq_getElem?_getD, List.getElem?_eq_getElem hk]
    exact List.getElem_mem hk
  obtain ⟨-, -, -, -, -, -, g9, g10⟩ := hG
  have : j = 0 ∨ j = 1 := by omega
  rcases this with rfl | rfl
  · exact g9 _ hm
  · exact g10 _ hm
theorem outL_mem {j k i : Nat} {ys : List Int} (hm : ys ∈ outL l j k i) : ys ∈ l i := by
  have h' : ys ∈ (if i = j then (l j).eraseIdx k else l i) := hm
  by_cases e : i = j
  · rw [if_pos e] at h'
    rw [e]
    exact List.mem_of_mem_eraseIdx h'
  · rw [if_neg e] at h'
    exact h'
theorem outL_len {j k i : Nat} (h40 : ∀ i, i < 2 → (l i).length ≤ 40) (hi : i < 2) (hj : j < 2) : (outL l j k i).length ≤ 40 := by
  show (if i = j then (l j).eraseIdx k else l i).length ≤ 40
  by_cases e : i = j
  · rw [if_pos e]
    have := List.length_eraseIdx_le (l j) k
    have := h40 j hj
    omega
  · rw [if_neg e]
    exact h40 i hi
theorem Good.out {j k : Nat} (hG : Good B c l) (hj : j < 2) : Good B c (outL l j k) := by
  obtain ⟨gv, g2, g3, g6, g7, g8, g9, g10⟩ := hG
  exact ⟨gv, g2, g3, g6, g7, fun i hi => outL_len g8 hi hj, fun ys hy => g9 ys (outL_mem hy), fun ys hy => g10 ys (outL_mem hy)⟩
theorem good_1 {k : Nat} (hG : Good B c l) (hk : 26 ≤ k) (hk2 : k ≤ 30) : Good (B + 1) (vS c k (c.1 k + 1)) l := by
  have hG1 := hG.mono (show B ≤ B + 1 by omega)
  have gv := hG.1
  refine good_vS hG1 ?_ (by omega) (by omega) (by omega) (by omega) (by omega)
  have : k = 26 ∨ k = 27 ∨ k = 28 ∨ k = 29 ∨ k = 30 := by omega
  unfold gV at *
  rcases this with rfl | rfl | rfl | rfl | rfl <;> (simp (decide := true) only [fup, if_true, if_false]; omega)
theorem m_isLetterOf {line k : Int} (hm : mOK h) (hR : RepR I A c l) (hQ : ∀ b : Int, (b = 0 ∨ b = 1) → (b = 1 ↔ (line = 0 ∨ line = 1) ∧ 0 ≤ k ∧ k < ((l line.toNat).length : Nat)) → Q (some (.inl b)) (zM h I A)) :
    zE 151 0 [some (.inr 29), some (.inl line), some (.inl k)] [] (zM h I A) Q := by
  have e27 : ¬ ((line = 0 ∨ line = 1) ∧ 0 ≤ k ∧ k < ((l line.toNat).length : Nat)) → zE 151 27 [some (.inr 29), some (.inl line), some (.inl k)] [] (zM h I A) Q := by
    intro no
    rw [yX11_isLetterOf_27 hm, yX11_isLetterOf_28 hm]
    exact ⟨Or.inl rfl, hQ 0 (Or.inl rfl) ⟨fun z => absurd z (by decide), fun z => absurd z no⟩⟩
  have e9 : (line = 0 ∨ line = 1) → zE 151 9 [some (.inr 29), some (.inl line), some (.inl k)] [] (zM h I A) Q := by
    intro hl
    have h38 := (hR.2.2.2.2.2.2 line.toNat (by omega)).1
    rw [yX11_isLetterOf_9 hm]
    by_cases q : k < 0
    · rw [if_pos q]
      exact e27 (by omega)
    · rw [if_neg q, yX11_isLetterOf_13 hm, h38]
      refine ⟨by omega, ?_⟩
      by_cases z : (((l line.toNat).length : Nat) : Int) ≤ k
      · rw [if_pos z]
        exact e27 (by omega)
      · rw [if_neg z, yX11_isLetterOf_23 hm, yX11_isLetterOf_28 hm]
        exact ⟨Or.inr rfl, hQ 1 (Or.inr rfl) ⟨fun _ => ⟨hl, by omega, by omega⟩, fun _ => rfl⟩⟩
  rw [yX11_isLetterOf_0 hm]
  by_cases q : line = 0
  · rw [if_pos q]
    exact e9 (Or.inl q)
  · rw [if_neg q, yX11_isLetterOf_4 hm]
    by_cases z : line = 1
    · rw [if_neg (fun y => y z)]
      exact e9 (Or.inr z)
    · rw [if_pos z]
      exact e27 (by omega)
theorem m_carry {line k how arg : Int} (hm : mOK h) (hR : RepR I A c l) (hG : Good B c l) (hB : B ≤ 50000) (ha : arg < 2147483648)
    (hQ : ∀ I' A', RepR I' A' (carryS c l line k how arg).1 (carryS c l line k how arg).2 → Q (some (.inl (carryA l line k how arg))) (zM h I' A')) {l5 : Option zV} :
    zE 152 0 [some (.inr 29), some (.inl line), some (.inl k), some (.inl how), some (.inl arg), l5] [] (zM h I A) Q := by
  unfold carryS carryA at hQ
  have gv := hG.1
  have hV : (0 ≤ c.1 26 ∧ c.1 26 ≤ B) ∧ c.1 12 ≤ 33 ∧ c.1 20 ≤ 33 ∧ c.1 13 ≤ 1000 := by unfold gV at gv; omega
  have e48 : ¬ carryOK l line k how arg → zE 152 48 [some (.inr 29), some (.inl line), some (.inl k), some (.inl how), some (.inl arg), l5] [] (zM h I A) Q := by
    intro no
    rw [pif_neg no, pif_neg no] at hQ
    rw [yX11_carry_48 hm]
    exact hQ _ _ hR
  rw [yX11_carry_0 hm]
  refine m_isLetterOf hm hR ?_
  intro b hb hb2
  simp only [Option.toList_some, List.cons_append, List.nil_append]
  rw [yX11_carry_6 hm]
  by_cases b1 : b = 1
  · obtain ⟨p1, p2, p3⟩ := hb2.1 b1
    obtain ⟨j, hj⟩ : ∃ n : Nat, line = n := ⟨line.toNat, by omega⟩
    obtain ⟨k', hk'⟩ : ∃ n : Nat, k = n := ⟨k.toNat, by omega⟩
    subst hj hk'
    rw [Int.toNat_natCast] at p3
    have hj2 : j < 2 := by omega
    have h40 := hG.2.2.2.2.2.1
    have h40j := h40 j hj2
    have hlet := hG.letJ hj2 (k := k') (by omega)
    obtain ⟨lb, lw, l10, l1010⟩ := letJ_b hlet hV.2.2.2
    rw [if_neg (by omega), yX11_carry_9 hm]
    by_cases q0 : how < 0
    · rw [if_pos q0]
      exact e48 (fun z => by have := z.2.2.1; omega)
    · rw [if_neg q0, yX11_carry_13 hm]
      by_cases q3 : 3 < how
      · rw [if_pos q3]
        exact e48 (fun z => by have := z.2.2.1; omega)
      · have e50 : carryOK l (j : Int) (k' : Int) how arg → zE 152 50 [some (.inr 29), some (.inl (j : Int)), some (.inl (k' : Int)), some (.inl how), some (.inl arg), l5] [] (zM h I A) Q := by
          intro ok
          rw [pif_pos ok, pif_pos ok, Int.toNat_natCast, Int.toNat_natCast] at hQ
          have hok := ok.2.2.2
          rw [Int.toNat_natCast, Int.toNat_natCast] at hok
          rw [yX11_carry_50 hm]
          refine m_hand hm hR hj2 (by omega) (by omega) ?_
          intro g hg
          simp only [Option.toList_none, List.nil_append]
          have R1 : RepR (fup I 674 (((l j).getD k' []).length : Nat)) (hW A g) c l := hR.fr hV.2.1 hV.2.2.1 (fun f q => fup_n (by omega)) (fun a i q => hW_o (by unfold live at q; omega))
          -- what comes behind the drop
          have e67 : ∀ (A2 : Nat → Nat → Int) (l2 : lg), l2 = carryL l j k' how → RepR (fup I 674 (((l j).getD k' []).length : Nat)) A2 c l2 → Good B c l2 → (∀ q, A2 41 q = hW A g 41 q) → zE 152 67 [some (.inr 29), some (.inl (j : Int)), some (.inl (k' : Int)), some (.inl how), some (.inl arg), l5] [] (zM h (fup I 674 (((l j).getD k' []).length : Nat)) A2) Q := by
            intro A2 l2 el R2 G2 h41
            rw [← el] at hQ
            have hx2 : isLs (A2 41) ((l j).getD k' []) := fun i v z => (h41 i).trans (hW_s.trans (hg i v z))
            have m38 : ∀ (c' : cg) (I' : Nat → Int) (A' : Nat → Nat → Int), RepR I' A' c' l2 → A' 38 j = ((l2 j).length : Nat) := fun c' I' A' R => (R.2.2.2.2.2.2 j hj2).1
            rw [yX11_carry_67 hm]
            unfold carryC at hQ
            by_cases w1 : how = 1
            · have c26 : A2 37 2 = c.1 26 := R2.1.2.2 2 (by omega)
              rw [if_pos w1] at hQ
              have R3 := R2.sN (i := 2) (v := c.1 26 + 1) (by omega)
              rw [if_neg (fun z => z w1), yX11_carry_72 hm, c26, zw_eq (by omega) (by omega), yX11_carry_82 hm, Int.toNat_natCast, m38 _ _ _ R3]
              exact ⟨⟨by omega, by omega⟩, hQ _ _ R3⟩
            · rw [if_neg w1] at hQ
              rw [if_pos w1, yX11_carry_89 hm]
              have e142 : ∀ c' I' A' l5, RepR I' A' c' l2 → (∀ I' A', RepR I' A' c' l2 → Q (some (.inl (((l2 j).length : Nat) : Int))) (zM h I' A')) → zE 152 142 [some (.inr 29), some (.inl (j : Int)), some (.inl (k' : Int)), some (.inl how), some (.inl arg), l5] [] (zM h I' A') Q := by
                intro c' I' A' l5 R hQ
                rw [yX11_carry_142 hm, Int.toNat_natCast, m38 _ _ _ R]
                exact ⟨⟨by omega, by omega⟩, hQ _ _ R⟩
              by_cases w3 : how = 3
              · have hok3 := hok w3
                have t1 : zw (arg.tmod 256) = arg % 256 := by rw [tmod_pos hok3.1, zw_eq (by omega) (by omega)]
                have t2 : zw (arg.tdiv 256) = arg / 256 := by rw [tdiv_pos hok3.1, zw_eq (by omega) (by omega)]
                obtain ⟨i, hi⟩ : ∃ n : Nat, arg / 256 = n := ⟨(arg / 256).toNat, by omega⟩
                have bi := lb.at (i := i) (by omega)
                obtain ⟨x1, x2, x3⟩ := zxor_b (x := ((l j).getD k' []).getD i (-1)) (y := arg % 256) bi (by omega)
                have ai : A2 41 i = ((l j).getD k' []).getD i (-1) := hx2.at (by omega)
                rw [if_neg (fun z => z w3), yX11_carry_94 hm, t1]
                by_cases z0 : arg % 256 = 0
                · rw [if_neg (fun z => z.2 z0)] at hQ
                  have eA : zu A2 41 i (((l j).getD k' []).getD i (-1)) = A2 := by
                    funext a q
                    unfold zu
                    by_cases y : a = 41 ∧ q = i
                    · rw [if_pos y, y.1, y.2, ai]
                    · rw [if_neg y]
                  rw [if_pos z0, yX11_carry_107 hm, yX11_carry_108 hm, if_neg (fun z => z w3), yX11_carry_115 hm, t1, t2, hi, Int.toNat_natCast, ai, x3 z0, eA, yX11_carry_135 hm]
                  refine ⟨⟨by omega, by omega⟩, ⟨by omega, by omega⟩, m_taken hm R2 G2 (by omega) hj2 hx2 fup_s hlet ?_⟩
                  intro I3 A3 R3
                  simp only [Option.toList_none, List.nil_append]
                  exact e142 _ _ _ _ R3 hQ
                · rw [if_pos ⟨w3, z0⟩] at hQ
                  have hx3 : isLs (zu A2 41 i (zxor (((l j).getD k' []).getD i (-1)) (arg % 256)) 41) (((l j).getD k' []).set i (zxor (((l j).getD k' []).getD i (-1)) (arg % 256))) := by
                    have := isLs_set (i := i) (v := zxor (((l j).getD k' []).getD i (-1)) (arg % 256)) hx2
                    intro b w hw
                    have e := this b w hw
                    unfold fup at e
                    unfold zu
                    by_cases y : b = i
                    · rw [if_pos y] at e
                      rw [if_pos ⟨rfl, y⟩]
                      exact e
                    · rw [if_neg y] at e
                      rw [if_neg (fun z => y z.2)]
                      exact e
                  have R3 : RepR (fup I 674 (((l j).getD k' []).length : Nat)) (zu A2 41 i (zxor (((l j).getD k' []).getD i (-1)) (arg % 256))) c l2 := R2.fr hV.2.1 hV.2.2.1 (fun _ _ => rfl) (fun a q z => zu_na (by unfold live at z; omega))
                  rw [if_neg z0, yX11_carry_103 hm, yX11_carry_108 hm, if_neg (fun z => z w3), yX11_carry_115 hm, t1, t2, hi, Int.toNat_natCast, ai, yX11_carry_135 hm]
                  refine ⟨⟨by omega, by omega⟩, ⟨by omega, by omega⟩, m_taken_b hm R3 G2 (by omega) hj2 hx3 (byteL_set lb x1) (by rw [List.length_set]; exact fup_s) (by rw [List.length_set]; omega) (by rw [List.length_set]; omega) (bent_no lb (by omega) (by omega) lw x1 (x2 z0)) ?_⟩
                  intro I4 A4 R4
                  simp only [Option.toList_none, List.nil_append]
                  exact e142 _ _ _ _ R4 hQ
              · rw [if_neg (fun z => w3 z.1)] at hQ
                rw [if_pos w3, yX11_carry_107 hm, yX11_carry_108 hm, if_pos w3, yX11_carry_135 hm]
                refine m_taken hm R2 G2 (by omega) hj2 hx2 fup_s hlet ?_
                intro I3 A3 R3
                simp only [Option.toList_none, List.nil_append]
                exact e142 _ _ _ _ R3 hQ
          rw [yX11_carry_56 hm]
          by_cases w2 : how = 2
          · rw [if_pos w2]
            exact e67 _ l (by unfold carryL; rw [if_pos w2]) R1 hG (fun _ => rfl)
          · rw [if_neg w2, yX11_carry_61 hm]
            refine m_drops hm R1 hj2 (by omega) h40 ?_
            intro A2 R2 h41
            simp only [Option.toList_none, List.nil_append]
            exact e67 _ _ (by unfold carryL; rw [if_neg w2]) R2 (hG.out hj2) h41
        rw [if_neg q3, yX11_carry_18 hm]
        by_cases w3 : how = 3
        · rw [if_neg (fun z => z w3), yX11_carry_23 hm]
          by_cases a0 : arg < 0
          · rw [if_pos a0]
            exact e48 (fun z => by have := z.2.2.2 w3; omega)
          · have m40 := ((hR.2.2.2.2.2.2 j hj2).2 k' (by omega)).1
            rw [if_neg a0, yX11_carry_28 hm, ix40 (by omega) (by omega), Int.toNat_natCast, m40, tdiv_pos (by omega), zw_eq (by omega) (by omega)]
            refine ⟨⟨by omega, by omega⟩, ?_⟩
            by_cases y : arg / 256 < (((l j).getD k' []).length : Nat)
            · rw [if_pos y]
              exact e50 ⟨by omega, ⟨by omega, by rw [Int.toNat_natCast]; omega⟩, by omega, fun _ => ⟨by omega, by rw [Int.toNat_natCast, Int.toNat_natCast]; exact y⟩⟩
            · rw [if_neg y]
              exact e48 (fun z => by have := z.2.2.2 w3; rw [Int.toNat_natCast, Int.toNat_natCast] at this; omega)
        · rw [if_pos w3]
          exact e50 ⟨by omega, ⟨by omega, by rw [Int.toNat_natCast]; omega⟩, by omega, fun z => absurd z w3⟩
  · rw [if_pos (by omega)]
    exact e48 (fun z => b1 (hb2.2 ⟨z.1, z.2.1⟩))
end mRound
