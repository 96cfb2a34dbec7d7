/-! WHAT HOLDS OF WHAT BOTH HOLD; A TICK -/
noncomputable def pif {α : Type} (p : Prop) (a b : α) : α := @ite α p (Classical.propDecidable p) a b
theorem pif_pos {α : Type} {p : Prop} {a b : α} (h : p) : pif p a b = a := if_pos h
theorem pif_neg {α : Type} {p : Prop} {a b : α} (h : ¬ p) : pif p a b = b := if_neg h
def cellsOK (x : sC) : Prop := s_in x ∧ ∀ k, k < 192 → 0 ≤ x.1 k ∧ x.1 k < 512
def gV (B : Int) (V : Nat → Int) : Prop :=
  (0 ≤ V 0 ∧ V 0 ≤ B) ∧ (1 ≤ V 1 ∧ V 1 ≤ 20) ∧ (1 ≤ V 2 ∧ V 2 ≤ 50) ∧ (0 ≤ V 3 ∧ V 3 ≤ 3) ∧ (0 ≤ V 4 ∧ V 4 ≤ 20) ∧ (0 ≤ V 5 ∧ V 5 ≤ 3) ∧ (0 ≤ V 6 ∧ V 6 ≤ V 13) ∧ (0 ≤ V 7 ∧ V 7 + V 12 ≤ V 0 + 1) ∧ (0 ≤ V 9 ∧ V 9 ≤ B) ∧ (V 10 = 0 ∨ V 10 = 1) ∧ (0 ≤ V 11 ∧ V 11 ≤ 255) ∧ (1 ≤ V 12 ∧ V 12 ≤ 32) ∧ (0 ≤ V 13 ∧ V 13 ≤ 1000) ∧ (0 ≤ V 14 ∧ V 14 ≤ V 13) ∧ (0 ≤ V 16 ∧ V 16 ≤ B) ∧ (V 17 = 0 ∨ V 17 = 1) ∧ (1 ≤ V 18 ∧ V 18 ≤ 255) ∧ (1 ≤ V 20 ∧ V 20 ≤ 32) ∧ (0 ≤ V 21 ∧ V 21 ≤ 60) ∧ (1 ≤ V 23 ∧ V 23 ≤ 1 + V 13 + V 32) ∧ (0 ≤ V 24 ∧ V 24 ≤ B) ∧ (0 ≤ V 25 ∧ V 25 ≤ 1100 * V 24) ∧ (0 ≤ V 26 ∧ V 26 ≤ B) ∧ (0 ≤ V 27 ∧ V 27 ≤ B) ∧ (0 ≤ V 28 ∧ V 28 ≤ B) ∧ (0 ≤ V 29 ∧ V 29 ≤ B) ∧ (0 ≤ V 30 ∧ V 30 ≤ B) ∧ 0 ≤ V 31 ∧ (0 ≤ V 32 ∧ V 32 ≤ V 33) ∧ V 31 + V 33 + V 21 ≤ V 13
def gOK (q : Nat → Int) : Prop := ((q 2 = -1 ∧ q 3 = -1) ∨ ((0 ≤ q 2 ∧ q 2 < 192) ∧ 32 ≤ q 3 ∧ q 3 ≤ 126)) ∧ (0 ≤ q 4 ∧ q 4 < 8) ∧ 0 ≤ q 5 ∧ q 5 < 24
/-- the rows of a difference, from byte i on -/
def wfD (xs : List Int) : Nat → Nat → Prop
  | 0, i => i + 2 = xs.length
  | d + 1, i => i + 2 = xs.length ∨ (i + 8 ≤ xs.length ∧ bt xs i < 8 ∧ (bt xs (i + 1) = 0 ∨ bt xs (i + 1) = 1) ∧ bt xs (i + 2) ≤ bt xs (i + 3) ∧ bt xs (i + 3) < 24 ∧ i + lStep xs i + 2 ≤ xs.length ∧ (∀ m : Nat, 6 + 2 * m ≤ lStep xs i → bt xs (i + 4 + 2 * m) < 128 ∧ bt xs (i + 5 + 2 * m) < 4) ∧ wfD xs d (i + lStep xs i))
def let0 (T : Int) (xs : List Int) : Prop := byteL xs ∧ wholeL 75 xs ∧ (xs.length : Int) = 10 + (num xs 4 - num xs 2) ∧ num xs 2 ≤ num xs 4 ∧ num xs 4 ≤ T
def let1 (T : Int) (xs : List Int) : Prop := byteL xs ∧ wholeL 83 xs ∧ 13 ≤ xs.length ∧ xs.length ≤ 1010 ∧ num xs 6 ≤ T ∧ num xs 2 ≤ num xs 4 ∧ num xs 4 ≤ num xs 2 + 31 ∧ bt xs 8 < 8 ∧ bt xs 9 < 24 ∧ bt xs 10 ≤ 8 ∧ wfD xs xs.length 11
def gS (c : cg) : Prop := (∀ i : Nat, (i : Int) < c.1 12 → cellsOK (c.2.2.1 1 i).1 ∧ (c.2.2.1 1 i).2.1 = c.1 7 + i ∧ 0 ≤ (c.2.2.1 1 i).2.2 ∧ (c.2.2.1 1 i).2.2 ≤ c.1 13) ∧ (∀ i : Nat, (i : Int) < c.1 20 → cellsOK (c.2.2.1 0 i).1 ∧ (0 ≤ (c.2.2.1 0 i).2.1 ∧ (c.2.2.1 0 i).2.1 < 65536) ∧ 0 ≤ (c.2.2.1 0 i).2.2 ∧ (c.2.2.1 0 i).2.2 < 65536) ∧ ∀ i j : Nat, i < j → (j : Int) < c.1 20 → (c.2.2.1 0 i).2.1 < (c.2.2.1 0 j).2.1
def Good (B : Int) (c : cg) (l : lg) : Prop := gV B c.1 ∧ cellsOK c.2.1 ∧ gS c ∧ (∀ i : Nat, (i : Int) < c.1 13 → keyOK (c.2.2.2.1 i)) ∧ (∀ i : Nat, (i : Int) < c.1 21 → gOK (c.2.2.2.2 i)) ∧ (∀ j, j < 2 → (l j).length ≤ 40) ∧ (∀ xs ∈ l 0, let0 (c.1 13) xs) ∧ ∀ xs ∈ l 1, let1 (c.1 13) xs
def likeX (x y : sC) : Prop := (∀ k, k < 192 → x.1 k = y.1 k) ∧ x.2.1 = y.2.1 ∧ x.2.2 = y.2.2
def newF (c : cg) : sT := c.2.2.1 1 (c.1 12 - 1).toNat
def newN (c : cg) : sT := c.2.2.1 0 (c.1 20 - 1).toNat
def addS (c : cg) (e k : Nat) (t : sT) : cg := (fup c.1 k (c.1 k + 1), c.2.1, fun x i => if x = e ∧ i = (c.1 k).toNat then t else c.2.2.1 x i, c.2.2.2)
noncomputable def farKeep (c : cg) : cg := pif (c.1 12 < 32 ∧ ¬ (likeX c.2.1 (newF c).1 ∧ (newF c).2.2 = c.1 6)) (addS c 1 12 (c.2.1, (newF c).2.1 + 1, c.1 6)) c
def seld (ys : List Int) : List Int := ys ++ two (sm ys)
def farB (c : cg) : List Int := sHd (c.1 11) (c.1 7) (newF c).2.1 (newF c).2.2 (newF c).1.2.1 (newF c).1.2.2 ++ dDiff (c.2.2.1 1 0).1.1 (newF c).1.1
def nearB (c : cg) : List Int := kHd (c.1 18) (c.1 14) (c.1 13) (newN c).2.1 ++ kL c.2.2.2.1 (c.1 13 - c.1 14).toNat (c.1 14).toNat
def sndC (c : cg) (n len : Nat) : cg := if n < 40 then vS (vS c 24 (c.1 24 + 1)) 25 (c.1 25 + len) else vS (vS (vS c 24 (c.1 24 + 1)) 25 (c.1 25 + len)) 26 (c.1 26 + 1)
def sndL (l : lg) (j : Nat) (xs : List Int) : lg := if (l j).length < 40 then fun i => if i = j then l j ++ [xs] else l i else l
noncomputable def farSend (c : cg) (l : lg) : cg × lg := pif (fDue (c.1 0) (c.1 1) (c.1 2) (c.1 9) (newF c).2.1 (c.1 8) (c.1 10) (c.1 7)) (vS (vS (vS (sndC c (l 1).length (seld (farB c)).length) 9 (c.1 0)) 8 (newF c).2.1) 10 0, sndL l 1 (seld (farB c))) (c, l)
noncomputable def nearSend (c : cg) (l : lg) : cg × lg := pif (nDue (c.1 0) (c.1 1) (c.1 2) (c.1 16) (c.1 13) (c.1 15) (c.1 17) (c.1 14)) (vS (vS (vS (sndC c (l 0).length (seld (nearB c)).length) 16 (c.1 0)) 15 (c.1 13)) 17 0, sndL l 0 (seld (nearB c))) (c, l)
noncomputable def farTick (c : cg) (l : lg) : cg × lg := farSend (farKeep c) l
noncomputable def tickS (c : cg) (l : lg) : cg × lg := nearSend (farTick (vS c 0 (c.1 0 + 1)) l).1 (farTick (vS c 0 (c.1 0 + 1)) l).2
/-- a letter that comes to a line -/
def cpL (A : Nat → Nat → Int) (p k : Nat) (g : Nat → Int) : Nat → Nat → Int := fun a i => if a = 39 ∧ 1100 * p ≤ i ∧ i < 1100 * p + k then g (i - 1100 * p) else A a i
section mSend
variable {h : zH} {I : Nat → Int} {A : Nat → Nat → Int} {c : cg} {l : lg} {g : Nat → Int} {ys xs : List Int} {Q : Option zV → zH → Prop}
theorem cpL_0 {p : Nat} : cpL A p 0 g = A := by
  funext a i
  exact if_neg (by omega)
theorem cpL_s {p k : Nat} : zu (cpL A p k g) 39 (1100 * p + k) (g k) = cpL A p (k + 1) g := by
  funext a i
  by_cases hi : a = 39 ∧ i = 1100 * p + k
  · obtain ⟨rfl, rfl⟩ := hi
    rw [zu_s]
    unfold cpL
    rw [if_pos (by omega), show 1100 * p + k - 1100 * p = k by omega]
  · have e : zu (cpL A p k g) 39 (1100 * p + k) (g k) a i = cpL A p k g a i := if_neg hi
    rw [e]
    unfold cpL
    by_cases hr : a = 39 ∧ 1100 * p ≤ i ∧ i < 1100 * p + k
    · rw [if_pos hr, if_pos (by omega)]
    · rw [if_neg hr, if_neg (by omega)]
theorem cpL_o {a i p k : Nat} (ha : a ≠ 39) : cpL A p k g a i = A a i := if_neg (fun q => ha q.1)
theorem cpL_n {i p k : Nat} (hi : ¬ (1100 * p ≤ i ∧ i < 1100 * p + k)) : cpL A p k g 39 i = A 39 i := if_neg (fun q => hi q.2)
theorem mS_o {A' : Nat → Nat → Int} {s : Nat} {x : sC} (hA : ∀ a i, a < 34 → A' a i = A a i) (hS : mS A s x) : mS A' s x :=
  ⟨fun k hk => ⟨(hA _ _ (by omega)).trans (hS.1 k hk).1, (hA _ _ (by omega)).trans (hS.1 k hk).2⟩, (hA _ _ (by omega)).trans hS.2.1, (hA _ _ (by omega)).trans hS.2.2⟩
theorem mT_o {A' : Nat → Nat → Int} {s : Nat} {x : sT} (hA : ∀ a i, a < 36 → A' a i = A a i) (hS : mT A s x) : mT A' s x :=
  ⟨mS_o (fun a i q => hA a i (by omega)) hS.1, (hA _ _ (by omega)).trans hS.2.1, (hA _ _ (by omega)).trans hS.2.2⟩
/-- the lines alone -/
theorem RepR.sLn {A' : Nat → Nat → Int} {l' : lg} (hR : RepR I A c l) (hA : ∀ a i, a ≠ 38 → a ≠ 39 → a ≠ 40 → A' a i = A a i) (hL : ∀ j, j < 2 → A' 38 j = (l' j).length ∧ ∀ k, k < (l' j).length → mL A' (40 * j + k) ((l' j).getD k [])) : RepR I A' c l' := by
  obtain ⟨⟨a1, a2, a3⟩, a4, a5, a6, a7, a8, a9⟩ := hR
  exact ⟨⟨a1, a2, fun i hi => (hA _ _ (by omega) (by omega) (by omega)).trans (a3 i hi)⟩, mS_o (fun a i q => hA a i (by omega) (by omega) (by omega)) a4, fun i hi => mT_o (fun a i q => hA a i (by omega) (by omega) (by omega)) (a5 i hi), fun i hi => mT_o (fun a i q => hA a i (by omega) (by omega) (by omega)) (a6 i hi), fun i hi => (hA _ _ (by omega) (by omega) (by omega)).trans (a7 i hi), fun i hi q hq => (hA _ _ (by omega) (by omega) (by omega)).trans (a8 i hi q hq), hL⟩
theorem getD_app {α : Type} {xs : List α} {y d : α} {k : Nat} (hk : k < xs.length) : (xs ++ [y]).getD k d = xs.getD k d := by
  rw [List.getD_eq_getElem?_getD, List.getD_eq_getElem?_getD, List.getElem?_append_left hk]
theorem getD_last {α : Type} {xs : List α} {y d : α} : (xs ++ [y]).getD xs.length d = y := by
  rw [List.getD_eq_getElem?_getD, List.getElem?_append_right (Nat.le_refl _), Nat.sub_self]
  rfl
theorem RepR.addL {j : Nat} (hR : RepR I A c l) (hj : j < 2) (hn : (l j).length < 40) (h40 : ∀ i, i < 2 → (l i).length ≤ 40) (hx : xs.length ≤ 1100) (hg : isLs g xs) : RepR I (zu (zu (cpL A (40 * j + (l j).length) xs.length g) 40 (40 * j + (l j).length) xs.length) 38 j ((l j).length + 1)) c (sndL l j xs) := by
  have eL : sndL l j xs = fun i => if i = j then l j ++ [xs] else l i := if_pos hn
  have a9 := hR.2.2.2.2.2.2
  rw [eL]
  refine hR.sLn (fun a i q1 q2 q3 => by rw [zu_na q1, zu_na q3, cpL_o q2]) (fun i hi => ?_)
  obtain ⟨b1, b2⟩ := a9 i hi
  have hold : ∀ k, k < (l i).length → 40 * i + k ≠ 40 * j + (l j).length → mL (zu (zu (cpL A (40 * j + (l j).length) xs.length g) 40 (40 * j + (l j).length) xs.length) 38 j ((l j).length + 1)) (40 * i + k) ((l i).getD k []) := by
    intro k hk hne
    obtain ⟨d1, d2, d3⟩ := b2 k hk
    refine ⟨?_, d2, fun q v hv => ?_⟩
    · rw [zu_na (by decide), zu_ni hne, cpL_o (by decide)]
      exact d1
    · have hq : q < ((l i).getD k []).length := by
        rcases Nat.lt_or_ge q ((l i).getD k []).length with z | z
        · exact z
        · rw [List.getElem?_eq_none z] at hv
          cases hv
      rw [zu_na (by decide), zu_na (by decide), cpL_n (by omega)]
      exact d3 q v hv
  by_cases e : i = j
  · subst e
    rw [if_pos rfl]
    refine ⟨?_, fun k hk => ?_⟩
    · rw [zu_s, List.length_append, List.length_singleton]
      omega
    · rw [List.length_append, List.length_singleton] at hk
      by_cases ek : k = (l i).length
      · subst ek
        rw [getD_last]
        refine ⟨?_, hx, fun q v hv => ?_⟩
        · rw [zu_na (by decide), zu_s]
        · have hq : q < xs.length := by
            rcases Nat.lt_or_ge q xs.length with z | z
            · exact z
            · rw [List.getElem?_eq_none z] at hv
              cases hv
          rw [zu_na (by decide), zu_na (by decide)]
          unfold cpL
          rw [if_pos (by omega), show 1100 * (40 * i + (l i).length) + q - 1100 * (40 * i + (l i).length) = q by omega]
          exact hg q v hv
      · rw [getD_app (by omega)]
        exact hold k (by omega) (by omega)
  · rw [if_neg e]
    have := h40 i hi
    have hj40 := h40 j hj
    refine ⟨?_, fun k hk => hold k hk (by omega)⟩
    rw [zu_ni e, zu_na (by decide), cpL_o (by decide)]
    exact b1
theorem m_sends_l {p : Nat} (hm : mOK h) (hp : p < 80) (hsz : I 674 = xs.length) (hx : xs.length ≤ 1100) (hg : ∀ i, i < xs.length → A 41 i = g i) {l1 : Option zV}
    (hQ : ∀ l3, zE 131 103 [some (.inr 29), l1, some (.inl (p : Int)), l3] [] (zM h I (cpL A p xs.length g)) Q) :
    ∀ (d k : Nat), k + d = xs.length → zE 131 71 [some (.inr 29), l1, some (.inl (p : Int)), some (.inl (k : Int))] [] (zM h I (cpL A p k g)) Q := by
  intro d
  induction d with
  | zero =>
    intro k hk
    have e : k = xs.length := by omega
    subst e
    rw [yX11_sends_71 hm, hsz, if_pos (by omega)]
    exact hQ _
  | succ d ih =>
    intro k hk
    have i1 : zw (zw (1100 * (p : Int)) + (k : Int)) = ((1100 * p + k : Nat) : Int) := by
      rw [zw_eq (x := 1100 * (p : Int)) (by omega) (by omega), zw_eq (by omega) (by omega)]
      omega
    rw [yX11_sends_71 hm, hsz, if_neg (by omega), yX11_sends_79 hm, i1, Int.toNat_natCast, Int.toNat_natCast, cpL_o (by decide), hg k (by omega), cpL_s, yX11_sends_97 hm, zw_eq (by omega) (by omega)]
    exact ⟨⟨by omega, by omega⟩, ⟨by omega, by omega⟩, ih (k + 1) (by omega)⟩
theorem m_sends {B : Int} {j : Nat} (hm : mOK h) (hR : RepR I A c l) (hG : Good B c l) (hB : B ≤ 1000000) (hj : j < 2) (hsz : I 674 = ys.length) (hg : isLs (A 41) ys) (hy : byteL ys) (hl : ys.length + 2 ≤ 1010)
    (hQ : ∀ I' A', RepR I' A' (sndC c (l j).length (seld ys).length) (sndL l j (seld ys)) → (∀ k, k < 24 → I' (fM k) = I (fM k)) → (∀ a i, 32 ≤ a → a ≤ 35 → A' a i = A a i) → Q none (zM h I' A')) {l2 l3 : Option zV} :
    zE 131 0 [some (.inr 29), some (.inl (j : Int)), l2, l3] [] (zM h I A) Q := by
  obtain ⟨gv, -, -, -, -, g40, -, -⟩ := hG
  have hs := sm_in ys
  rw [yX11_sends_0 hm, hsz]
  refine m_sumOf hm hg hy (Nat.le_refl _) (by omega) ?_
  rw [List.take_length]
  simp only [Option.toList_some, List.cons_append, List.nil_append]
  have eI : I = fup I 674 ys.length := (fup_id hsz).symm
  have eA : A = hW A (A 41) := hW_id.symm
  rw [yX11_sends_9 hm, eI, eA]
  refine m_addsTwo hm (by omega) hg (by omega) ?_
  intro g1 q1
  simp only [Option.toList_none, List.nil_append]
  show zE 131 12 _ [] (zM h (fup I 674 ((seld ys).length : Nat)) (hW A g1)) Q
  have q1' : isLs g1 (seld ys) := q1
  have hlen : (seld ys).length = ys.length + 2 := by
    unfold seld two
    rw [List.length_append]
    rfl
  have h12 : c.1 12 ≤ 33 := by unfold gV at gv; omega
  have h20 : c.1 20 ≤ 33 := by unfold gV at gv; omega
  have g24 : 0 ≤ c.1 24 ∧ c.1 24 ≤ B := by unfold gV at gv; omega
  have g25 : 0 ≤ c.1 25 ∧ c.1 25 ≤ 1100 * c.1 24 := by unfold gV at gv; omega
  have g26 : 0 ≤ c.1 26 ∧ c.1 26 ≤ B := by unfold gV at gv; omega
  have R1 : RepR (fup I 674 ((seld ys).length : Nat)) (hW A g1) c l := hR.fr h12 h20 (fun f q => fup_n (by omega)) (fun a i q => hW_o (by unfold live at q; omega))
  have c0 : hW A g1 37 0 = c.1 24 := R1.1.2.2 0 (by omega)
  have c1 : hW A g1 37 1 = c.1 25 := R1.1.2.2 1 (by omega)
  have c2 : hW A g1 37 2 = c.1 26 := R1.1.2.2 2 (by omega)
  rw [yX11_sends_12 hm, c0, zw_eq (by omega) (by omega), yX11_sends_22 hm, zu_ni (by decide), c1, fup_s, zw_eq (by omega) (by omega), yX11_sends_35 hm, Int.toNat_natCast]
  have R2 := (R1.sN (i := 0) (v := c.1 24 + 1) (by omega)).sN (i := 1) (v := c.1 25 + ((seld ys).length : Nat)) (by omega)
  have m1 : zu (zu (hW A g1) 37 0 (c.1 24 + 1)) 37 1 (c.1 25 + ((seld ys).length : Nat)) 38 j = (l j).length := (R2.2.2.2.2.2.2 j hj).1
  rw [m1]
  refine ⟨⟨by omega, by omega⟩, ?_⟩
  have g40' := g40 j hj
  by_cases e : (l j).length = 40
  · rw [if_neg (by omega), yX11_sends_46 hm, zu_ni (by decide), zu_ni (by decide), c2, zw_eq (by omega) (by omega), yX11_sends_56 hm]
    refine hQ _ _ ?_ (fun k hk => fup_n ?_) (fun a i q1 q2 => ?_)
    · have R3 := R2.sN (i := 2) (v := c.1 26 + 1) (by omega)
      have eC : sndC c (l j).length (seld ys).length = vS (vS (vS c 24 (c.1 24 + 1)) 25 (c.1 25 + ((seld ys).length : Nat))) 26 (c.1 26 + 1) := if_neg (by omega)
      have eL : sndL l j (seld ys) = l := if_neg (by omega)
      rw [eC, eL]
      exact R3
    · have := fM_r k hk
      omega
    · rw [zu_na (by omega), zu_na (by omega), zu_na (by omega), hW_o (by omega)]
  · have ip : zw (zw (40 * (j : Int)) + ((l j).length : Nat)) = ((40 * j + (l j).length : Nat) : Int) := by
      rw [zw_eq (x := 40 * (j : Int)) (by omega) (by omega), zw_eq (by omega) (by omega)]
      omega
    rw [if_pos (by omega), yX11_sends_57 hm, Int.toNat_natCast, m1, ip]
    refine ⟨⟨by omega, by omega⟩, ?_⟩
    have key := m_sends_l (h := h) (I := fup I 674 ((seld ys).length : Nat)) (A := zu (zu (hW A g1) 37 0 (c.1 24 + 1)) 37 1 (c.1 25 + ((seld ys).length : Nat))) (g := g1) (xs := seld ys) (p := 40 * j + (l j).length) (l1 := some (.inl (j : Int))) (Q := Q) hm (by omega) fup_s (by omega) (fun i hi => by rw [zu_na (by decide), zu_na (by decide), hW_s]) ?_ (seld ys).length 0 (by omega)
    · rw [cpL_0] at key
      exact key
    · intro l3
      have R3 := R2.addL (g := g1) hj (by omega) g40 (by omega) q1'
      have m2 : (zu (cpL (zu (zu (hW A g1) 37 0 (c.1 24 + 1)) 37 1 (c.1 25 + ((seld ys).length : Nat))) (40 * j + (l j).length) (seld ys).length g1) 40 (40 * j + (l j).length) ((seld ys).length : Nat)) 38 j = (l j).length := by
        rw [zu_na (by decide), cpL_o (by decide)]
        exact m1
      rw [yX11_sends_103 hm, fup_s, Int.toNat_natCast, yX11_sends_113 hm, Int.toNat_natCast, m2, zw_eq (by omega) (by omega), yX11_sends_123 hm]
      refine ⟨⟨by omega, by omega⟩, ⟨by omega, by omega⟩, ⟨by omega, by omega⟩, hQ _ _ ?_ (fun k hk => fup_n ?_) (fun a i q1 q2 => ?_)⟩
      · have eC : sndC c (l j).length (seld ys).length = vS (vS c 24 (c.1 24 + 1)) 25 (c.1 25 + ((seld ys).length : Nat)) := if_pos (by omega)
        rw [eC]
        exact R3
      · have := fM_r k hk
        omega
      · rw [zu_na (by omega), zu_na (by omega), cpL_o (by omega), zu_na (by omega), zu_na (by omega), hW_o (by omega)]
end mSend
