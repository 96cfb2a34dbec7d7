/-! WHAT THE CLASS AND THE MODEL BOTH HOLD: numbers V (0 clock, 1 frame, 2 again; far 3 program, 4 passed, 5 pen, 6 took, 7 sure, 8 sent, 9 last, 10 owes, 11 address, 12 states; near 13 keys, 14 known, 15 sent, 16 last, 17 owes, 18 address, 19 told, 20 states; 21 guesses, 22 confirmed, 23 age; 24.. sent, bytes, lost, bent, hanging, taken, forged, right, wrong, taken back), the far screen, states (0 near, 1 far), keys, guesses; and the letters of the two lines -/
abbrev sT : Type := sC × Int × Int
abbrev cg : Type := (Nat → Int) × sC × (Nat → Nat → sT) × (Nat → Int) × (Nat → Nat → Int)
abbrev lg : Type := Nat → List (List Int)
def vS (c : cg) (k : Nat) (v : Int) : cg := (fup c.1 k v, c.2)
def xS (c : cg) (x : sC) : cg := (c.1, x, c.2.2)
/-- the model's fields, by number -/
def fM (k : Nat) : Nat := [651, 649, 650, 647, 648, 646, 652, 653, 656, 655, 657, 658, 654, 661, 662, 665, 664, 666, 667, 668, 663, 677, 678, 679].getD k 0
def mT (A : Nat → Nat → Int) (s : Nat) (t : sT) : Prop := mS A s t.1 ∧ A 34 s = t.2.1 ∧ A 35 s = t.2.2
def mL (A : Nat → Nat → Int) (p : Nat) (xs : List Int) : Prop := A 40 p = xs.length ∧ xs.length ≤ 1100 ∧ ∀ (i : Nat) (v : Int), xs[i]? = some v → A 39 (1100 * p + i) = v
def RepR (I : Nat → Int) (A : Nat → Nat → Int) (c : cg) (l : lg) : Prop :=
  ((∀ k, k < 24 → I (fM k) = c.1 k) ∧ I 659 = c.1 6 ∧ ∀ i, i < 10 → A 37 i = c.1 (24 + i)) ∧ mS A 0 c.2.1 ∧
  (∀ i : Nat, (i : Int) < c.1 12 → mT A (1 + i) (c.2.2.1 1 i)) ∧ (∀ i : Nat, (i : Int) < c.1 20 → mT A (34 + i) (c.2.2.1 0 i)) ∧
  (∀ i : Nat, (i : Int) < c.1 13 → A 36 i = c.2.2.2.1 i) ∧
  (∀ i : Nat, (i : Int) < c.1 21 → ∀ q, q < 6 → A (42 + q) i = c.2.2.2.2 i q) ∧
  ∀ j, j < 2 → A 38 j = (l j).length ∧ ∀ k, k < (l j).length → mL A (40 * j + k) ((l j).getD k [])
theorem fM_inj : ∀ j, j < 24 → ∀ k, k < 24 → fM j = fM k → j = k := by decide +kernel
theorem fM_r : ∀ k, k < 24 → fM k ≠ 659 ∧ (646 ≤ fM k ∧ fM k ≤ 668 ∨ 677 ≤ fM k ∧ fM k ≤ 679) := by decide +kernel
/-- what the model's state is read from -/
def live (a i : Nat) : Prop := ((a = 30 ∨ a = 31) ∧ i < 12864) ∨ ((32 ≤ a ∧ a ≤ 35) ∧ i < 67) ∨ (36 ≤ a ∧ a < 48 ∧ a ≠ 41)
section mRep
variable {I I' : Nat → Int} {A A' : Nat → Nat → Int} {c : cg} {l : lg}
theorem mS_fr {s : Nat} {x : sC} (hs : s < 67) (hA : ∀ a i, live a i → A' a i = A a i) (h : mS A s x) : mS A' s x :=
  ⟨fun k hk => ⟨(hA _ _ (Or.inl ⟨Or.inl rfl, by omega⟩)).trans (h.1 k hk).1, (hA _ _ (Or.inl ⟨Or.inr rfl, by omega⟩)).trans (h.1 k hk).2⟩, (hA _ _ (Or.inr (Or.inl ⟨by omega, hs⟩))).trans h.2.1, (hA _ _ (Or.inr (Or.inl ⟨by omega, hs⟩))).trans h.2.2⟩
theorem mT_fr {s : Nat} {x : sT} (hs : s < 67) (hA : ∀ a i, live a i → A' a i = A a i) (h : mT A s x) : mT A' s x :=
  ⟨mS_fr hs hA h.1, (hA _ _ (Or.inr (Or.inl ⟨by omega, hs⟩))).trans h.2.1, (hA _ _ (Or.inr (Or.inl ⟨by omega, hs⟩))).trans h.2.2⟩
theorem RepR.fr (hR : RepR I A c l) (h12 : c.1 12 ≤ 33) (h20 : c.1 20 ≤ 33) (hI : ∀ f, f ≤ 668 ∨ 677 ≤ f → I' f = I f) (hA : ∀ a i, live a i → A' a i = A a i) : RepR I' A' c l := by
  obtain ⟨⟨a1, a2, a3⟩, a4, a5, a6, a7, a8, a9⟩ := hR
  refine ⟨⟨fun k hk => ?_, (hI _ (by omega)).trans a2, fun i hi => (hA _ _ (Or.inr (Or.inr (by omega)))).trans (a3 i hi)⟩, mS_fr (by omega) hA a4, fun i hi => mT_fr (by omega) hA (a5 i hi), fun i hi => mT_fr (by omega) hA (a6 i hi), fun i hi => (hA _ _ (Or.inr (Or.inr (by omega)))).trans (a7 i hi), fun i hi q hq => (hA _ _ (Or.inr (Or.inr (by omega)))).trans (a8 i hi q hq), fun j hj => ⟨(hA _ _ (Or.inr (Or.inr (by omega)))).trans (a9 j hj).1, fun k hk => ?_⟩⟩
  · have := fM_r k hk
    exact (hI _ (by omega)).trans (a1 k hk)
  · obtain ⟨b1, b2, b3⟩ := (a9 j hj).2 k hk
    exact ⟨(hA _ _ (Or.inr (Or.inr (by omega)))).trans b1, b2, fun i v hv => (hA _ _ (Or.inr (Or.inr (by omega)))).trans (b3 i v hv)⟩
theorem RepR.ext {V' : Nat → Int} (hR : RepR I A c l) (hV : ∀ k, k < 34 → V' k = c.1 k) : RepR I A (V', c.2) l := by
  obtain ⟨⟨a1, a2, a3⟩, a4, a5, a6, a7, a8, a9⟩ := hR
  refine ⟨⟨fun k hk => (a1 k hk).trans (hV k (by omega)).symm, a2.trans (hV 6 (by omega)).symm, fun i hi => (a3 i hi).trans (hV _ (by omega)).symm⟩, a4, fun i hi => a5 i ?_, fun i hi => a6 i ?_, fun i hi => a7 i ?_, fun i hi => a8 i ?_, a9⟩
  · have e : V' 12 = c.1 12 := hV 12 (by omega)
    dsimp only at hi; omega
  · have e : V' 20 = c.1 20 := hV 20 (by omega)
    dsimp only at hi; omega
  · have e : V' 13 = c.1 13 := hV 13 (by omega)
    dsimp only at hi; omega
  · have e : V' 21 = c.1 21 := hV 21 (by omega)
    dsimp only at hi; omega
/-- a number of its own -/
theorem RepR.sI {k : Nat} {v : Int} (hR : RepR I A c l) (hk : k < 24) (h6 : k ≠ 6) (h12 : k ≠ 12) (h13 : k ≠ 13) (h20 : k ≠ 20) (h21 : k ≠ 21) : RepR (fup I (fM k) v) A (vS c k v) l := by
  obtain ⟨⟨a1, a2, a3⟩, a4, a5, a6, a7, a8, a9⟩ := hR
  refine ⟨⟨fun j hj => ?_, ?_, fun i hi => ?_⟩, a4, fun i hi => a5 i ?_, fun i hi => a6 i ?_, fun i hi => a7 i ?_, fun i hi => a8 i ?_, a9⟩
  · show fup I (fM k) v (fM j) = fup c.1 k v j
    by_cases e : j = k
    · subst e; rw [fup_s, fup_s]
    · rw [fup_n e, fup_n (fun q => e (fM_inj j hj k hk q))]
      exact a1 j hj
  · show fup I (fM k) v 659 = fup c.1 k v 6
    rw [fup_n (fun q => (fM_r k hk).1 q.symm), fup_n (Ne.symm h6)]
    exact a2
  · show A 37 i = fup c.1 k v (24 + i)
    rw [fup_n (by omega)]
    exact a3 i hi
  · have e : (vS c k v).1 12 = c.1 12 := fup_n (Ne.symm h12)
    rwa [e] at hi
  · have e : (vS c k v).1 20 = c.1 20 := fup_n (Ne.symm h20)
    rwa [e] at hi
  · have e : (vS c k v).1 13 = c.1 13 := fup_n (Ne.symm h13)
    rwa [e] at hi
  · have e : (vS c k v).1 21 = c.1 21 := fup_n (Ne.symm h21)
    rwa [e] at hi
/-- a count -/
theorem RepR.sN {i : Nat} {v : Int} (hR : RepR I A c l) (hi : i < 10) : RepR I (zu A 37 i v) (vS c (24 + i) v) l := by
  obtain ⟨⟨a1, a2, a3⟩, a4, a5, a6, a7, a8, a9⟩ := hR
  refine ⟨⟨fun j hj => ?_, ?_, fun j hj => ?_⟩, mS_zu (by omega) a4, fun j hj => ?_, fun j hj => ?_, fun j hj => ?_, fun j hj q hq => ?_, fun j hj => ⟨(zu_na (by omega)).trans (a9 j hj).1, fun k hk => ?_⟩⟩
  · show I (fM j) = fup c.1 (24 + i) v j
    rw [fup_n (by omega)]
    exact a1 j hj
  · show I 659 = fup c.1 (24 + i) v 6
    rw [fup_n (by omega)]
    exact a2
  · show zu A 37 i v 37 j = fup c.1 (24 + i) v (24 + j)
    by_cases e : j = i
    · subst e; rw [zu_s, fup_s]
    · rw [zu_ni e, fup_n (by omega)]
      exact a3 j hj
  · have e : (vS c (24 + i) v).1 12 = c.1 12 := fup_n (by omega)
    rw [e] at hj
    obtain ⟨b1, b2, b3⟩ := a5 j hj
    exact ⟨mS_zu (by omega) b1, (zu_na (by omega)).trans b2, (zu_na (by omega)).trans b3⟩
  · have e : (vS c (24 + i) v).1 20 = c.1 20 := fup_n (by omega)
    rw [e] at hj
    obtain ⟨b1, b2, b3⟩ := a6 j hj
    exact ⟨mS_zu (by omega) b1, (zu_na (by omega)).trans b2, (zu_na (by omega)).trans b3⟩
  · have e : (vS c (24 + i) v).1 13 = c.1 13 := fup_n (by omega)
    rw [e] at hj
    exact (zu_na (by omega)).trans (a7 j hj)
  · have e : (vS c (24 + i) v).1 21 = c.1 21 := fup_n (by omega)
    rw [e] at hj
    exact (zu_na (by omega)).trans (a8 j hj q hq)
  · obtain ⟨b1, b2, b3⟩ := (a9 j hj).2 k hk
    exact ⟨(zu_na (by omega)).trans b1, b2, fun i v hv => (zu_na (by omega)).trans (b3 i v hv)⟩
/-- the far screen -/
theorem RepR.sX {x : sC} (hR : RepR I A c l) : RepR I (mW A 0 x) (xS c x) l := by
  obtain ⟨⟨a1, a2, a3⟩, a4, a5, a6, a7, a8, a9⟩ := hR
  refine ⟨⟨a1, a2, fun i hi => (mW_o (by omega)).trans (a3 i hi)⟩, mS_W, fun i hi => ?_, fun i hi => ?_, fun i hi => (mW_o (by omega)).trans (a7 i hi), fun i hi q hq => (mW_o (by omega)).trans (a8 i hi q hq), fun j hj => ⟨(mW_o (by omega)).trans (a9 j hj).1, fun k hk => ?_⟩⟩
  · obtain ⟨b1, b2, b3⟩ := a5 i hi
    exact ⟨mS_n (by omega) b1, (mW_o (by omega)).trans b2, (mW_o (by omega)).trans b3⟩
  · obtain ⟨b1, b2, b3⟩ := a6 i hi
    exact ⟨mS_n (by omega) b1, (mW_o (by omega)).trans b2, (mW_o (by omega)).trans b3⟩
  · obtain ⟨b1, b2, b3⟩ := (a9 j hj).2 k hk
    exact ⟨(mW_o (by omega)).trans b1, b2, fun i v hv => (mW_o (by omega)).trans (b3 i v hv)⟩
/-- TOOK, with the most keys told -/
theorem RepR.sTk {v : Int} (hR : RepR I A c l) : RepR (fup (fup I 652 v) 659 v) A (vS c 6 v) l := by
  obtain ⟨⟨a1, a2, a3⟩, a4, a5, a6, a7, a8, a9⟩ := hR
  refine ⟨⟨fun j hj => ?_, ?_, fun i hi => ?_⟩, a4, a5, a6, a7, a8, a9⟩
  · show fup (fup I 652 v) 659 v (fM j) = fup c.1 6 v j
    rw [fup_n (fM_r j hj).1]
    by_cases e : j = 6
    · subst e; rw [fup_s]; exact fup_s
    · have ne : fM j ≠ 652 := fun q => e (fM_inj j hj 6 (by omega) q)
      rw [fup_n e, fup_n ne]
      exact a1 j hj
  · show fup (fup I 652 v) 659 v 659 = fup c.1 6 v 6
    rw [fup_s, fup_s]
  · show A 37 i = fup c.1 6 v (24 + i)
    rw [fup_n (by omega)]
    exact a3 i hi
end mRep
/-- the model's hand: letters are made and read there -/
def hW (A : Nat → Nat → Int) (g : Nat → Int) : Nat → Nat → Int := fun a i => if a = 41 then g i else A a i
section mHand
variable {h : zH} {I : Nat → Int} {A : Nat → Nat → Int} {g g' : Nat → Int} {ys : List Int} {Q : Option zV → zH → Prop}
theorem hW_s {i : Nat} : hW A g 41 i = g i := if_pos rfl
theorem hW_o {a i : Nat} (ha : a ≠ 41) : hW A g a i = A a i := if_neg ha
theorem hW_id : hW A (A 41) = A := by
  funext a i
  unfold hW
  by_cases q : a = 41
  · rw [if_pos q, q]
  · rw [if_neg q]
theorem hW_W : hW (hW A g) g' = hW A g' := by
  funext a i
  unfold hW
  by_cases q : a = 41
  · rw [if_pos q, if_pos q]
  · rw [if_neg q, if_neg q, if_neg q]
theorem hW_zu {i : Nat} {v : Int} : zu (hW A g) 41 i v = hW A (fup g i v) := by
  funext a j
  show (if a = 41 ∧ j = i then v else if a = 41 then g j else A a j) = if a = 41 then (if j = i then v else g j) else A a j
  by_cases h1 : a = 41 <;> by_cases h2 : j = i <;> simp [h1, h2]
theorem m_adds {v : Int} (hm : mOK h) (hl : ys.length < 1100) (hg : isLs g ys) (hQ : ∀ g', isLs g' (ys ++ [v]) → Q none (zM h (fup I 674 ((ys ++ [v]).length : Nat)) (hW A g'))) : zE 128 0 [some (.inr 29), some (.inl v)] [] (zM h (fup I 674 ys.length) (hW A g)) Q := by
  have q := hQ _ hg.app
  rw [List.length_append, List.length_singleton] at q
  rw [yX11_adds_0 hm, fup_s, Int.toNat_natCast, hW_zu, yX11_adds_10 hm, fup_s, fup_two, yX11_adds_20 hm, zw_eq (by omega) (by omega)]
  exact ⟨⟨by omega, by omega⟩, q⟩
theorem m_addsTwo {v : Int} (hm : mOK h) (hl : ys.length + 1 < 1100) (hg : isLs g ys) (hv : 0 ≤ v ∧ v < 65536) (hQ : ∀ g', isLs g' (ys ++ two v) → Q none (zM h (fup I 674 ((ys ++ two v).length : Nat)) (hW A g'))) : zE 129 0 [some (.inr 29), some (.inl v)] [] (zM h (fup I 674 ys.length) (hW A g)) Q := by
  rw [yX11_addsTwo_0 hm, tdiv_pos hv.1, zw_eq (by omega) (by omega)]
  refine m_adds hm (by omega) hg ?_
  intro g1 q1
  simp only [Option.toList_none, List.nil_append]
  rw [yX11_addsTwo_9 hm, tmod_pos hv.1, zw_eq (by omega) (by omega)]
  refine m_adds hm (by rw [List.length_append, List.length_singleton]; omega) q1 ?_
  intro g2 q2
  simp only [Option.toList_none, List.nil_append]
  rw [yX11_addsTwo_18 hm]
  rw [List.append_assoc] at q2 ⊢
  exact hQ g2 q2
theorem m_sumOf_l {k : Nat} (hm : mOK h) (hg : isLs (A 41) ys) (hB : byteL ys) (hk : k ≤ ys.length) (hl : ys.length ≤ 1100) (hQ : Q (some (.inl (sm (ys.take k)))) (zM h I A)) : ∀ (d i : Nat), i + d = k → zE 130 4 [some (.inr 29), some (.inl (k : Int)), some (.inl (sm (ys.take i))), some (.inl (i : Int))] [] (zM h I A) Q := by
  intro d
  induction d with
  | zero =>
    intro i hi
    have e : i = k := by omega
    subst e
    rw [yX11_sumOf_4 hm, if_pos (by omega), yX11_sumOf_30 hm]
    exact hQ
  | succ d ih =>
    intro i hi
    have e1 := hg.at (i := i) (by omega)
    have b1 := hB.at (i := i) (by omega)
    have s1 := sm_in (ys.take i)
    have e2 := sm_app (ys.take i) (ys.getD i (-1))
    rw [← take_succ_getD (by omega)] at e2
    rw [yX11_sumOf_4 hm, if_neg (by omega), yX11_sumOf_9 hm, Int.toNat_natCast, e1, zw_eq (x := 31 * sm (ys.take i)) (by omega) (by omega), zw_eq (x := 31 * sm (ys.take i) + ys.getD i (-1)) (by omega) (by omega), tmod_pos (by omega), zw_eq (by omega) (by omega), ← e2, zw_eq (by omega) (by omega)]
    exact ⟨⟨by omega, by omega⟩, ih (i + 1) (by omega)⟩
theorem m_sumOf {k : Nat} (hm : mOK h) (hg : isLs (A 41) ys) (hB : byteL ys) (hk : k ≤ ys.length) (hl : ys.length ≤ 1100) (hQ : Q (some (.inl (sm (ys.take k)))) (zM h I A)) {l2 l3 : Option zV} : zE 130 0 [some (.inr 29), some (.inl (k : Int)), l2, l3] [] (zM h I A) Q := by
  rw [yX11_sumOf_0 hm]
  exact m_sumOf_l hm hg hB hk hl hQ k 0 (by omega)
end mHand
