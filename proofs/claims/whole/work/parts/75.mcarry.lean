/-! THE MODEL'S LINES: a letter into the hand, a letter dropped -/
def outL (l : lg) (j k : Nat) : lg := fun i => if i = j then (l j).eraseIdx k else l i
section mCarry
variable {h : zH} {I : Nat → Int} {A A' : Nat → Nat → Int} {c : cg} {l : lg} {Q : Option zV → zH → Prop} {B : Int} {xs : List Int}
theorem ix40 {j k : Nat} (hj : j ≤ 100) (hk : k ≤ 100) : zw (zw (40 * (j : Int)) + (k : Int)) = ((40 * j + k : Nat) : Int) := by
  rw [zw_eq (x := 40 * (j : Int)) (by omega) (by omega), zw_eq (by omega) (by omega)]
  omega
theorem ix11 {p k : Nat} (hj : p ≤ 100) (hk : k ≤ 10000) : zw (zw (1100 * (p : Int)) + (k : Int)) = ((1100 * p + k : Nat) : Int) := by
  rw [zw_eq (x := 1100 * (p : Int)) (by omega) (by omega), zw_eq (by omega) (by omega)]
  omega
theorem m_hand_l {j k n : Nat} (hm : mOK h) (hj : j < 2) (hk : k < 40) (hn : n ≤ 1100) (hQ : Q none (zM h (fup I 674 n) (hW A (fun q => if q < n then A 39 (1100 * (40 * j + k) + q) else A 41 q)))) :
    ∀ (d i : Nat), i + d = n → zE 149 17 [some (.inr 29), some (.inl (j : Int)), some (.inl (k : Int)), some (.inl (i : Int))] [] (zM h (fup I 674 n) (hW A (fun q => if q < i then A 39 (1100 * (40 * j + k) + q) else A 41 q))) Q := by
  intro d
  induction d with
  | zero =>
    intro i hi
    have e : i = n := by omega
    subst e
    rw [yX11_takesHand_17 hm, fup_s, if_pos (by omega), yX11_takesHand_54 hm]
    exact hQ
  | succ d ih =>
    intro i hi
    have e4 : fup (fun q => if q < i then A 39 (1100 * (40 * j + k) + q) else A 41 q) i (A 39 (1100 * (40 * j + k) + i)) = fun q => if q < i + 1 then A 39 (1100 * (40 * j + k) + q) else A 41 q := by
      funext q
      unfold fup
      by_cases z : q = i
      · rw [if_pos z, if_pos (by omega), z]
      · rw [if_neg z]
        dsimp only
        by_cases z2 : q < i
        · rw [if_pos z2, if_pos (by omega)]
        · rw [if_neg z2, if_neg (by omega)]
    rw [yX11_takesHand_17 hm, fup_s, if_neg (by omega), yX11_takesHand_25 hm, ix40 (by omega) (by omega), ix11 (by omega) (by omega), Int.toNat_natCast, Int.toNat_natCast, hW_o (by decide), hW_zu, e4, yX11_takesHand_48 hm, zw_eq (by omega) (by omega)]
    exact ⟨⟨by omega, by omega⟩, ⟨by omega, by omega⟩, ih (i + 1) (by omega)⟩
theorem m_hand {j k : Nat} (hm : mOK h) (hR : RepR I A c l) (hj : j < 2) (hk : k < (l j).length) (h40 : (l j).length ≤ 40) (hQ : ∀ g, isLs g ((l j).getD k []) → Q none (zM h (fup I 674 ((l j).getD k []).length) (hW A g))) {l3 : Option zV} :
    zE 149 0 [some (.inr 29), some (.inl (j : Int)), some (.inl (k : Int)), l3] [] (zM h I A) Q := by
  obtain ⟨m1, m2, m3⟩ := (hR.2.2.2.2.2.2 j hj).2 k hk
  rw [yX11_takesHand_0 hm, ix40 (by omega) (by omega), Int.toNat_natCast, m1, yX11_takesHand_15 hm]
  refine ⟨⟨by omega, by omega⟩, ?_⟩
  have key := m_hand_l (h := h) (I := I) (A := A) (j := j) (k := k) (n := ((l j).getD k []).length) (Q := Q) hm hj (by omega) m2 (hQ _ (fun i v hv => by
    have hi : i < ((l j).getD k []).length := (List.getElem?_eq_some_iff.mp hv).1
    show (if i < _ then _ else _) = v
    rw [if_pos hi]
    exact m3 i v hv)) ((l j).getD k []).length 0 (by omega)
  have e : (fun q => if q < 0 then A 39 (1100 * (40 * j + k) + q) else A 41 q) = A 41 := by
    funext q
    rw [if_neg (by omega)]
  rw [e, hW_id] at key
  exact key
theorem mL_cp {p p' : Nat} {v : Int} {g : Nat → Int} {n : Nat} {ys : List Int} (hp : p' ≠ p) (hn : n ≤ 1100) (h : mL A p' ys) : mL (cpL (zu A 40 p v) p n g) p' ys := by
  obtain ⟨h1, h2, h3⟩ := h
  refine ⟨?_, h2, fun i w hw => ?_⟩
  · rw [cpL_o (by decide), zu_ni hp]
    exact h1
  · have hi : i < ys.length := (List.getElem?_eq_some_iff.mp hw).1
    rw [cpL_n (by omega), zu_na (by decide)]
    exact h3 i w hw
theorem m_drop_b {p n : Nat} {A1 : Nat → Nat → Int} (hm : mOK h) (hp : p < 79) (hn : n ≤ 1100) (h40 : A1 40 p = n) {l1 l2 l3 : Option zV} (hQ : ∀ l5, zE 150 91 [some (.inr 29), l1, l2, l3, some (.inl (p : Int)), l5] [] (zM h I (cpL A1 p n (fun b => A1 39 (1100 * (p + 1) + b)))) Q) :
    ∀ (d b : Nat), b + d = n → zE 150 41 [some (.inr 29), l1, l2, l3, some (.inl (p : Int)), some (.inl (b : Int))] [] (zM h I (cpL A1 p b (fun b => A1 39 (1100 * (p + 1) + b)))) Q := by
  intro d
  induction d with
  | zero =>
    intro b hb
    have e : b = n := by omega
    subst e
    rw [yX11_drops_41 hm, Int.toNat_natCast, cpL_o (by decide), h40, if_pos (by omega)]
    exact ⟨⟨by omega, by omega⟩, hQ _⟩
  | succ d ih =>
    intro b hb
    have w1 : zw (zw (zw (1100 * (p : Int)) + 1100) + (b : Int)) = ((1100 * (p + 1) + b : Nat) : Int) := by
      rw [zw_eq (x := 1100 * (p : Int)) (by omega) (by omega), zw_eq (x := 1100 * (p : Int) + 1100) (by omega) (by omega), zw_eq (by omega) (by omega)]
      omega
    rw [yX11_drops_41 hm, Int.toNat_natCast, cpL_o (by decide), h40, if_neg (by omega), yX11_drops_53 hm, w1, ix11 (by omega) (by omega), Int.toNat_natCast, Int.toNat_natCast, cpL_n (by omega)]
    have e := cpL_s (A := A1) (p := p) (k := b) (g := fun b => A1 39 (1100 * (p + 1) + b))
    rw [e, yX11_drops_85 hm, zw_eq (by omega) (by omega)]
    exact ⟨⟨by omega, by omega⟩, ⟨by omega, by omega⟩, ⟨by omega, by omega⟩, ih (b + 1) (by omega)⟩
theorem m_drop_l {j k n : Nat} {X : Nat → List Int} (hm : mOK h) (hj : j < 2) (hn : n ≤ 40) (hk : k < n) (h38 : A 38 j = n) {l2 : Option zV}
    (hQ : ∀ A', (∀ m, m + 1 < n → mL A' (40 * j + m) (X (if m < k then m else m + 1))) → (∀ p ys, (p < 40 * j ∨ 40 * j + 40 ≤ p) → mL A p ys → mL A' p ys) → (∀ a q, a ≠ 39 → a ≠ 40 → A' a q = A a q) → ∀ l3 l4 l5, zE 150 97 [some (.inr 29), some (.inl (j : Int)), l2, l3, l4, l5] [] (zM h I A') Q) :
    ∀ (d i : Nat) (A1 : Nat → Nat → Int) (l4 l5 : Option zV), i + 1 + d = n → k ≤ i → (∀ m, k ≤ m → m < i → mL A1 (40 * j + m) (X (m + 1))) → (∀ m, m < n → (m < k ∨ i ≤ m) → mL A1 (40 * j + m) (X m)) → (∀ p ys, (p < 40 * j ∨ 40 * j + 40 ≤ p) → mL A p ys → mL A1 p ys) → (∀ a q, a ≠ 39 → a ≠ 40 → A1 a q = A a q) →
    zE 150 2 [some (.inr 29), some (.inl (j : Int)), l2, some (.inl (i : Int)), l4, l5] [] (zM h I A1) Q := by
  intro d
  induction d with
  | zero =>
    intro i A1 l4 l5 hi hki h1 h2 h3 h4
    rw [yX11_drops_2 hm, Int.toNat_natCast, h4 38 j (by decide) (by decide), h38, zw_eq (by omega) (by omega), if_pos (by omega)]
    refine ⟨⟨by omega, by omega⟩, hQ A1 (fun m hm2 => ?_) h3 h4 _ _ _⟩
    by_cases z : m < k
    · rw [if_pos z]
      exact h2 m (by omega) (Or.inl z)
    · rw [if_neg z]
      exact h1 m (by omega) (by omega)
  | succ d ih =>
    intro i A1 l4 l5 hi hki h1 h2 h3 h4
    obtain ⟨s1, s2, s3⟩ := h2 (i + 1) (by omega) (Or.inr (by omega))
    rw [show 40 * j + (i + 1) = 40 * j + i + 1 by omega] at s1 s3
    have w1 : zw (((40 * j + i : Nat) : Int) + 1) = ((40 * j + i + 1 : Nat) : Int) := by
      rw [zw_eq (by omega) (by omega)]
      omega
    rw [yX11_drops_2 hm, Int.toNat_natCast, h4 38 j (by decide) (by decide), h38, zw_eq (by omega) (by omega), if_neg (by omega), yX11_drops_14 hm, ix40 (by omega) (by omega), w1, Int.toNat_natCast, Int.toNat_natCast, s1, yX11_drops_38 hm]
    refine ⟨⟨by omega, by omega⟩, ⟨by omega, by omega⟩, ⟨by omega, by omega⟩, ?_⟩
    have key := m_drop_b (h := h) (I := I) (p := 40 * j + i) (n := (X (i + 1)).length) (A1 := zu A1 40 (40 * j + i) (X (i + 1)).length) (l1 := some (.inl (j : Int))) (l2 := l2) (l3 := some (.inl (i : Int))) (Q := Q) hm (by omega) s2 zu_s ?_ (X (i + 1)).length 0 (by omega)
    · rw [cpL_0] at key
      exact key
    · intro l5
      rw [yX11_drops_91 hm, zw_eq (by omega) (by omega)]
      refine ih (i + 1) _ _ _ (by omega) (by omega) (fun m hm1 hm2 => ?_) (fun m hm1 hm2 => ?_) (fun p ys hp hp2 => mL_cp (by omega) s2 (h3 p ys hp hp2)) (fun a q q1 q2 => ?_)
      · by_cases z : m = i
        · subst z
          refine ⟨?_, s2, fun q w hw => ?_⟩
          · rw [cpL_o (by decide), zu_s]
          · have hq : q < (X (m + 1)).length := (List.getElem?_eq_some_iff.mp hw).1
            unfold cpL
            rw [if_pos (by omega), show 1100 * (40 * j + m) + q - 1100 * (40 * j + m) = q by omega]
            exact (zu_na (by decide)).trans (s3 q w hw)
        · exact mL_cp (by omega) s2 (h1 m hm1 (by omega))
      · exact mL_cp (by omega) s2 (h2 m hm1 (by omega))
      · rw [cpL_o q1, zu_na q2]
        exact h4 a q q1 q2
theorem eraseIdx_getD {α : Type} {ys : List α} {k m : Nat} {d : α} : (ys.eraseIdx k).getD m d = ys.getD (if m < k then m else m + 1) d := by
  rw [List.getD_eq_getElem?_getD, List.getD_eq_getElem?_getD, List.getElem?_eraseIdx]
  split <;> rfl
theorem m_drops {j k : Nat} (hm : mOK h) (hR : RepR I A c l) (hj : j < 2) (hk : k < (l j).length) (h40a : ∀ i, i < 2 → (l i).length ≤ 40) (hQ : ∀ A', RepR I A' c (outL l j k) → (∀ q, A' 41 q = A 41 q) → Q none (zM h I A')) {l3 l4 l5 : Option zV} :
    zE 150 0 [some (.inr 29), some (.inl (j : Int)), some (.inl (k : Int)), l3, l4, l5] [] (zM h I A) Q := by
  obtain ⟨e38, hL⟩ := hR.2.2.2.2.2.2 j hj
  have h40 := h40a j hj
  rw [yX11_drops_0 hm]
  refine m_drop_l (n := (l j).length) (X := fun m => (l j).getD m []) hm hj h40 hk e38 ?_ ((l j).length - 1 - k) k A l4 l5 (by omega) (by omega) (fun m h1 h2 => absurd h2 (by omega)) (fun m h1 _ => hL m h1) (fun _ _ _ z => z) (fun _ _ _ _ => rfl)
  intro A' h1 h2 h3 l3 l4 l5
  have h38 : A' 38 j = ((l j).length : Nat) := (h3 38 j (by decide) (by decide)).trans e38
  rw [yX11_drops_97 hm, Int.toNat_natCast, h38, zw_eq (by omega) (by omega), yX11_drops_107 hm]
  refine ⟨⟨by omega, by omega⟩, ⟨by omega, by omega⟩, hQ _ ?_ (fun q => (zu_na (by decide)).trans (h3 41 q (by decide) (by decide)))⟩
  refine hR.sLn (fun a i q1 q2 q3 => (zu_na q1).trans (h3 a i q2 q3)) (fun i hi => ?_)
  have mz : ∀ p ys, mL A' p ys → mL (zu A' 38 j (((l j).length : Nat) - 1)) p ys := fun p ys z => ⟨(zu_na (by decide)).trans z.1, z.2.1, fun i v hv => (zu_na (by decide)).trans (z.2.2 i v hv)⟩
  show zu A' 38 j (((l j).length : Nat) - 1) 38 i = ((if i = j then (l j).eraseIdx k else l i).length : Nat) ∧ ∀ m, m < (if i = j then (l j).eraseIdx k else l i).length → mL _ (40 * i + m) ((if i = j then (l j).eraseIdx k else l i).getD m [])
  by_cases e : i = j
  · subst e
    rw [if_pos rfl, List.length_eraseIdx, if_pos hk]
    refine ⟨?_, fun m hm2 => ?_⟩
    · rw [zu_s]
      omega
    · rw [eraseIdx_getD]
      exact mz _ _ (h1 m (by omega))
  · rw [if_neg e]
    obtain ⟨b1, b2⟩ := hR.2.2.2.2.2.2 i hi
    refine ⟨?_, fun m hm2 => ?_⟩
    · rw [zu_ni e, h3 38 i (by decide) (by decide)]
      exact b1
    · have := h40a i hi
      exact mz _ _ (h2 _ _ (by omega) (b2 m hm2))
end mCarry
