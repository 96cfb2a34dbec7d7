/-! A LETTER TAKEN BY THE FAR END -/
def dropF (c : cg) (m : Nat) : cg := (fup c.1 12 (c.1 12 - m), c.2.1, fun e i => if e = 1 then c.2.2.1 1 (i + m) else c.2.2.1 e i, c.2.2.2)
def dropN (c : cg) (m : Nat) : cg := (fup c.1 20 (c.1 20 - m), c.2.1, fun e i => if e = 0 then c.2.2.1 0 (i + m) else c.2.2.1 e i, c.2.2.2)
def fKeys (c : cg) (xs : List Int) : sC × Int := s_keys (c.1 3) (c.1 5) (fun j => bt xs (8 + j - (num xs 2).toNat)) (num xs 4 - c.1 6).toNat (c.1 6).toNat (c.2.1, c.1 4)
def fSure (c : cg) (t : Int) : cg := if c.1 7 < t ∧ t < c.1 7 + c.1 12 then dropF (vS c 7 t) (t - c.1 7).toNat else c
def fAddr (c : cg) (ad ty tk0 : Int) : cg := if ty < tk0 then c else vS c 11 ad
def fOwes (c : cg) (kn : Int) : cg := if c.1 6 ≤ kn then c else vS c 10 1
def byFarS (c : cg) (xs : List Int) : cg := if num xs 2 ≤ c.1 6 then fOwes (fAddr (fSure (vS (vS (xS (vS c 29 (c.1 29 + 1)) (fKeys c xs).1) 4 (fKeys c xs).2) 6 (max (c.1 6) (num xs 4))) (num xs 6)) (bt xs 1) (num xs 4) (c.1 6)) (num xs 2) else vS c 28 (c.1 28 + 1)
/-- slots b to b + n -/
def reg (b n a i : Nat) : Prop := ((a = 30 ∨ a = 31) ∧ 192 * b ≤ i ∧ i < 192 * (b + n)) ∨ ((32 ≤ a ∧ a ≤ 35) ∧ b ≤ i ∧ i < b + n)
section mFar
variable {h : zH} {I : Nat → Int} {A A' : Nat → Nat → Int} {c : cg} {l : lg} {X Y : sC} {Q : Option zV → zH → Prop} {B : Int} {xs : List Int}
theorem m_twoAt {i : Nat} (hm : mOK h) (hx : isLs (A 41) xs) (hb : byteL xs) (hi : i + 1 < xs.length) (hl : xs.length ≤ 1100) (hQ : Q (some (.inl (num xs i))) (zM h I A)) : zE 145 0 [some (.inr 29), some (.inl (i : Int))] [] (zM h I A) Q := by
  have e1 := hx.at (i := i) (by omega)
  have e2 := hx.at (i := i + 1) (by omega)
  have b1 := hb.at (i := i) (by omega)
  have b2 := hb.at (i := i + 1) (by omega)
  rw [yX11_twoAt_0 hm, zw_eq (x := (i : Int) + 1) (by omega) (by omega), show (i : Int) + 1 = ((i + 1 : Nat) : Int) by omega, Int.toNat_natCast, Int.toNat_natCast, e1, e2, zw_eq (x := 256 * xs.getD i (-1)) (by omega) (by omega), zw_eq (by omega) (by omega)]
  exact ⟨⟨by omega, by omega⟩, ⟨by omega, by omega⟩, hQ⟩
theorem mT_reg {b n t : Nat} {x : sT} (hst : t < b ∨ b + n ≤ t) (hA : ∀ a i, ¬ reg b n a i → A' a i = A a i) (h : mT A t x) : mT A' t x := by
  obtain ⟨⟨h1, h2, h3⟩, h4, h5⟩ := h
  exact ⟨⟨fun k hk => ⟨(hA _ _ (by unfold reg; omega)).trans (h1 k hk).1, (hA _ _ (by unfold reg; omega)).trans (h1 k hk).2⟩, (hA _ _ (by unfold reg; omega)).trans h2, (hA _ _ (by unfold reg; omega)).trans h3⟩, (hA _ _ (by unfold reg; omega)).trans h4, (hA _ _ (by unfold reg; omega)).trans h5⟩
theorem m_below_c {base n gone : Nat} {T : Nat → sT} (hm : mOK h) (hb : base + n ≤ 67) (hg : 0 < gone) (hgn : gone ≤ n) {l3 : Option zV}
    (hQ : ∀ A', (∀ i, i + gone < n → mT A' (base + i) (T (i + gone))) → (∀ a i, ¬ reg base n a i → A' a i = A a i) → Q (some (.inl ((n - gone : Nat) : Int))) (zM h I A')) :
    ∀ (d k : Nat) (A1 : Nat → Nat → Int), k + gone + d = n → (∀ i, i < k → mT A1 (base + i) (T (i + gone))) → (∀ i, k ≤ i → i < n → mT A1 (base + i) (T i)) → (∀ a i, ¬ reg base n a i → A1 a i = A a i) →
    zE 135 31 [some (.inr 29), some (.inl (base : Int)), some (.inl (n : Int)), l3, some (.inl (gone : Int)), some (.inl (k : Int))] [] (zM h I A1) Q := by
  intro d
  induction d with
  | zero =>
    intro k A1 hk h1 h2 h3
    rw [yX11_goBelow_31 hm, if_neg (by omega), yX11_goBelow_36 hm, zw_eq (by omega) (by omega), if_pos (by omega), yX11_goBelow_66 hm, zw_eq (by omega) (by omega), show (n : Int) - (gone : Int) = ((n - gone : Nat) : Int) by omega]
    exact hQ A1 (fun i hi => h1 i (by omega)) h3
  | succ d ih =>
    intro k A1 hk h1 h2 h3
    have hT := h2 (k + gone) (by omega) (by omega)
    have w1 : zw ((base : Int) + (k : Int)) = ((base + k : Nat) : Int) := by
      rw [zw_eq (by omega) (by omega)]
      omega
    have w2 : zw (((base + k : Nat) : Int) + (gone : Int)) = ((base + (k + gone) : Nat) : Int) := by
      rw [zw_eq (by omega) (by omega)]
      omega
    rw [yX11_goBelow_31 hm, if_neg (by omega), yX11_goBelow_36 hm, zw_eq (by omega) (by omega), if_neg (by omega), yX11_goBelow_45 hm, w1, w2]
    refine m_copies hm (by omega) (by omega) (by omega) hT.1 ?_
    simp only [Option.toList_none, List.nil_append]
    rw [yX11_goBelow_60 hm, zw_eq (by omega) (by omega)]
    have hA : ∀ a i, ¬ slot (base + k) a i → (zu (zu (mW A1 (base + k) (T (k + gone)).1) 34 (base + k) (A1 34 (base + (k + gone)))) 35 (base + k) (A1 35 (base + (k + gone)))) a i = A1 a i := by
      intro a i hs
      have hs' : ¬ (((a = 30 ∨ a = 31) ∧ 192 * (base + k) ≤ i ∧ i < 192 * (base + k) + 192) ∨ ((32 ≤ a ∧ a ≤ 35) ∧ i = base + k)) := hs
      unfold zu mW
      rw [if_neg (by omega), if_neg (by omega), if_neg (by omega), if_neg (by omega), if_neg (by omega), if_neg (by omega)]
    refine ih (k + 1) _ (by omega) (fun i hi => ?_) (fun i h4 h5 => mT_slot (by omega) hA (h2 i (by omega) h5)) (fun a i hr => ?_)
    · by_cases e : i = k
      · subst e
        refine ⟨mS_zu (by omega) (mS_zu (by omega) mS_W), ?_, ?_⟩
        · rw [zu_na (by decide), zu_s]
          exact hT.2.1
        · rw [zu_s]
          exact hT.2.2
      · exact mT_slot (by omega) hA (h1 i (by omega))
    · rw [hA a i (fun z => hr (by unfold slot at z; unfold reg; omega))]
      exact h3 a i hr
theorem m_below {base n gone : Nat} {T : Nat → sT} {least : Int} (hm : mOK h) (hb : base + n ≤ 67) (hgn : gone ≤ n) (hT : ∀ i, i < n → mT A (base + i) (T i)) (h1 : ∀ i, i < gone → (T i).2.1 < least) (h2 : gone < n → ¬ (T gone).2.1 < least)
    (hQ : ∀ A', (∀ i, i + gone < n → mT A' (base + i) (T (i + gone))) → (∀ a i, ¬ reg base n a i → A' a i = A a i) → Q (some (.inl ((n - gone : Nat) : Int))) (zM h I A')) {l4 l5 : Option zV} :
    zE 135 0 [some (.inr 29), some (.inl (base : Int)), some (.inl (n : Int)), some (.inl least), l4, l5] [] (zM h I A) Q := by
  have e28 : zE 135 28 [some (.inr 29), some (.inl (base : Int)), some (.inl (n : Int)), some (.inl least), some (.inl (gone : Int)), l5] [] (zM h I A) Q := by
    rw [yX11_goBelow_28 hm]
    by_cases g0 : gone = 0
    · subst g0
      rw [yX11_goBelow_31 hm, if_pos (by omega), yX11_goBelow_66 hm, zw_eq (by omega) (by omega), show (n : Int) - ((0 : Nat) : Int) = ((n - 0 : Nat) : Int) by omega]
      exact hQ A (fun i hi => hT i (by omega)) (fun a i _ => rfl)
    · exact m_below_c hm hb (by omega) hgn hQ (n - gone) 0 A (by omega) (fun i hi => absurd hi (by omega)) (fun i _ hi => hT i hi) (fun a i _ => rfl)
  have loop : ∀ (d k : Nat), k + d = gone → zE 135 3 [some (.inr 29), some (.inl (base : Int)), some (.inl (n : Int)), some (.inl least), some (.inl (k : Int)), l5] [] (zM h I A) Q := by
    intro d
    induction d with
    | zero =>
      intro k hk
      have e : k = gone := by omega
      subst e
      rw [yX11_goBelow_3 hm]
      by_cases q : (n : Int) ≤ (k : Int)
      · rw [if_pos q]
        exact e28
      · have w1 : zw ((base : Int) + (k : Int)) = ((base + k : Nat) : Int) := by
          rw [zw_eq (by omega) (by omega)]
          omega
        have t := (hT k (by omega)).2.1
        have := h2 (by omega)
        rw [if_neg q, yX11_goBelow_9 hm, w1, Int.toNat_natCast, t, if_pos (by omega)]
        exact ⟨⟨by omega, by omega⟩, e28⟩
    | succ d ih =>
      intro k hk
      have w1 : zw ((base : Int) + (k : Int)) = ((base + k : Nat) : Int) := by
        rw [zw_eq (by omega) (by omega)]
        omega
      have t := (hT k (by omega)).2.1
      have := h1 k (by omega)
      rw [yX11_goBelow_3 hm, if_neg (by omega), yX11_goBelow_9 hm, w1, Int.toNat_natCast, t, if_neg (by omega), yX11_goBelow_22 hm, zw_eq (by omega) (by omega)]
      exact ⟨⟨by omega, by omega⟩, ih (k + 1) (by omega)⟩
  rw [yX11_goBelow_0 hm]
  exact loop gone 0 (by omega)
theorem RepR.dropF {n gone : Nat} (hR : RepR I A c l) (hn : c.1 12 = n) (hg : gone ≤ n) (hn2 : n ≤ 32) (h20 : c.1 20 ≤ 32) (hT : ∀ i, i + gone < n → mT A' (1 + i) (c.2.2.1 1 (i + gone))) (hA : ∀ a i, ¬ reg 1 n a i → A' a i = A a i) : RepR (fup I 654 ((n - gone : Nat) : Int)) A' (dropF c gone) l := by
  obtain ⟨⟨a1, a2, a3⟩, a4, a5, a6, a7, a8, a9⟩ := hR
  have e20 : fup c.1 12 (c.1 12 - gone) 20 = c.1 20 := fup_n (by decide)
  have e13 : fup c.1 12 (c.1 12 - gone) 13 = c.1 13 := fup_n (by decide)
  have e21 : fup c.1 12 (c.1 12 - gone) 21 = c.1 21 := fup_n (by decide)
  have e12 : fup c.1 12 (c.1 12 - gone) 12 = c.1 12 - gone := fup_s
  have hX : mT A' 0 (c.2.1, A 34 0, A 35 0) := mT_reg (b := 1) (n := n) (by omega) hA ⟨a4, rfl, rfl⟩
  have hA' : ∀ a i, 36 ≤ a → A' a i = A a i := fun a i q => hA a i (by unfold reg; omega)
  refine ⟨⟨fun k hk => ?_, ?_, fun i hi => ?_⟩, hX.1, fun i hi => ?_, fun i hi => ?_, fun i hi => ?_, fun i hi q hq => ?_, fun j hj => ⟨(hA' _ _ (by omega)).trans (a9 j hj).1, fun k hk => ?_⟩⟩
  · show fup I 654 ((n - gone : Nat) : Int) (fM k) = fup c.1 12 (c.1 12 - gone) k
    by_cases e : k = 12
    · subst e
      rw [e12, hn, show (n : Int) - gone = ((n - gone : Nat) : Int) by omega]
      exact fup_s
    · have ne : fM k ≠ 654 := fun q => e (fM_inj k hk 12 (by omega) q)
      rw [fup_n e, fup_n ne]
      exact a1 k hk
  · show fup I 654 ((n - gone : Nat) : Int) 659 = fup c.1 12 (c.1 12 - gone) 6
    rw [fup_n (by decide), fup_n (by decide)]
    exact a2
  · show A' 37 i = fup c.1 12 (c.1 12 - gone) (24 + i)
    rw [fup_n (by omega), hA' _ _ (by omega)]
    exact a3 i hi
  · have hi' : (i : Int) < fup c.1 12 (c.1 12 - gone) 12 := hi
    rw [e12] at hi'
    show mT A' (1 + i) (if (1 : Nat) = 1 then c.2.2.1 1 (i + gone) else c.2.2.1 1 i)
    rw [if_pos rfl]
    exact hT i (by omega)
  · have hi' : (i : Int) < fup c.1 12 (c.1 12 - gone) 20 := hi
    rw [e20] at hi'
    show mT A' (34 + i) (if (0 : Nat) = 1 then c.2.2.1 1 (i + gone) else c.2.2.1 0 i)
    rw [if_neg (by decide)]
    exact mT_reg (b := 1) (n := n) (by omega) hA (a6 i hi')
  · have hi' : (i : Int) < fup c.1 12 (c.1 12 - gone) 13 := hi
    rw [e13] at hi'
    exact (hA' _ _ (by omega)).trans (a7 i hi')
  · have hi' : (i : Int) < fup c.1 12 (c.1 12 - gone) 21 := hi
    rw [e21] at hi'
    exact (hA' _ _ (by omega)).trans (a8 i hi' q hq)
  · obtain ⟨b1, b2, b3⟩ := (a9 j hj).2 k hk
    exact ⟨(hA' _ _ (by omega)).trans b1, b2, fun i v hv => (hA' _ _ (by omega)).trans (b3 i v hv)⟩
theorem m_press_l {kn ty : Nat} {pen prog : Int} (hm : mOK h) (hp : I 646 = pen) (hg : I 647 = prog) (hg2 : 0 ≤ prog ∧ prog ≤ 3) (hx : isLs (A 41) xs) (hty : ty ≤ 1000) (hlen : 8 + ty ≤ xs.length + kn) (hl : xs.length ≤ 1100) :
    ∀ (d i : Nat) (y : sC × Int), i + d = ty → kn ≤ i → s_in y.1 → 0 ≤ y.2 ∧ y.2 ≤ 20 →
    (∀ l3, zE 146 72 [some (.inr 29), some (.inl (kn : Int)), some (.inl (ty : Int)), l3] [] (zM h (fup I 648 (s_keys prog pen (fun j => bt xs (8 + j - kn)) d i y).2) (mW A 0 (s_keys prog pen (fun j => bt xs (8 + j - kn)) d i y).1)) Q) →
    zE 146 46 [some (.inr 29), some (.inl (kn : Int)), some (.inl (ty : Int)), some (.inl (i : Int))] [] (zM h (fup I 648 y.2) (mW A 0 y.1)) Q := by
  intro d
  induction d with
  | zero =>
    intro i y hi hk hin hy hQ
    rw [yX11_byFar_46 hm, if_pos (by omega)]
    exact hQ _
  | succ d ih =>
    intro i y hi hk hin hy hQ
    unfold s_keys at hQ
    have w : zw (zw (8 + (i : Int)) - (kn : Int)) = ((8 + i - kn : Nat) : Int) := by
      rw [zw_eq (x := 8 + (i : Int)) (by omega) (by omega), zw_eq (by omega) (by omega)]
      omega
    have e1 : mW A 0 y.1 41 (8 + i - kn) = bt xs (8 + i - kn) := by
      rw [mW_o (by decide)]
      exact hx.at (by omega)
    rw [yX11_byFar_46 hm, if_neg (by omega), yX11_byFar_51 hm, w, Int.toNat_natCast, e1]
    refine ⟨⟨by omega, by omega⟩, m_takesKey (pen := pen) (prog := prog) (p := y.2) hm hin ((fup_n (by decide)).trans hp) ((fup_n (by decide)).trans hg) hg2 fup_s hy ?_⟩
    simp only [Option.toList_none, List.nil_append]
    rw [fup_two, yX11_byFar_66 hm, zw_eq (by omega) (by omega)]
    exact ih (i + 1) (s_press prog pen (bt xs (8 + i - kn)) y.1 y.2) (by omega) (by omega) (s_press_in hin) (s_press_p hy) hQ
end mFar
