/-! ALL AS AT FIRST -/
def X0 : sC := (fun _ => 32, 0, 0)
def V0 (p f a : Int) : Nat → Int := fup (fup (fup (fun k => if k = 11 ∨ k = 12 ∨ k = 18 ∨ k = 20 ∨ k = 23 then 1 else 0) 1 f) 2 a) 3 p
def c0 (p f a : Int) : cg := (V0 p f a, X0, fun _ _ => (X0, 0, 0), fun _ => 0, fun _ _ => 0)
def l0 : lg := fun _ => []
def openOK (p f a : Int) : Prop := (0 ≤ p ∧ p ≤ 3) ∧ (1 ≤ f ∧ f ≤ 20) ∧ f ≤ a ∧ a ≤ 50
theorem good_0 {p f a : Int} (h : openOK p f a) : Good 1 (c0 p f a) l0 := by
  unfold openOK at h
  have hX : cellsOK X0 := ⟨⟨Int.le_refl 0, by show (0 : Int) < 8; omega, Int.le_refl 0, by show (0 : Int) < 24; omega⟩, fun k _ => by show 0 ≤ (32 : Int) ∧ (32 : Int) < 512; omega⟩
  have e12 : (c0 p f a).1 12 = 1 := rfl
  have e20 : (c0 p f a).1 20 = 1 := rfl
  have e13 : (c0 p f a).1 13 = 0 := rfl
  have e21 : (c0 p f a).1 21 = 0 := rfl
  have e7 : (c0 p f a).1 7 = 0 := rfl
  refine ⟨?_, hX, ⟨fun i hi => ⟨hX, ?_, ?_, ?_⟩, fun i hi => ⟨hX, ⟨Int.le_refl 0, by show (0 : Int) < 65536; omega⟩, Int.le_refl 0, by show (0 : Int) < 65536; omega⟩, fun i j hij hj => ?_⟩, fun i hi => ?_, fun i hi => ?_, fun _ _ => Nat.zero_le _, fun xs hx => absurd hx List.not_mem_nil, fun xs hx => absurd hx List.not_mem_nil⟩
  · unfold gV c0 V0
    simp (decide := true) only [fup, if_true, if_false, true_and, true_or, or_true, and_true, and_self]
    omega
  · rw [e12] at hi
    rw [e7]
    show (0 : Int) = 0 + i
    omega
  · exact Int.le_refl 0
  · rw [e13]
    exact Int.le_refl 0
  · rw [e20] at hj
    omega
  · rw [e13] at hi
    omega
  · rw [e21] at hi
    omega
section mBegin
variable {h : zH} {I : Nat → Int} {A A' : Nat → Nat → Int} {Q : Option zV → zH → Prop} {s : Nat}
theorem m_blankP_l (hm : mOK h) (hs : s < 69) {l2 : Option zV} (hQ : Q none (zM h I (mP A s 192 (fun _ => 32)))) : ∀ (d i : Nat), i + d = 192 → zE 107 3 [some (.inr 29), some (.inl (s : Int)), l2, some (.inl 192), some (.inl (i : Int))] [] (zM h I (mP A s i (fun _ => 32))) Q := by
  intro d
  induction d with
  | zero =>
    intro i hi
    have e : i = 192 := by omega
    subst e
    rw [yX11_blank_3 hm, if_pos (by omega), yX11_blank_44 hm]
    exact hQ
  | succ d ih =>
    intro i hi
    have e2 : zu (zu (mP A s i (fun _ => 32)) 30 (192 * s + i) 32) 31 (192 * s + i) 0 = mP A s (i + 1) (fun _ => 32) := mP_s (A := A) (s := s) (n := i) (C := fun _ => 32)
    rw [yX11_blank_3 hm, if_neg (by omega), yX11_blank_9 hm, yX11_blank_24 hm, yX11_blank_38 hm, ixw (by omega) (by omega), Int.toNat_natCast, e2, zw_eq (by omega) (by omega)]
    exact ⟨⟨by omega, by omega⟩, ⟨by omega, by omega⟩, ih (i + 1) (by omega)⟩
theorem m_begin_s {p f a : Option zV} (hm : mOK h) (hQ : ∀ A' l4, (∀ s, s < 69 → mT A' s (X0, 0, 0)) → zE 119 73 [some (.inr 29), p, f, a, l4] [] (zM h I A') Q) :
    ∀ (d i : Nat) (A1 : Nat → Nat → Int), i + d = 69 → (∀ s, s < i → mT A1 s (X0, 0, 0)) → zE 119 18 [some (.inr 29), p, f, a, some (.inl (i : Int))] [] (zM h I A1) Q := by
  intro d
  induction d with
  | zero =>
    intro i A1 hi hT
    rw [yX11_begins_18 hm, if_pos (by omega)]
    exact hQ A1 _ (fun s hs => hT s (by omega))
  | succ d ih =>
    intro i A1 hi hT
    rw [yX11_begins_18 hm, if_neg (by omega), yX11_begins_25 hm, yX11_blank_0 hm]
    have key := m_blankP_l (h := h) (I := I) (A := A1) (s := i) (l2 := some (.inl 0)) (Q := fun r h' => zE 119 35 [some (.inr 29), p, f, a, some (.inl (i : Int))] (r.toList ++ []) h' Q) hm (by omega) ?_ 192 0 (by omega)
    · rw [mP_0] at key
      exact key
    · have eW : zu (zu (mP A1 i 192 (fun _ => 32)) 32 i 0) 33 i 0 = mW A1 i X0 := mP_W (A := A1) (s := i) (X := X0)
      simp only [Option.toList_none, List.nil_append]
      rw [yX11_begins_35 hm, Int.toNat_natCast, yX11_begins_43 hm, Int.toNat_natCast, eW, yX11_begins_51 hm, Int.toNat_natCast, yX11_begins_59 hm, Int.toNat_natCast, yX11_begins_67 hm, zw_eq (by omega) (by omega)]
      refine ⟨⟨by omega, by omega⟩, ⟨by omega, by omega⟩, ⟨by omega, by omega⟩, ⟨by omega, by omega⟩, ih (i + 1) _ (by omega) (fun s hs => ?_)⟩
      by_cases e : s = i
      · subst e
        refine ⟨mS_zu (by omega) (mS_zu (by omega) mS_W), ?_, ?_⟩
        · rw [zu_na (by decide), zu_s]
        · rw [zu_s]
      · obtain ⟨b1, b2, b3⟩ := hT s (by omega)
        refine ⟨mS_zu (by omega) (mS_zu (by omega) (mS_n e b1)), ?_, ?_⟩
        · rw [zu_na (by decide), zu_ni e, mW_o (by decide)]
          exact b2
        · rw [zu_ni e, zu_na (by decide), mW_o (by decide)]
          exact b3
theorem m_begin_c {p f a : Option zV} (hm : mOK h) (hT : ∀ s, s < 69 → mT A s (X0, 0, 0)) (hQ : ∀ A' l4, (∀ s, s < 69 → mT A' s (X0, 0, 0)) → (∀ i, i < 10 → A' 37 i = 0) → zE 119 192 [some (.inr 29), p, f, a, l4] [] (zM h I A') Q) :
    ∀ (d i : Nat) (A1 : Nat → Nat → Int), i + d = 10 → (∀ s, s < 69 → mT A1 s (X0, 0, 0)) → (∀ k, k < i → A1 37 k = 0) → zE 119 171 [some (.inr 29), p, f, a, some (.inl (i : Int))] [] (zM h I A1) Q := by
  intro d
  induction d with
  | zero =>
    intro i A1 hi h1 h2
    rw [yX11_begins_171 hm, if_pos (by omega)]
    exact hQ A1 _ h1 (fun k hk => h2 k (by omega))
  | succ d ih =>
    intro i A1 hi h1 h2
    rw [yX11_begins_171 hm, if_neg (by omega), yX11_begins_178 hm, Int.toNat_natCast, yX11_begins_186 hm, zw_eq (by omega) (by omega)]
    refine ⟨⟨by omega, by omega⟩, ih (i + 1) _ (by omega) (fun s hs => ?_) (fun k hk => ?_)⟩
    · obtain ⟨b1, b2, b3⟩ := h1 s hs
      exact ⟨mS_zu (by omega) b1, (zu_na (by decide)).trans b2, (zu_na (by decide)).trans b3⟩
    · by_cases e : k = i
      · subst e; exact zu_s
      · rw [zu_ni e]
        exact h2 k (by omega)
theorem m_begins {p f a : Int} (hm : mOK h) (hQ : ∀ I' A', RepR I' A' (c0 p f a) l0 → Q none (zM h I' A')) {l4 : Option zV} : zE 119 0 [some (.inr 29), some (.inl p), some (.inl f), some (.inl a), l4] [] (zM h I A) Q := by
  rw [yX11_begins_0 hm, yX11_begins_5 hm, yX11_begins_10 hm, yX11_begins_15 hm]
  refine m_begin_s hm ?_ 69 0 A (by omega) (fun s hs => absurd hs (by omega))
  intro A1 l4 hT
  rw [yX11_begins_73 hm, yX11_begins_78 hm, yX11_begins_83 hm, yX11_begins_88 hm, yX11_begins_93 hm, yX11_begins_98 hm, yX11_begins_103 hm, yX11_begins_108 hm, yX11_begins_113 hm, yX11_begins_118 hm, yX11_begins_123 hm, yX11_begins_128 hm, yX11_begins_133 hm, yX11_begins_138 hm, yX11_begins_143 hm, yX11_begins_148 hm, yX11_begins_153 hm, yX11_begins_158 hm, yX11_begins_163 hm, yX11_begins_168 hm]
  refine ⟨Or.inl rfl, Or.inl rfl, m_begin_c hm hT ?_ 10 0 A1 (by omega) hT (fun k hk => absurd hk (by omega))⟩
  intro A2 l4 hT2 h37
  rw [yX11_begins_192 hm, yX11_begins_199 hm, yX11_begins_206 hm, yX11_begins_211 hm, yX11_begins_216 hm, yX11_begins_221 hm]
  refine hQ _ _ ⟨⟨fun k hk => ?_, rfl, fun i hi => ?_⟩, ?_, fun i hi => ?_, fun i hi => ?_, fun i hi => ?_, fun i hi => ?_, fun j hj => ⟨?_, fun k hk => absurd hk (Nat.not_lt_zero _)⟩⟩
  · have : k = 0 ∨ k = 1 ∨ k = 2 ∨ k = 3 ∨ k = 4 ∨ k = 5 ∨ k = 6 ∨ k = 7 ∨ k = 8 ∨ k = 9 ∨ k = 10 ∨ k = 11 ∨ k = 12 ∨ k = 13 ∨ k = 14 ∨ k = 15 ∨ k = 16 ∨ k = 17 ∨ k = 18 ∨ k = 19 ∨ k = 20 ∨ k = 21 ∨ k = 22 ∨ k = 23 := by omega
    rcases this with rfl | rfl | rfl | rfl | rfl | rfl | rfl | rfl | rfl | rfl | rfl | rfl | rfl | rfl | rfl | rfl | rfl | rfl | rfl | rfl | rfl | rfl | rfl | rfl <;> rfl
  · show zu (zu A2 38 0 0) 38 1 0 37 i = V0 p f a (24 + i)
    rw [zu_na (by decide), zu_na (by decide), h37 i hi]
    unfold V0
    rw [fup_n (by omega), fup_n (by omega), fup_n (by omega), if_neg (by omega)]
  · exact mS_zu (by omega) (mS_zu (by omega) (hT2 0 (by omega)).1)
  · have e : (c0 p f a).1 12 = 1 := rfl
    rw [e] at hi
    obtain ⟨b1, b2, b3⟩ := hT2 (1 + i) (by omega)
    exact ⟨mS_zu (by omega) (mS_zu (by omega) b1), (zu_na (by decide)).trans ((zu_na (by decide)).trans b2), (zu_na (by decide)).trans ((zu_na (by decide)).trans b3)⟩
  · have e : (c0 p f a).1 20 = 1 := rfl
    rw [e] at hi
    obtain ⟨b1, b2, b3⟩ := hT2 (34 + i) (by omega)
    exact ⟨mS_zu (by omega) (mS_zu (by omega) b1), (zu_na (by decide)).trans ((zu_na (by decide)).trans b2), (zu_na (by decide)).trans ((zu_na (by decide)).trans b3)⟩
  · have e : (c0 p f a).1 13 = 0 := rfl
    rw [e] at hi
    omega
  · have e : (c0 p f a).1 21 = 0 := rfl
    rw [e] at hi
    omega
  · show zu (zu A2 38 0 0) 38 1 0 38 j = ((0 : Nat) : Int)
    have : j = 0 ∨ j = 1 := by omega
    rcases this with rfl | rfl
    · rw [zu_ni (by decide), zu_s]; rfl
    · rw [zu_s]; rfl
theorem m_open {c : cg} {l : lg} {p f a : Int} (hm : mOK h) (hR : RepR I A c l) (hY : openOK p f a → ∀ I' A', RepR I' A' (c0 p f a) l0 → Q (some (.inl 1)) (zM h I' A')) (hN : ¬ openOK p f a → Q (some (.inl 0)) (zM h I A)) :
    zE 120 0 [some (.inr 29), some (.inl p), some (.inl f), some (.inl a)] [] (zM h I A) Q := by
  have no : ¬ openOK p f a → zE 120 31 [some (.inr 29), some (.inl p), some (.inl f), some (.inl a)] [] (zM h I A) Q := by
    intro z
    rw [yX11_open_31 hm]
    exact ⟨Or.inl rfl, hN z⟩
  unfold openOK at *
  rw [yX11_open_0 hm]
  by_cases a1 : p < 0
  · rw [if_pos a1]; exact no (by omega)
  · rw [if_neg a1, yX11_open_4 hm]
    by_cases a2 : 3 < p
    · rw [if_pos a2]; exact no (by omega)
    · rw [if_neg a2, yX11_open_9 hm]
      by_cases a3 : f < 1
      · rw [if_pos a3]; exact no (by omega)
      · rw [if_neg a3, yX11_open_14 hm]
        by_cases a4 : 20 < f
        · rw [if_pos a4]; exact no (by omega)
        · rw [if_neg a4, yX11_open_20 hm]
          by_cases a5 : a < f
          · rw [if_pos a5]; exact no (by omega)
          · rw [if_neg a5, yX11_open_25 hm]
            by_cases a6 : a ≤ 50
            · rw [if_pos a6, yX11_open_33 hm]
              refine m_begins hm ?_
              intro I' A' R
              simp only [Option.toList_none, List.nil_append]
              rw [yX11_open_40 hm]
              exact ⟨Or.inr rfl, hY (by omega) I' A' R⟩
            · rw [if_neg a6]; exact no (by omega)
end mBegin
