/-! THE MODEL'S SCREENS: letter and mark of a cell at 192 s + k -/
def mW (A : Nat → Nat → Int) (s : Nat) (X : sC) : Nat → Nat → Int := fun a i =>
  if a = 30 ∧ 192 * s ≤ i ∧ i < 192 * s + 192 then X.1 (i - 192 * s) % 128
  else if a = 31 ∧ 192 * s ≤ i ∧ i < 192 * s + 192 then X.1 (i - 192 * s) / 128
  else if a = 32 ∧ i = s then X.2.1 else if a = 33 ∧ i = s then X.2.2 else A a i
def mS (A : Nat → Nat → Int) (s : Nat) (X : sC) : Prop := (∀ k, k < 192 → A 30 (192 * s + k) = X.1 k % 128 ∧ A 31 (192 * s + k) = X.1 k / 128) ∧ A 32 s = X.2.1 ∧ A 33 s = X.2.2
section mScr
variable {A : Nat → Nat → Int} {s : Nat} {X Y : sC}
theorem mW_30 {k : Nat} (hk : k < 192) : mW A s X 30 (192 * s + k) = X.1 k % 128 := by
  unfold mW
  rw [if_pos (by omega), show 192 * s + k - 192 * s = k by omega]
theorem mW_31 {k : Nat} (hk : k < 192) : mW A s X 31 (192 * s + k) = X.1 k / 128 := by
  unfold mW
  rw [if_neg (by omega), if_pos (by omega), show 192 * s + k - 192 * s = k by omega]
theorem mW_32 : mW A s X 32 s = X.2.1 := by
  unfold mW
  rw [if_neg (by omega), if_neg (by omega), if_pos ⟨rfl, rfl⟩]
theorem mW_33 : mW A s X 33 s = X.2.2 := by
  unfold mW
  rw [if_neg (by omega), if_neg (by omega), if_neg (by omega), if_pos ⟨rfl, rfl⟩]
theorem mW_o {a i : Nat} (ha : a < 30 ∨ 33 < a) : mW A s X a i = A a i := by
  unfold mW
  rw [if_neg (by omega), if_neg (by omega), if_neg (by omega), if_neg (by omega)]
theorem mW_n30 {t k : Nat} (ht : t ≠ s) (hk : k < 192) : mW A s X 30 (192 * t + k) = A 30 (192 * t + k) := by
  unfold mW
  rw [if_neg (by omega), if_neg (by omega), if_neg (by omega), if_neg (by omega)]
theorem mW_n31 {t k : Nat} (ht : t ≠ s) (hk : k < 192) : mW A s X 31 (192 * t + k) = A 31 (192 * t + k) := by
  unfold mW
  rw [if_neg (by omega), if_neg (by omega), if_neg (by omega), if_neg (by omega)]
theorem mW_n32 {t : Nat} (ht : t ≠ s) : mW A s X 32 t = A 32 t := by
  unfold mW
  rw [if_neg (by omega), if_neg (by omega), if_neg (by omega), if_neg (by omega)]
theorem mW_n33 {t : Nat} (ht : t ≠ s) : mW A s X 33 t = A 33 t := by
  unfold mW
  rw [if_neg (by omega), if_neg (by omega), if_neg (by omega), if_neg (by omega)]
theorem mS_W : mS (mW A s X) s X := ⟨fun _ hk => ⟨mW_30 hk, mW_31 hk⟩, mW_32, mW_33⟩
theorem mS_n {t : Nat} (ht : t ≠ s) (hS : mS A t Y) : mS (mW A s X) t Y :=
  ⟨fun k hk => ⟨(mW_n30 ht hk).trans (hS.1 k hk).1, (mW_n31 ht hk).trans (hS.1 k hk).2⟩, (mW_n32 ht).trans hS.2.1, (mW_n33 ht).trans hS.2.2⟩
theorem mS_zu {t a i : Nat} {v : Int} (ha : a < 30 ∨ 33 < a) (hS : mS A t Y) : mS (zu A a i v) t Y :=
  ⟨fun k hk => ⟨(zu_na (by omega)).trans (hS.1 k hk).1, (zu_na (by omega)).trans (hS.1 k hk).2⟩, (zu_na (by omega)).trans hS.2.1, (zu_na (by omega)).trans hS.2.2⟩
theorem mW_id (hS : mS A s X) : mW A s X = A := by
  funext a i
  unfold mW
  by_cases h1 : a = 30 ∧ 192 * s ≤ i ∧ i < 192 * s + 192
  · rw [if_pos h1, h1.1, ← (hS.1 (i - 192 * s) (by omega)).1, show 192 * s + (i - 192 * s) = i by omega]
  · rw [if_neg h1]
    by_cases h2 : a = 31 ∧ 192 * s ≤ i ∧ i < 192 * s + 192
    · rw [if_pos h2, h2.1, ← (hS.1 (i - 192 * s) (by omega)).2, show 192 * s + (i - 192 * s) = i by omega]
    · rw [if_neg h2]
      by_cases h3 : a = 32 ∧ i = s
      · rw [if_pos h3, h3.1, h3.2, hS.2.1]
      · rw [if_neg h3]
        by_cases h4 : a = 33 ∧ i = s
        · rw [if_pos h4, h4.1, h4.2, hS.2.2]
        · rw [if_neg h4]
theorem mW_cell {k : Nat} {v : Int} (hk : k < 192) : zu (zu (mW A s X) 30 (192 * s + k) (v % 128)) 31 (192 * s + k) (v / 128) = mW A s (fup X.1 k v, X.2) := by
  funext a i
  by_cases hi : i = 192 * s + k
  · subst hi
    by_cases h30 : a = 30
    · subst h30
      rw [zu_na (by decide), zu_s, mW_30 hk]
      show v % 128 = fup X.1 k v k % 128
      rw [fup_s]
    · by_cases h31 : a = 31
      · subst h31
        rw [zu_s, mW_31 hk]
        show v / 128 = fup X.1 k v k / 128
        rw [fup_s]
      · rw [zu_na h31, zu_na h30]
        unfold mW
        have n30 : ¬ (a = 30 ∧ 192 * s ≤ 192 * s + k ∧ 192 * s + k < 192 * s + 192) := fun q => h30 q.1
        have n31 : ¬ (a = 31 ∧ 192 * s ≤ 192 * s + k ∧ 192 * s + k < 192 * s + 192) := fun q => h31 q.1
        rw [if_neg n30, if_neg n31, if_neg n30, if_neg n31]
  · rw [zu_ni hi, zu_ni hi]
    unfold mW
    by_cases hr : 192 * s ≤ i ∧ i < 192 * s + 192
    · have e : i - 192 * s ≠ k := by omega
      simp only [fup, if_neg e]
    · have n30 : ¬ (a = 30 ∧ 192 * s ≤ i ∧ i < 192 * s + 192) := fun q => hr q.2
      have n31 : ¬ (a = 31 ∧ 192 * s ≤ i ∧ i < 192 * s + 192) := fun q => hr q.2
      rw [if_neg n30, if_neg n31, if_neg n30, if_neg n31]
theorem mW_cell0 {k : Nat} {v : Int} (hk : k < 192) : zu (zu (mW A 0 X) 30 k (v % 128)) 31 k (v / 128) = mW A 0 (fup X.1 k v, X.2) := by
  have := mW_cell (A := A) (s := 0) (X := X) (v := v) hk
  rwa [show 192 * 0 + k = k by omega] at this
theorem mW_row {r : Int} : zu (mW A s X) 32 s r = mW A s (X.1, r, X.2.2) := by
  funext a i
  by_cases hc : a = 32 ∧ i = s
  · obtain ⟨rfl, rfl⟩ := hc
    rw [zu_s, mW_32]
  · have e : zu (mW A s X) 32 s r a i = mW A s X a i := if_neg hc
    rw [e]
    unfold mW
    rw [if_neg hc, if_neg hc]
theorem mW_col {c : Int} : zu (mW A s X) 33 s c = mW A s (X.1, X.2.1, c) := by
  funext a i
  by_cases hc : a = 33 ∧ i = s
  · obtain ⟨rfl, rfl⟩ := hc
    rw [zu_s, mW_33]
  · have e : zu (mW A s X) 33 s c a i = mW A s X a i := if_neg hc
    rw [e]
    unfold mW
    rw [if_neg hc, if_neg hc]
theorem mW_W : mW (mW A s X) s Y = mW A s Y := by
  funext a i
  unfold mW
  by_cases h1 : a = 30 ∧ 192 * s ≤ i ∧ i < 192 * s + 192
  · rw [if_pos h1, if_pos h1]
  · rw [if_neg h1, if_neg h1, if_neg h1]
    by_cases h2 : a = 31 ∧ 192 * s ≤ i ∧ i < 192 * s + 192
    · rw [if_pos h2, if_pos h2]
    · rw [if_neg h2, if_neg h2, if_neg h2]
      by_cases h3 : a = 32 ∧ i = s
      · rw [if_pos h3, if_pos h3]
      · rw [if_neg h3, if_neg h3, if_neg h3]
        by_cases h4 : a = 33 ∧ i = s
        · rw [if_pos h4, if_pos h4]
        · rw [if_neg h4, if_neg h4, if_neg h4]
theorem ixw {s k : Nat} (hs : s ≤ 1000) (hk : k ≤ 100000) : zw (zw (192 * (s : Int)) + (k : Int)) = ((192 * s + k : Nat) : Int) := by
  rw [zw_eq (x := 192 * (s : Int)) (by omega) (by omega), zw_eq (by omega) (by omega)]
  omega
end mScr
section mBlank
variable {h : zH} {I : Nat → Int} {A : Nat → Nat → Int} {s : Nat} {X : sC} {Q : Option zV → zH → Prop} (hm : mOK h)
theorem m_blank_l {fr to : Nat} (hm : mOK h) (hs : s < 69) (hto : to ≤ 192) {l2 : Option zV} (hQ : Q none (zM h I (mW A s (fun k => if fr ≤ k ∧ k < to then 32 else X.1 k, X.2)))) : ∀ (d i : Nat), i + d = to → fr ≤ i → zE 107 3 [some (.inr 29), some (.inl (s : Int)), l2, some (.inl (to : Int)), some (.inl (i : Int))] [] (zM h I (mW A s (fun k => if fr ≤ k ∧ k < i then 32 else X.1 k, X.2))) Q := by
  intro d
  induction d with
  | zero =>
    intro i hi hf
    have e : i = to := by omega
    subst e
    rw [yX11_blank_3 hm, if_pos (by omega), yX11_blank_44 hm]
    exact hQ
  | succ d ih =>
    intro i hi hf
    have e2 : zu (zu (mW A s (fun k => if fr ≤ k ∧ k < i then 32 else X.1 k, X.2)) 30 (192 * s + i) 32) 31 (192 * s + i) 0 = mW A s (fun k => if fr ≤ k ∧ k < i + 1 then 32 else X.1 k, X.2) := by
      have e3 := mW_cell (A := A) (s := s) (X := (fun k => if fr ≤ k ∧ k < i then 32 else X.1 k, X.2)) (k := i) (v := 32) (by omega)
      have e4 : fup (fun k => if fr ≤ k ∧ k < i then 32 else X.1 k) i 32 = fun k => if fr ≤ k ∧ k < i + 1 then 32 else X.1 k := by
        funext k
        unfold fup
        by_cases hk : k = i
        · rw [if_pos hk, if_pos (by omega)]
        · rw [if_neg hk]
          dsimp only
          by_cases hk2 : fr ≤ k ∧ k < i
          · rw [if_pos hk2, if_pos (by omega)]
          · rw [if_neg hk2, if_neg (by omega)]
      exact e3.trans (by show mW A s (fup (fun k => if fr ≤ k ∧ k < i then 32 else X.1 k) i 32, X.2) = _; rw [e4])
    rw [yX11_blank_3 hm, if_neg (by omega), yX11_blank_9 hm, yX11_blank_24 hm, yX11_blank_38 hm, ixw (by omega) (by omega), Int.toNat_natCast, e2, zw_eq (by omega) (by omega)]
    exact ⟨⟨by omega, by omega⟩, ⟨by omega, by omega⟩, ih (i + 1) (by omega) (by omega)⟩
theorem m_blank {fr to : Nat} (hm : mOK h) (hs : s < 69) (hto : to ≤ 192) (hf : fr ≤ to) (hQ : Q none (zM h I (mW A s (fun k => if fr ≤ k ∧ k < to then 32 else X.1 k, X.2)))) {l4 : Option zV} : zE 107 0 [some (.inr 29), some (.inl (s : Int)), some (.inl (fr : Int)), some (.inl (to : Int)), l4] [] (zM h I (mW A s X)) Q := by
  rw [yX11_blank_0 hm]
  have := m_blank_l (l2 := some (.inl (fr : Int))) hm hs hto hQ (to - fr) fr (by omega) (by omega)
  have e : (fun k => if fr ≤ k ∧ k < fr then 32 else X.1 k) = X.1 := by
    funext k
    rw [if_neg (by omega)]
  rw [e] at this
  exact this
/-- the first n cells alone -/
def mP (A : Nat → Nat → Int) (s n : Nat) (C : Nat → Int) : Nat → Nat → Int := fun a i =>
  if a = 30 ∧ 192 * s ≤ i ∧ i < 192 * s + n then C (i - 192 * s) % 128
  else if a = 31 ∧ 192 * s ≤ i ∧ i < 192 * s + n then C (i - 192 * s) / 128 else A a i
theorem mP_0 {C : Nat → Int} : mP A s 0 C = A := by
  funext a i
  unfold mP
  rw [if_neg (by omega), if_neg (by omega)]
theorem mP_s {n : Nat} {C : Nat → Int} : zu (zu (mP A s n C) 30 (192 * s + n) (C n % 128)) 31 (192 * s + n) (C n / 128) = mP A s (n + 1) C := by
  funext a i
  by_cases hi : i = 192 * s + n
  · subst hi
    have e : 192 * s + n - 192 * s = n := by omega
    by_cases h30 : a = 30
    · subst h30
      rw [zu_na (by decide), zu_s]
      unfold mP
      rw [if_pos (by omega), e]
    · by_cases h31 : a = 31
      · subst h31
        rw [zu_s]
        unfold mP
        rw [if_neg (by omega), if_pos (by omega), e]
      · rw [zu_na h31, zu_na h30]
        unfold mP
        rw [if_neg (fun q => h30 q.1), if_neg (fun q => h31 q.1), if_neg (fun q => h30 q.1), if_neg (fun q => h31 q.1)]
  · rw [zu_ni hi, zu_ni hi]
    unfold mP
    by_cases hr : 192 * s ≤ i ∧ i < 192 * s + n
    · by_cases h30 : a = 30
      · rw [if_pos ⟨h30, hr⟩, if_pos ⟨h30, hr.1, by omega⟩]
      · by_cases h31 : a = 31
        · rw [if_neg (fun q => h30 q.1), if_pos ⟨h31, hr⟩, if_neg (fun q => h30 q.1), if_pos ⟨h31, hr.1, by omega⟩]
        · rw [if_neg (fun q => h30 q.1), if_neg (fun q => h31 q.1), if_neg (fun q => h30 q.1), if_neg (fun q => h31 q.1)]
    · rw [if_neg (fun q => hr q.2), if_neg (fun q => hr q.2), if_neg (fun q => hr ⟨q.2.1, by omega⟩), if_neg (fun q => hr ⟨q.2.1, by omega⟩)]
theorem mP_W : zu (zu (mP A s 192 X.1) 32 s X.2.1) 33 s X.2.2 = mW A s X := by
  funext a i
  unfold mW
  by_cases h1 : a = 30 ∧ 192 * s ≤ i ∧ i < 192 * s + 192
  · rw [if_pos h1, zu_na (by omega), zu_na (by omega)]
    unfold mP
    rw [if_pos h1]
  · rw [if_neg h1]
    by_cases h2 : a = 31 ∧ 192 * s ≤ i ∧ i < 192 * s + 192
    · rw [if_pos h2, zu_na (by omega), zu_na (by omega)]
      unfold mP
      rw [if_neg h1, if_pos h2]
    · rw [if_neg h2]
      unfold zu mP
      rw [if_neg h1, if_neg h2]
      by_cases h3 : a = 32 ∧ i = s
      · rw [if_pos h3, if_neg (by omega), if_pos h3]
      · rw [if_neg h3, if_neg h3]
theorem mP_o {a i n : Nat} {C : Nat → Int} (ha : a ≠ 30 ∧ a ≠ 31) : mP A s n C a i = A a i := by
  unfold mP
  rw [if_neg (fun q => ha.1 q.1), if_neg (fun q => ha.2 q.1)]
theorem m_copies_l {fr : Nat} (hm : mOK h) (hs : s < 69) (hf : fr < 69) (hfs : fr ≠ s) (hS : mS A fr X)
    (hQ : Q none (zM h I (zu (zu (mW A s X) 34 s (A 34 fr)) 35 s (A 35 fr)))) : ∀ (d i : Nat), i + d = 192 → zE 108 2 [some (.inr 29), some (.inl (fr : Int)), some (.inl (s : Int)), some (.inl (i : Int))] [] (zM h I (mP A s i X.1)) Q := by
  intro d
  induction d with
  | zero =>
    intro i hi
    have e : i = 192 := by omega
    subst e
    rw [yX11_copies_2 hm, if_pos (by omega), yX11_copies_63 hm, yX11_copies_75 hm, yX11_copies_87 hm, yX11_copies_99 hm, yX11_copies_111 hm]
    simp only [Int.toNat_natCast]
    rw [mP_o (by decide), zu_na (by decide), mP_o (by decide), hS.2.1, hS.2.2, mP_W, mW_o (by decide), zu_na (by decide), mW_o (by decide)]
    refine ⟨⟨by omega, by omega⟩, ⟨by omega, by omega⟩, ⟨by omega, by omega⟩, ⟨by omega, by omega⟩, ⟨by omega, by omega⟩, ⟨by omega, by omega⟩, ⟨by omega, by omega⟩, ⟨by omega, by omega⟩, hQ⟩
  | succ d ih =>
    intro i hi
    have hc := hS.1 i (by omega)
    have e30 : mP A s i X.1 30 (192 * fr + i) = X.1 i % 128 := by
      unfold mP
      rw [if_neg (by omega), if_neg (by omega)]
      exact hc.1
    have e31 : zu (mP A s i X.1) 30 (192 * s + i) (X.1 i % 128) 31 (192 * fr + i) = X.1 i / 128 := by
      rw [zu_na (by decide)]
      unfold mP
      rw [if_neg (by omega), if_neg (by omega)]
      exact hc.2
    rw [yX11_copies_2 hm, if_neg (by omega), yX11_copies_9 hm, ixw (by omega) (by omega), ixw (by omega) (by omega), Int.toNat_natCast, Int.toNat_natCast, e30, yX11_copies_33 hm, ixw (by omega) (by omega), ixw (by omega) (by omega), Int.toNat_natCast, Int.toNat_natCast, e31, yX11_copies_57 hm, mP_s, zw_eq (by omega) (by omega)]
    exact ⟨⟨by omega, by omega⟩, ⟨by omega, by omega⟩, ⟨by omega, by omega⟩, ⟨by omega, by omega⟩, ih (i + 1) (by omega)⟩
theorem m_copies {fr : Nat} (hm : mOK h) (hs : s < 69) (hf : fr < 69) (hfs : fr ≠ s) (hS : mS A fr X)
    (hQ : Q none (zM h I (zu (zu (mW A s X) 34 s (A 34 fr)) 35 s (A 35 fr)))) {l3 : Option zV} : zE 108 0 [some (.inr 29), some (.inl (fr : Int)), some (.inl (s : Int)), l3] [] (zM h I A) Q := by
  rw [yX11_copies_0 hm]
  have := m_copies_l hm hs hf hfs hS hQ 192 0 (by omega)
  rw [mP_0] at this
  exact this
theorem m_scrolls_l {n : Nat} (hm : mOK h) (hs : s < 69) (hn : n ≤ 8) (hQ : Q none (zM h I (mW A s (scr n X.1, X.2)))) : ∀ (d i : Nat), i + d = 192 - 24 * n → zE 109 2 [some (.inr 29), some (.inl (s : Int)), some (.inl (n : Int)), some (.inl (i : Int))] [] (zM h I (mW A s (fun k => if k < i then scr n X.1 k else X.1 k, X.2))) Q := by
  intro d
  induction d with
  | zero =>
    intro i hi
    have w1 : zw (24 * (n : Int)) = 24 * (n : Int) := zw_eq (by omega) (by omega)
    rw [yX11_scrolls_2 hm, w1, zw_eq (by omega) (by omega), if_pos (by omega), yX11_scrolls_78 hm, w1, zw_eq (by omega) (by omega), show (192 : Int) - 24 * (n : Int) = (i : Int) by omega]
    refine m_blank (fr := i) (to := 192) hm hs (by omega) (by omega) ?_
    simp only [Option.toList_none, List.nil_append]
    rw [yX11_scrolls_94 hm]
    have e : (fun k => if i ≤ k ∧ k < 192 then (32 : Int) else if k < i then scr n X.1 k else X.1 k) = scr n X.1 := by
      funext k
      by_cases h1 : i ≤ k ∧ k < 192
      · rw [if_pos h1]
        unfold scr
        rw [if_neg (by omega), if_neg (by omega)]
      · rw [if_neg h1]
        by_cases h2 : k < i
        · rw [if_pos h2]
        · rw [if_neg h2]
          unfold scr
          rw [if_pos (by omega)]
    show Q none (zM h I (mW A s ((fun k => if i ≤ k ∧ k < 192 then (32 : Int) else if k < i then scr n X.1 k else X.1 k), X.2)))
    rw [e]
    exact hQ
  | succ d ih =>
    intro i hi
    have w1 : zw (24 * (n : Int)) = 24 * (n : Int) := zw_eq (by omega) (by omega)
    have w2 : zw (zw (zw (192 * (s : Int)) + (i : Int)) + zw (24 * (n : Int))) = ((192 * s + (i + 24 * n) : Nat) : Int) := by
      rw [ixw (by omega) (by omega), w1, zw_eq (by omega) (by omega)]
      omega
    have ec : scr n X.1 i = X.1 (i + 24 * n) := by
      unfold scr
      rw [if_neg (by omega), if_pos (by omega)]
    have e30 : mW A s (fun k => if k < i then scr n X.1 k else X.1 k, X.2) 30 (192 * s + (i + 24 * n)) = scr n X.1 i % 128 := by
      rw [mW_30 (by omega)]
      show (if i + 24 * n < i then scr n X.1 (i + 24 * n) else X.1 (i + 24 * n)) % 128 = _
      rw [if_neg (by omega), ec]
    have e31 : zu (mW A s (fun k => if k < i then scr n X.1 k else X.1 k, X.2)) 30 (192 * s + i) (scr n X.1 i % 128) 31 (192 * s + (i + 24 * n)) = scr n X.1 i / 128 := by
      rw [zu_na (by decide), mW_31 (by omega)]
      show (if i + 24 * n < i then scr n X.1 (i + 24 * n) else X.1 (i + 24 * n)) / 128 = _
      rw [if_neg (by omega), ec]
    have e4 : fup (fun k => if k < i then scr n X.1 k else X.1 k) i (scr n X.1 i) = fun k => if k < i + 1 then scr n X.1 k else X.1 k := by
      funext k
      unfold fup
      by_cases hk : k = i
      · rw [if_pos hk, if_pos (by omega), hk]
      · rw [if_neg hk]
        dsimp only
        by_cases hk2 : k < i
        · rw [if_pos hk2, if_pos (by omega)]
        · rw [if_neg hk2, if_neg (by omega)]
    have e3 := mW_cell (A := A) (s := s) (X := (fun k => if k < i then scr n X.1 k else X.1 k, X.2)) (k := i) (v := scr n X.1 i) (by omega)
    dsimp only at e3
    rw [e4] at e3
    rw [yX11_scrolls_2 hm, w1, zw_eq (by omega) (by omega), if_neg (by omega), yX11_scrolls_14 hm, w2, ixw (by omega) (by omega), Int.toNat_natCast, Int.toNat_natCast, e30, yX11_scrolls_43 hm, w2, ixw (by omega) (by omega), Int.toNat_natCast, Int.toNat_natCast, e31, e3, yX11_scrolls_72 hm, zw_eq (by omega) (by omega)]
    exact ⟨⟨by omega, by omega⟩, ⟨by omega, by omega⟩, ⟨by omega, by omega⟩, ⟨by omega, by omega⟩, ih (i + 1) (by omega)⟩
theorem m_scrolls {n : Nat} (hm : mOK h) (hs : s < 69) (hn : n ≤ 8) (hQ : Q none (zM h I (mW A s (scr n X.1, X.2)))) {l3 : Option zV} : zE 109 0 [some (.inr 29), some (.inl (s : Int)), some (.inl (n : Int)), l3] [] (zM h I (mW A s X)) Q := by
  rw [yX11_scrolls_0 hm]
  have := m_scrolls_l hm hs hn hQ (192 - 24 * n) 0 (by omega)
  have e : (fun k => if k < 0 then scr n X.1 k else X.1 k) = X.1 := by
    funext k
    rw [if_neg (by omega)]
  rw [e] at this
  exact this
end mBlank
