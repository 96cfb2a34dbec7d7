/-! THE CLASS'S FAR END: the keys of a letter, pressed one after another -/
def s_keys (prog pen : Int) (ks : Nat → Int) : Nat → Nat → sC × Int → sC × Int
  | 0, _, y => y
  | d + 1, i, y => s_keys prog pen ks d (i + 1) (s_press prog pen (ks i) y.1 y.2)
section zKeys
variable {h : zH} {a s l m : Nat} {xs : List Int} {pen prog : Int} {Q : Option zV → zH → Prop}
theorem zsI_Scr_o {f x : Nat} {v : Int} {C : Nat → Int} {r c : Int} (h1 : f ≠ 385) (h2 : f ≠ 386) : zsI (zScr h s C r c) f x v = zScr (zsI h f x v) s C r c := by
  refine zH_ext rfl ?_ rfl rfl rfl rfl rfl
  funext f' y
  show (if f' = f ∧ y = x then v else if f' = 385 ∧ y = s then r else if f' = 386 ∧ y = s then c else zI h f' y) = (if f' = 385 ∧ y = s then r else if f' = 386 ∧ y = s then c else if f' = f ∧ y = x then v else zI h f' y)
  by_cases q : f' = f ∧ y = x
  · rw [if_pos q, if_neg (fun e => h1 (q.1.symm.trans e.1)), if_neg (fun e => h2 (q.1.symm.trans e.1)), if_pos q]
  · rw [if_neg q, if_neg q]
theorem zsI_two {f x : Nat} {v w : Int} : zsI (zsI h f x v) f x w = zsI h f x w := by
  refine zH_ext rfl ?_ rfl rfl rfl rfl rfl
  funext f' y
  show (if f' = f ∧ y = x then w else if f' = f ∧ y = x then v else zI h f' y) = (if f' = f ∧ y = x then w else zI h f' y)
  by_cases q : f' = f ∧ y = x
  · rw [if_pos q, if_pos q]
  · rw [if_neg q, if_neg q, if_neg q]
theorem isL_sI {f x : Nat} {v : Int} (hL : isL h l m xs) (hf : f ≠ 193) : isL (zsI h f x v) l m xs := by
  obtain ⟨h1, h2, h3, h4⟩ := hL
  exact ⟨h1, (zI_ne (Ne.symm hf)).trans h2, h3, h4⟩
theorem c_keys {kn ty : Nat} (ha : (zK h a).1 = 10) (hR : zR h 0 a = s) (hs : sOK h s) (hp : zI h 4 a = pen) (hpr : 0 ≤ pen ∧ pen ≤ 1000) (hg : zI h 2 a = prog)
    (hL : isL h l m xs) (hn : zR h 192 l ≠ zR h 384 s) (hty : ty ≤ 100000) :
    ∀ (d i : Nat) (y : sC × Int), i + d = ty → kn ≤ i → s_in y.1 → 0 ≤ y.2 ∧ y.2 ≤ 20 →
    (zE 6 83 [some (.inr a), some (.inr l), some (.inl (kn : Int)), some (.inl (ty : Int)), some (.inl (ty : Int))] [] (zScr (zsI h 3 a (s_keys prog pen (fun j => bt xs (8 + j - kn)) d i y).2) s (s_keys prog pen (fun j => bt xs (8 + j - kn)) d i y).1.1 (s_keys prog pen (fun j => bt xs (8 + j - kn)) d i y).1.2.1 (s_keys prog pen (fun j => bt xs (8 + j - kn)) d i y).1.2.2) Q) →
    zE 6 56 [some (.inr a), some (.inr l), some (.inl (kn : Int)), some (.inl (ty : Int)), some (.inl (i : Int))] [] (zScr (zsI h 3 a y.2) s y.1.1 y.1.2.1 y.1.2.2) Q := by
  intro d
  induction d with
  | zero =>
    intro i y hi hk hin hy hQ
    have e : i = ty := by omega
    subst e
    rw [xX1_take_56, if_pos (by omega)]
    exact hQ
  | succ d ih =>
    intro i y hi hk hin hy hQ
    unfold s_keys at hQ
    have hL1 : isL (zsI h 3 a y.2) l m xs := isL_sI hL (by decide)
    have hL' := isL_Scr (C := y.1.1) (r := y.1.2.1) (c := y.1.2.2) hL1 hn
    rw [xX1_take_56, if_neg (by omega), xX1_take_62, zw_eq (x := 8 + (i : Int)) (by omega) (by omega), zw_eq (by omega) (by omega), show (8 + (i : Int) - kn) = ((8 + i - kn : Nat) : Int) by omega]
    refine ⟨hL.1.1, c_Lat' hL' ?_⟩
    simp only [Option.toList_some, List.cons_append, List.nil_append]
    rw [xX1_take_74]
    refine ⟨ha, c_press (pen := pen) (prog := prog) (p := y.2) ha hR hs ((zI_ne (by decide)).trans hp) hpr zI_sI_s hy ((zI_ne (by decide)).trans hg) hin ?_⟩
    simp only [Option.toList_none, List.nil_append]
    rw [zsI_Scr_o (by decide) (by decide), zsI_two, xX1_take_77, zw_eq (by omega) (by omega)]
    exact ih (i + 1) (s_press prog pen (bt xs (8 + i - kn)) y.1 y.2) (by omega) (by omega) (s_press_in hin) (s_press_p hy) hQ
end zKeys
