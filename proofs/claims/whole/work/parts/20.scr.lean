/-! HEAPS OF THE SMALL MACHINE, and the class's screens -/
section zHp
variable {h : zH} {f a i x y s n N c t d : Nat} {v w : Int} {u : Nat}
theorem zK_sI : zK (zsI h f a v) = zK h := rfl
theorem zK_sR : zK (zsR h f a u) = zK h := rfl
theorem zK_sA : zK (zsA h a i v) = zK h := rfl
theorem zK_sB : zK (zsB h a i u) = zK h := rfl
theorem zK_cp : zK (zcp h s d n) = zK h := rfl
theorem zI_sR : zI (zsR h f a u) = zI h := rfl
theorem zI_sA : zI (zsA h a i v) = zI h := rfl
theorem zI_sB : zI (zsB h a i u) = zI h := rfl
theorem zI_cp : zI (zcp h s d n) = zI h := rfl
theorem zI_nA : zI (znA h t N) = zI h := rfl
theorem zR_sI : zR (zsI h f a v) = zR h := rfl
theorem zR_sA : zR (zsA h a i v) = zR h := rfl
theorem zR_sB : zR (zsB h a i u) = zR h := rfl
theorem zR_cp : zR (zcp h s d n) = zR h := rfl
theorem zR_nA : zR (znA h t N) = zR h := rfl
theorem zA_sI : zA (zsI h f a v) = zA h := rfl
theorem zA_sR : zA (zsR h f a u) = zA h := rfl
theorem zA_sB : zA (zsB h a i u) = zA h := rfl
theorem zA_nO : zA (znO h c N) = zA h := rfl
theorem zB_sI : zB (zsI h f a v) = zB h := rfl
theorem zB_sR : zB (zsR h f a u) = zB h := rfl
theorem zB_sA : zB (zsA h a i v) = zB h := rfl
theorem zB_cp : zB (zcp h s d n) = zB h := rfl
theorem zB_nO : zB (znO h c N) = zB h := rfl
theorem zn_sI : zn (zsI h f a v) = zn h := rfl
theorem zn_sR : zn (zsR h f a u) = zn h := rfl
theorem zn_sA : zn (zsA h a i v) = zn h := rfl
theorem zn_sB : zn (zsB h a i u) = zn h := rfl
theorem zn_cp : zn (zcp h s d n) = zn h := rfl
theorem zn_nO : zn (znO h c N) = zn h + 1 := rfl
theorem zn_nA : zn (znA h t N) = zn h + 1 := rfl
theorem zs_sI : zs (zsI h f a v) = zs h := rfl
theorem zs_sR : zs (zsR h f a u) = zs h := rfl
theorem zs_sA : zs (zsA h a i v) = zs h := rfl
theorem zs_sB : zs (zsB h a i u) = zs h := rfl
theorem zs_cp : zs (zcp h s d n) = zs h := rfl
theorem zs_nO : zs (znO h c N) = zs h + N := rfl
theorem zs_nA : zs (znA h t N) = zs h + N := rfl
theorem zI_sI : zI (zsI h f a v) x y = if x = f ∧ y = a then v else zI h x y := rfl
theorem zR_sR : zR (zsR h f a u) x y = if x = f ∧ y = a then u else zR h x y := rfl
theorem zA_sA : zA (zsA h a i v) x y = if x = a ∧ y = i then v else zA h x y := rfl
theorem zB_sB : zB (zsB h a i u) x y = if x = a ∧ y = i then u else zB h x y := rfl
theorem zA_cp : zA (zcp h s d n) x y = if x = d ∧ y < n then zA h s y else zA h x y := rfl
theorem zK_nO : zK (znO h c N) x = if x = zn h then (10 + c, 0) else zK h x := rfl
theorem zK_nA : zK (znA h t N) x = if x = zn h then (t, N) else zK h x := rfl
theorem zI_nO : zI (znO h c N) x y = if y = zn h then 0 else zI h x y := rfl
theorem zR_nO : zR (znO h c N) x y = if y = zn h then 0 else zR h x y := rfl
theorem zA_nA : zA (znA h t N) x y = if x = zn h then 0 else zA h x y := rfl
theorem zB_nA : zB (znA h t N) x y = if x = zn h then 0 else zB h x y := rfl
theorem zH_ext {h h' : zH} (h1 : zK h = zK h') (h2 : zI h = zI h') (h3 : zR h = zR h') (h4 : zA h = zA h') (h5 : zB h = zB h') (h6 : zn h = zn h') (h7 : zs h = zs h') : h = h' :=
  Prod.ext h1 (Prod.ext h2 (Prod.ext h3 (Prod.ext h4 (Prod.ext h5 (Prod.ext h6 h7)))))
end zHp
def fup (g : Nat → Int) (k : Nat) (v : Int) : Nat → Int := fun j => if j = k then v else g j
/-- a whole array's contents -/
def zAs (h : zH) (a : Nat) (g : Nat → Int) : zH := (zK h, zI h, zR h, fun x i => if x = a then g i else zA h x i, zB h, zn h, zs h)
theorem zA_As (h : zH) (a x i : Nat) (g : Nat → Int) : zA (zAs h a g) x i = if x = a then g i else zA h x i := rfl
theorem zA_As_s (h : zH) (a : Nat) (g : Nat → Int) : zA (zAs h a g) a = g := funext fun i => if_pos rfl
theorem zsA_As (h : zH) (a i : Nat) (g : Nat → Int) (v : Int) : zsA (zAs h a g) a i v = zAs h a (fup g i v) := by
  refine zH_ext rfl rfl rfl ?_ rfl rfl rfl
  funext x j
  show (if x = a ∧ j = i then v else if x = a then g j else zA h x j) = if x = a then (if j = i then v else g j) else zA h x j
  by_cases h1 : x = a <;> by_cases h2 : j = i <;> simp [h1, h2]
theorem zAs_id (h : zH) (a : Nat) : zAs h a (zA h a) = h := by
  refine zH_ext rfl rfl rfl ?_ rfl rfl rfl
  funext x j
  show (if x = a then zA h a j else zA h x j) = zA h x j
  by_cases h1 : x = a
  · rw [if_pos h1, h1]
  · rw [if_neg h1]
theorem zAs_As (h : zH) (a : Nat) (g g' : Nat → Int) : zAs (zAs h a g) a g' = zAs h a g' := by
  refine zH_ext rfl rfl rfl ?_ rfl rfl rfl
  funext x j
  show (if x = a then g' j else if x = a then g j else zA h x j) = if x = a then g' j else zA h x j
  by_cases h1 : x = a <;> simp [h1]
/-- a screen's contents: cells, row, column -/
def zScr (h : zH) (s : Nat) (C : Nat → Int) (r c : Int) : zH := (zK h, fun f x => if f = 385 ∧ x = s then r else if f = 386 ∧ x = s then c else zI h f x, zR h, fun x i => if x = zR h 384 s then C i else zA h x i, zB h, zn h, zs h)
section zScrs
variable {h : zH} {s : Nat} {C D : Nat → Int} {r c r' c' v : Int}
theorem zK_Scr : zK (zScr h s C r c) = zK h := rfl
theorem zR_Scr : zR (zScr h s C r c) = zR h := rfl
theorem zB_Scr : zB (zScr h s C r c) = zB h := rfl
theorem zn_Scr : zn (zScr h s C r c) = zn h := rfl
theorem zs_Scr : zs (zScr h s C r c) = zs h := rfl
theorem zI_Scr {f x : Nat} : zI (zScr h s C r c) f x = if f = 385 ∧ x = s then r else if f = 386 ∧ x = s then c else zI h f x := rfl
theorem zI_Scr_r : zI (zScr h s C r c) 385 s = r := if_pos ⟨rfl, rfl⟩
theorem zI_Scr_c : zI (zScr h s C r c) 386 s = c := by
  rw [zI_Scr, if_neg (by omega), if_pos ⟨rfl, rfl⟩]
theorem zA_Scr {x i : Nat} : zA (zScr h s C r c) x i = if x = zR h 384 s then C i else zA h x i := rfl
theorem zA_Scr_s : zA (zScr h s C r c) (zR h 384 s) = C := funext fun i => if_pos rfl
theorem zScr_id : zScr h s (zA h (zR h 384 s)) (zI h 385 s) (zI h 386 s) = h := by
  refine zH_ext rfl ?_ rfl ?_ rfl rfl rfl
  · funext f x
    show (if f = 385 ∧ x = s then zI h 385 s else if f = 386 ∧ x = s then zI h 386 s else zI h f x) = zI h f x
    by_cases h1 : f = 385 ∧ x = s
    · rw [if_pos h1, h1.1, h1.2]
    · rw [if_neg h1]
      by_cases h2 : f = 386 ∧ x = s
      · rw [if_pos h2, h2.1, h2.2]
      · rw [if_neg h2]
  · funext x i
    show (if x = zR h 384 s then zA h (zR h 384 s) i else zA h x i) = zA h x i
    by_cases h1 : x = zR h 384 s
    · rw [if_pos h1, h1]
    · rw [if_neg h1]
theorem zsA_Scr {i : Nat} : zsA (zScr h s C r c) (zR h 384 s) i v = zScr h s (fup C i v) r c := by
  refine zH_ext rfl rfl rfl ?_ rfl rfl rfl
  funext x j
  rw [zA_sA, zA_Scr, zA_Scr]
  unfold fup
  by_cases h1 : x = zR h 384 s <;> by_cases h2 : j = i <;> simp [h1, h2]
theorem zsI_Scr_r : zsI (zScr h s C r c) 385 s r' = zScr h s C r' c := by
  refine zH_ext rfl ?_ rfl rfl rfl rfl rfl
  funext f x
  rw [zI_sI, zI_Scr, zI_Scr]
  by_cases h1 : f = 385 ∧ x = s <;> simp [h1]
theorem zsI_Scr_c : zsI (zScr h s C r c) 386 s c' = zScr h s C r c' := by
  refine zH_ext rfl ?_ rfl rfl rfl rfl rfl
  funext f x
  rw [zI_sI, zI_Scr, zI_Scr]
  by_cases h2 : f = 386 ∧ x = s
  · have h1 : ¬ (f = 385 ∧ x = s) := by omega
    rw [if_pos h2, if_neg h1, if_pos h2]
  · rw [if_neg h2]
    by_cases h1 : f = 385 ∧ x = s
    · rw [if_pos h1, if_pos h1]
    · rw [if_neg h1, if_neg h2, if_neg h1, if_neg h2]
theorem zScr_Scr : zScr (zScr h s C r c) s D r' c' = zScr h s D r' c' := by
  refine zH_ext rfl ?_ rfl ?_ rfl rfl rfl
  · funext f x
    rw [zI_Scr, zI_Scr, zI_Scr]
    by_cases h1 : f = 385 ∧ x = s
    · rw [if_pos h1, if_pos h1]
    · rw [if_neg h1, if_neg h1, if_neg h1]
      by_cases h2 : f = 386 ∧ x = s
      · rw [if_pos h2, if_pos h2]
      · rw [if_neg h2, if_neg h2, if_neg h2]
  · funext x i
    rw [zA_Scr, zA_Scr, zA_Scr, zR_Scr]
    by_cases h1 : x = zR h 384 s <;> simp [h1]
theorem zAs_Scr : zAs (zScr h s C r c) (zR h 384 s) D = zScr h s D r c := by
  refine zH_ext rfl rfl rfl ?_ rfl rfl rfl
  funext x i
  rw [zA_As, zA_Scr, zA_Scr]
  by_cases h1 : x = zR h 384 s <;> simp [h1]
/-- a screen of the class as it must be made -/
def sOK (h : zH) (s : Nat) : Prop := (zK h s).1 = 16 ∧ zK h (zR h 384 s) = (1, 192)
theorem sOK_Scr {t : Nat} : sOK (zScr h s C r c) t ↔ sOK h t := Iff.rfl
end zScrs
-- the document's own words for screens: cells, row, column
abbrev sC : Type := (Nat → Int) × Int × Int
def scr (n : Nat) (C : Nat → Int) : Nat → Int := fun k => if 192 ≤ k then C k else if k + 24 * n < 192 then C (k + 24 * n) else 32
def s_nl (x : sC) : sC := if x.2.1 < 7 then (x.1, x.2.1 + 1, 0) else (scr 1 x.1, x.2.1, 0)
def s_put (v : Int) (x : sC) : sC := if x.2.2 < 23 then (fup x.1 (24 * x.2.1 + x.2.2).toNat v, x.2.1, x.2.2 + 1) else s_nl (fup x.1 (24 * x.2.1 + x.2.2).toNat v, x.2.1, x.2.2)
def s_rub (x : sC) : sC := if x.2.2 ≤ 0 then x else (fup x.1 (24 * x.2.1 + (x.2.2 - 1)).toNat 32, x.2.1, x.2.2 - 1)
def s_step (dr dc : Int) (x : sC) : sC := if 0 ≤ x.2.1 + dr ∧ x.2.1 + dr < 8 ∧ 0 ≤ x.2.2 + dc ∧ x.2.2 + dc < 24 then (x.1, x.2.1 + dr, x.2.2 + dc) else x
def s_row (r : Int) (v : Int) (C : Nat → Int) : Nat → Int := fun k => if 24 * r ≤ (k : Int) ∧ (k : Int) < 24 * r + 24 then v else C k
def s_in (x : sC) : Prop := 0 ≤ x.2.1 ∧ x.2.1 < 8 ∧ 0 ≤ x.2.2 ∧ x.2.2 < 24
theorem scr_0 (C : Nat → Int) : scr 0 C = C := by
  funext k
  unfold scr
  by_cases h : 192 ≤ k
  · rw [if_pos h]
  · rw [if_neg h, if_pos (by omega)]; rfl
theorem s_nl_in {x : sC} (h : s_in x) : s_in (s_nl x) := by
  unfold s_nl s_in at *
  split <;> (dsimp only; omega)
theorem s_put_in {x : sC} {v : Int} (h : s_in x) : s_in (s_put v x) := by
  unfold s_put
  split
  · unfold s_in at *; dsimp only; omega
  · exact s_nl_in h
theorem s_rub_in {x : sC} (h : s_in x) : s_in (s_rub x) := by
  unfold s_rub s_in at *
  split
  · exact h
  · dsimp only; omega
theorem s_step_in {x : sC} {dr dc : Int} (h : s_in x) : s_in (s_step dr dc x) := by
  unfold s_step
  split
  · unfold s_in; dsimp only; omega
  · exact h
section zScrM
variable {h : zH} {s : Nat} {C D : Nat → Int} {r c v : Int} {Q : Option zV → zH → Prop}
theorem c_at {x y : Int} (hs : sOK h s) (hQ : Q (some (.inl (if 0 ≤ x ∧ x < 8 ∧ 0 ≤ y ∧ y < 24 then zA h (zR h 384 s) (24 * x + y).toNat else 32))) h) : zE 56 0 [some (.inr s), some (.inl x), some (.inl y)] [] h Q := by
  obtain ⟨h1, h2⟩ := hs
  simp only [xX7_at_0, xX7_at_4, xX7_at_10, xX7_at_14, xX7_at_20, xX7_at_34, xX7_at_36, h1, h2]
  by_cases hi : 0 ≤ x ∧ x < 8 ∧ 0 ≤ y ∧ y < 24
  · rw [if_neg (by omega), if_neg (by omega), if_neg (by omega), if_neg (by omega)]
    simp (disch := omega) only [zw_eq]
    rw [if_pos hi] at hQ
    rw [show x * 24 + y = 24 * x + y by omega]
    exact ⟨trivial, Or.inl trivial, ⟨by omega, by omega⟩, hQ⟩
  · rw [if_neg hi] at hQ
    (repeat' split) <;> first | exact hQ | omega
theorem c_set {x y : Int} (hs : sOK h s) (hQ : Q none (if 0 ≤ x ∧ x < 8 ∧ 0 ≤ y ∧ y < 24 then zScr h s (fup C (24 * x + y).toNat v) r c else zScr h s C r c)) : zE 57 0 [some (.inr s), some (.inl x), some (.inl y), some (.inl v)] [] (zScr h s C r c) Q := by
  obtain ⟨h1, h2⟩ := hs
  simp only [xX7_set_0, xX7_set_4, xX7_set_10, xX7_set_14, xX7_set_20, xX7_set_32, zK_Scr, zR_Scr, h1, h2, zsA_Scr]
  by_cases hi : 0 ≤ x ∧ x < 8 ∧ 0 ≤ y ∧ y < 24
  · rw [if_neg (by omega), if_neg (by omega), if_neg (by omega), if_neg (by omega)]
    simp (disch := omega) only [zw_eq]
    rw [if_pos hi] at hQ
    rw [show x * 24 + y = 24 * x + y by omega]
    exact ⟨trivial, trivial, ⟨by omega, by omega⟩, hQ⟩
  · rw [if_neg hi] at hQ
    (repeat' split) <;> first | exact hQ | omega
theorem c_scrollBy_l {n : Nat} (hs : sOK h s) (hn : n ≤ 8) (hQ : Q none (zScr h s (scr n C) r c)) {l1 : Option zV} : ∀ (m i : Nat), i + m = 192 → zE 62 23 [some (.inr s), l1, some (.inl (24 * n)), some (.inl 192), some (.inl i)] [] (zScr h s (fun k => if k < i then scr n C k else C k) r c) Q := by
  obtain ⟨h1, h2⟩ := id hs
  intro m
  induction m with
  | zero =>
    intro i hi
    simp only [xX7_scrollBy_23, xX7_scrollBy_64]
    rw [if_pos (by omega)]
    have e : (fun k => if k < i then scr n C k else C k) = scr n C := by
      funext k
      by_cases hk : k < i
      · rw [if_pos hk]
      · rw [if_neg hk]; unfold scr; rw [if_pos (by omega)]
    rw [e]
    exact hQ
  | succ m ih =>
    intro i hi
    have hstep : zsA (zScr h s (fun k => if k < i then scr n C k else C k) r c) (zR h 384 s) i (scr n C i) = zScr h s (fun k => if k < i + 1 then scr n C k else C k) r c := by
      rw [zsA_Scr]
      have e : fup (fun k => if k < i then scr n C k else C k) i (scr n C i) = (fun k => if k < i + 1 then scr n C k else C k) := by
        funext k
        unfold fup
        by_cases hk : k = i
        · rw [if_pos hk, if_pos (by omega), hk]
        · rw [if_neg hk]
          dsimp only
          by_cases hk2 : k < i
          · rw [if_pos hk2, if_pos (by omega)]
          · rw [if_neg hk2, if_neg (by omega)]
      rw [e]
    rw [xX7_scrollBy_23, if_neg (by omega)]
    simp only [xX7_scrollBy_29, xX7_scrollBy_43, xX7_scrollBy_55, xX7_scrollBy_57, xX7_scrollBy_58, zK_Scr, zR_Scr, h1, h2]
    refine ⟨trivial, ?_⟩
    simp (disch := omega) only [zw_eq]
    have ih2 := ih (i + 1) (by omega)
    rw [show ((i + 1 : Nat) : Int) = (i : Int) + 1 by omega] at ih2
    rw [show ((i : Int)).toNat = i from Int.toNat_natCast i]
    by_cases hg : (192 : Int) ≤ (i : Int) + 24 * n
    · rw [if_pos hg]
      have e32 : (32 : Int) = scr n C i := by unfold scr; rw [if_neg (by omega), if_neg (by omega)]
      rw [e32, hstep]
      exact ⟨trivial, ⟨by omega, by omega⟩, ih2⟩
    · rw [if_neg hg]
      have eC : zA (zScr h s (fun k => if k < i then scr n C k else C k) r c) (zR h 384 s) ((i : Int) + 24 * n).toNat = scr n C i := by
        rw [zA_Scr_s, if_neg (by omega)]
        unfold scr
        rw [if_neg (by omega), if_pos (by omega)]
        congr 1
      rw [eC, hstep]
      exact ⟨trivial, Or.inl trivial, ⟨by omega, by omega⟩, trivial, ⟨by omega, by omega⟩, ih2⟩
end zScrM
