/-! THE CLASS'S LETTERS, made and copied; ITS LINES -/
/-- a whole array of references -/
def zBs (h : zH) (a : Nat) (g : Nat → Nat) : zH := (zK h, zI h, zR h, zA h, fun x i => if x = a then g i else zB h x i, zn h, zs h)
def nup (g : Nat → Nat) (k v : Nat) : Nat → Nat := fun j => if j = k then v else g j
theorem zB_Bs (h : zH) (a x i : Nat) (g : Nat → Nat) : zB (zBs h a g) x i = if x = a then g i else zB h x i := rfl
theorem zB_Bs_s (h : zH) (a : Nat) (g : Nat → Nat) : zB (zBs h a g) a = g := funext fun i => if_pos rfl
theorem zsB_Bs (h : zH) (a i : Nat) (g : Nat → Nat) (v : Nat) : zsB (zBs h a g) a i v = zBs h a (nup g i v) := by
  refine zH_ext rfl rfl rfl rfl ?_ rfl rfl
  funext x j
  show (if x = a ∧ j = i then v else if x = a then g j else zB h x j) = if x = a then (if j = i then v else g j) else zB h x j
  by_cases h1 : x = a <;> by_cases h2 : j = i <;> simp [h1, h2]
theorem zBs_id (h : zH) (a : Nat) : zBs h a (zB h a) = h := by
  refine zH_ext rfl rfl rfl rfl ?_ rfl rfl
  funext x j
  show (if x = a then zB h a j else zB h x j) = zB h x j
  by_cases h1 : x = a
  · rw [if_pos h1, h1]
  · rw [if_neg h1]
theorem zsB_as (h : zH) (a i v : Nat) : zsB h a i v = zBs h a (nup (zB h a) i v) := by
  have := zsB_Bs h a i (zB h a) v
  rw [zBs_id] at this
  exact this
section zLineM
variable {h : zH} {l m : Nat} {g g' : Nat → Int} {n n' v : Int} {xs : List Int} {Q : Option zV → zH → Prop}
/-- Letter(room) -/
theorem c_Linit (hl0 : l ≠ 0) (hk : (zK h l).1 = 13) (hln : l < zn h) (hn : 0 ≤ n ∧ n ≤ 100000) (hQ : Q none (zsR (znA h 1 n.toNat) 192 l (zn h))) : zE 30 0 [some (.inr l), some (.inl n)] [] h Q := by
  simp only [xX4_init_0, xX4_init_4, xX4_init_10, xX4_init_12, xX4_init_15]
  rw [show max n 0 = n by omega, zK_nA, if_neg (by omega)]
  exact ⟨hl0, ⟨by omega, by omega⟩, hk, hQ⟩
theorem c_Lcopy_l {o mo : Nat} (hk : lOK h l m) (hlo : l ≠ o) (hbo : zR h 192 l ≠ zR h 192 o) (hL : isL h o mo xs) (hB : byteL xs) (hm : xs.length ≤ m) (hQ : ∀ g', isLs g' xs → Q none (zLet h l g' (xs.length : Nat))) :
    ∀ (d i : Nat) (g : Nat → Int), i + d = xs.length → isLs g (xs.take i) → zE 38 29 [some (.inr l), some (.inr o), some (.inl (i : Int))] [] (zLet h l g (i : Nat)) Q := by
  obtain ⟨⟨o1, o2, o3⟩, o4, o5, o6⟩ := id hL
  obtain ⟨h1, h2, h3⟩ := id hk
  have hLe : ∀ (g : Nat → Int) (k : Int), isL (zLet h l g k) o mo xs := by
    intro g k
    refine ⟨⟨o1, o2, o3⟩, ?_, o5, ?_⟩
    · rw [zI_Let, if_neg (fun q => hlo q.2.symm)]
      exact o4
    · have e : zA (zLet h l g k) (zR (zLet h l g k) 192 o) = zA h (zR h 192 o) := by
        funext i
        rw [zA_Let, zR_Let, if_neg (fun q => hbo q.symm)]
      rw [e]
      exact o6
  have hIo : ∀ (g : Nat → Int) (k : Int), zI (zLet h l g k) 193 o = xs.length := fun g k => (hLe g k).2.1
  intro d
  induction d with
  | zero =>
    intro i g hi hg
    have : i = xs.length := by omega
    subst this
    rw [List.take_length] at hg
    rw [xX4_copyFrom_29, hIo, if_pos (by omega), xX4_copyFrom_52]
    exact ⟨o1, hQ g hg⟩
  | succ d ih =>
    intro i g hi hg
    rw [xX4_copyFrom_29, hIo, if_neg (by omega), xX4_copyFrom_37]
    refine ⟨o1, o1, c_Lat' (hLe g i) ?_⟩
    simp only [Option.toList_some, List.cons_append, List.nil_append]
    rw [xX4_copyFrom_43]
    have hb := hB.at (i := i) (by omega)
    have hlen : (xs.take i).length = i := by rw [List.length_take]; omega
    have hput : zE 31 0 [some (.inr l), some (.inl (xs.getD i (-1)))] [] (zLet h l g ((xs.take i).length : Nat)) (fun r h' => zE 38 46 [some (.inr l), some (.inr o), some (.inl (i : Int))] (r.toList ++ []) h' Q) := by
      refine c_Lput hk (by omega) hg (by omega) ?_
      intro g1 hg1
      simp only [Option.toList_none, List.nil_append]
      rw [show xs.getD i (-1) % 256 = xs.getD i (-1) by omega, ← take_succ_getD (by omega)] at hg1 ⊢
      rw [xX4_copyFrom_46, zw_eq (by omega) (by omega)]
      have := ih (i + 1) g1 (by omega) hg1
      rw [show ((xs.take (i + 1)).length : Nat) = i + 1 by rw [List.length_take]; omega]
      rw [show ((i + 1 : Nat) : Int) = (i : Int) + 1 by omega] at this ⊢
      exact this
    rw [hlen] at hput
    exact ⟨h1, hput⟩
/-- Letter.copyFrom: its bytes may be a new row -/
theorem c_Lcopy {o mo : Nat} (hk : lOK h l m) (hlo : l ≠ o) (hbo : zR h 192 l ≠ zR h 192 o) (hL : isL h o mo xs) (hB : byteL xs) (hln : l < zn h) (hon : o < zn h) (hz : ∀ x, zn h ≤ x → (zK h x).1 = 0)
    (hQ1 : xs.length ≤ m → ∀ g', isLs g' xs → Q none (zLet h l g' (xs.length : Nat)))
    (hQ2 : m < xs.length → ∀ g', isLs g' xs → Q none (zLet (zsR (znA h 1 xs.length) 192 l (zn h)) l g' (xs.length : Nat))) : zE 38 0 [some (.inr l), some (.inr o), none] [] h Q := by
  obtain ⟨⟨o1, o2, o3⟩, o4, o5, o6⟩ := id hL
  obtain ⟨h1, h2, h3⟩ := id hk
  rw [xX4_copyFrom_0, h2, o4]
  refine ⟨h1, ⟨by omega, by omega⟩, o1, ?_⟩
  by_cases hc : (xs.length : Int) ≤ (m : Int)
  · rw [if_pos hc, xX4_copyFrom_22, xX4_copyFrom_27]
    refine ⟨h1, ?_⟩
    have e : zsI h 193 l 0 = zLet h l (zA h (zR h 192 l)) 0 := by
      have := zsI_Let (h := h) (l := l) (g := zA h (zR h 192 l)) (n := zI h 193 l) (n' := 0)
      rw [zLet_id] at this
      exact this
    rw [e]
    exact c_Lcopy_l hk hlo hbo hL hB (by omega) (hQ1 (by omega)) xs.length 0 _ (by omega) (fun b v hb => by simp at hb)
  · rw [if_neg hc, xX4_copyFrom_12, o4, Int.toNat_natCast, xX4_copyFrom_19, xX4_copyFrom_22, xX4_copyFrom_27]
    have hK1 : ∀ x, x < zn h → zK (zsR (znA h 1 xs.length) 192 l (zn h)) x = zK h x := fun x hx => by
      rw [zK_sR, zK_nA, if_neg (by omega)]
    have hkl : (zK (znA h 1 xs.length) l).1 = 13 := by rw [zK_nA, if_neg (by omega)]; exact h1
    refine ⟨o1, ⟨by omega, by omega⟩, hkl, hkl, ?_⟩
    have e : zsI (zsR (znA h 1 xs.length) 192 l (zn h)) 193 l 0 = zLet (zsR (znA h 1 xs.length) 192 l (zn h)) l (zA (zsR (znA h 1 xs.length) 192 l (zn h)) (zR (zsR (znA h 1 xs.length) 192 l (zn h)) 192 l)) 0 := by
      have := zsI_Let (h := zsR (znA h 1 xs.length) 192 l (zn h)) (l := l) (g := zA (zsR (znA h 1 xs.length) 192 l (zn h)) (zR (zsR (znA h 1 xs.length) 192 l (zn h)) 192 l)) (n := zI (zsR (znA h 1 xs.length) 192 l (zn h)) 193 l) (n' := 0)
      rw [zLet_id] at this
      exact this
    rw [e]
    have hbl : zR (zsR (znA h 1 xs.length) 192 l (zn h)) 192 l = zn h := if_pos ⟨rfl, rfl⟩
    have hbo2 : zR (zsR (znA h 1 xs.length) 192 l (zn h)) 192 o = zR h 192 o := by
      rw [zR_sR, if_neg (fun q => hlo q.2.symm)]
      rfl
    have hbon : zR h 192 o < zn h := by
      rcases Nat.lt_or_ge (zR h 192 o) (zn h) with q | q
      · exact q
      · have := hz _ q
        rw [o2] at this
        cases this
    refine c_Lcopy_l (m := xs.length) ⟨?_, ?_, by omega⟩ hlo ?_ (mo := mo) ⟨⟨?_, ?_, o3⟩, ?_, o5, ?_⟩ hB (Nat.le_refl _) (hQ2 (by omega)) xs.length 0 _ (by omega) (fun b v hb => by simp at hb)
    · rw [hK1 l hln]; exact h1
    · rw [hbl, zK_sR, zK_nA, if_pos rfl]
    · rw [hbl, hbo2]; omega
    · rw [hK1 o hon]; exact o1
    · rw [hbo2, hK1 _ hbon]; exact o2
    · exact o4
    · rw [hbo2]
      have e2 : zA (zsR (znA h 1 xs.length) 192 l (zn h)) (zR h 192 o) = zA h (zR h 192 o) := by
        funext i
        show (if zR h 192 o = zn h then 0 else zA h (zR h 192 o) i) = _
        rw [if_neg (by omega)]
      rw [e2]
      exact o6
/-- Line.find -/
theorem c_LnFind {ln al k : Nat} {i : Int} (hk : (zK h ln).1 = 14) (ha : zR h 256 ln = al) (hka : zK h al = (3, 40)) (hs : zI h 257 ln = k) (hk40 : k ≤ 40) (hQ : Q (some (.inr (if 0 ≤ i ∧ i < k then zB h al i.toNat else 0))) h) : zE 41 0 [some (.inr ln), some (.inl i)] [] h Q := by
  simp only [xX5_find_0, xX5_find_4, xX5_find_12, xX5_find_18, xX5_find_27, xX5_find_28, hk, ha, hka, hs, true_and]
  by_cases hi : 0 ≤ i ∧ i < (k : Int)
  · rw [if_neg (by omega), if_neg (by omega), if_neg (by omega)]
    rw [if_pos hi] at hQ
    exact ⟨⟨by omega, by omega⟩, ⟨by omega, by omega⟩, hQ⟩
  · rw [if_neg hi] at hQ
    by_cases h0 : i < 0
    · rw [if_pos h0]; exact hQ
    · rw [if_neg h0, if_pos (by omega)]; exact hQ
end zLineM
