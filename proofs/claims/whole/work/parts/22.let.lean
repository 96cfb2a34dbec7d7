/-! NUMBERS AS BITS; THE CLASS'S LETTERS -/
theorem zand_255 {x : Int} (h0 : 0 ≤ x) (h1 : x < 2147483648) : zand x 255 = x % 256 := by
  obtain ⟨n, rfl⟩ := Int.eq_ofNat_of_zero_le h0
  unfold zand
  rw [show Int32.ofInt (n : Int) = nI n from rfl, show Int32.ofInt 255 = (255 : Int32) from rfl, pk_andN (by omega) 8 (by decide), nI_toInt (by omega)]
  omega
theorem zand_31 (x : Int) : 0 ≤ zand x 31 ∧ zand x 31 < 32 := by
  unfold zand
  obtain ⟨j, hj, e⟩ := pk_andE (Int32.ofInt x) (m := Int32.ofInt 31) 5 (by decide)
  rw [e, nI_toInt (by omega)]
  omega
theorem zshr_8 {x : Int} (h0 : 0 ≤ x) (h1 : x < 2147483648) : zshr x 8 = x / 256 := by
  obtain ⟨n, rfl⟩ := Int.eq_ofNat_of_zero_le h0
  unfold zshr
  rw [show Int32.ofInt (n : Int) = nI n from rfl, pk_shrN (by omega) (Int32.ofInt 8 &&& 31) 8 (by decide), nI_toInt (by omega)]
  omega
theorem tmod_pos {x m : Int} (h0 : 0 ≤ x) : x.tmod m = x % m := Int.tmod_eq_emod_of_nonneg h0
theorem tdiv_pos {x m : Int} (h0 : 0 ≤ x) : x.tdiv m = x / m := Int.tdiv_eq_ediv_of_nonneg h0
def isLs (g : Nat → Int) (xs : List Int) : Prop := ∀ (b : Nat) (v : Int), xs[b]? = some v → g b = v
theorem isLs.app {g : Nat → Int} {xs : List Int} {v : Int} (h : isLs g xs) : isLs (fup g xs.length v) (xs ++ [v]) := by
  intro b w hb
  unfold fup
  by_cases hl : b < xs.length
  · rw [List.getElem?_append_left hl] at hb
    rw [if_neg (by omega)]
    exact h b w hb
  · have h1 := (List.getElem?_eq_some_iff.mp hb).1
    rw [List.length_append, List.length_singleton] at h1
    have : b = xs.length := by omega
    subst this
    rw [List.getElem?_append_right (Nat.le_refl _), Nat.sub_self] at hb
    cases hb
    rw [if_pos rfl]
def byteL (xs : List Int) : Prop := ∀ v ∈ xs, 0 ≤ v ∧ v < 256
theorem byteL.app {xs ys : List Int} (h1 : byteL xs) (h2 : byteL ys) : byteL (xs ++ ys) := fun v hv => (List.mem_append.mp hv).elim (h1 v) (h2 v)
def sm (xs : List Int) : Int := xs.foldl (fun c b => (31 * c + b) % 65521) 1
theorem sm_app (xs : List Int) (v : Int) : sm (xs ++ [v]) = (31 * sm xs + v) % 65521 := by
  unfold sm
  rw [List.foldl_append]
  rfl
theorem sm_in (xs : List Int) : 0 ≤ sm xs ∧ sm xs < 65521 := by
  unfold sm
  have key : ∀ (ys : List Int) (c : Int), 0 ≤ c ∧ c < 65521 → 0 ≤ ys.foldl (fun c b => (31 * c + b) % 65521) c ∧ ys.foldl (fun c b => (31 * c + b) % 65521) c < 65521 := by
    intro ys
    induction ys with
    | nil => intro c hc; exact hc
    | cons y t ih => intro c hc; exact ih _ (by dsimp only; omega)
  exact key xs 1 (by omega)
def two (v : Int) : List Int := [v / 256, v % 256]
theorem two_byte {v : Int} (h0 : 0 ≤ v) (h1 : v < 65536) : byteL (two v) := by
  intro w hw
  simp only [two, List.mem_cons, List.not_mem_nil, or_false] at hw
  omega
theorem take_succ_getD {xs : List Int} {i : Nat} (hi : i < xs.length) : xs.take (i + 1) = xs.take i ++ [xs.getD i (-1)] := by
  rw [List.take_succ, List.getElem?_eq_getElem hi, List.getD_eq_getElem?_getD, List.getElem?_eq_getElem hi]
  rfl
theorem isLs.at {g : Nat → Int} {xs : List Int} (h : isLs g xs) {i : Nat} (hi : i < xs.length) : g i = xs.getD i (-1) := by
  rw [List.getD_eq_getElem?_getD, List.getElem?_eq_getElem hi]
  exact h i _ (List.getElem?_eq_getElem hi)
theorem byteL.at {xs : List Int} (h : byteL xs) {i : Nat} (hi : i < xs.length) : 0 ≤ xs.getD i (-1) ∧ xs.getD i (-1) < 256 := by
  rw [List.getD_eq_getElem?_getD, List.getElem?_eq_getElem hi]
  exact h _ (List.getElem_mem hi)
/-- a letter's contents -/
def zLet (h : zH) (l : Nat) (g : Nat → Int) (n : Int) : zH := (zK h, fun f x => if f = 193 ∧ x = l then n else zI h f x, zR h, fun x i => if x = zR h 192 l then g i else zA h x i, zB h, zn h, zs h)
def lOK (h : zH) (l m : Nat) : Prop := (zK h l).1 = 13 ∧ zK h (zR h 192 l) = (1, m) ∧ m ≤ 100000
def isL (h : zH) (l m : Nat) (xs : List Int) : Prop := lOK h l m ∧ zI h 193 l = xs.length ∧ xs.length ≤ m ∧ isLs (zA h (zR h 192 l)) xs
section zLetM
variable {h : zH} {l m : Nat} {g g' : Nat → Int} {n n' v : Int} {xs : List Int} {Q : Option zV → zH → Prop}
theorem zK_Let : zK (zLet h l g n) = zK h := rfl
theorem zR_Let : zR (zLet h l g n) = zR h := rfl
theorem zB_Let : zB (zLet h l g n) = zB h := rfl
theorem zn_Let : zn (zLet h l g n) = zn h := rfl
theorem zs_Let : zs (zLet h l g n) = zs h := rfl
theorem zI_Let {f x : Nat} : zI (zLet h l g n) f x = if f = 193 ∧ x = l then n else zI h f x := rfl
theorem zI_Let_n : zI (zLet h l g n) 193 l = n := if_pos ⟨rfl, rfl⟩
theorem zA_Let {x i : Nat} : zA (zLet h l g n) x i = if x = zR h 192 l then g i else zA h x i := rfl
theorem zA_Let_s : zA (zLet h l g n) (zR h 192 l) = g := funext fun i => if_pos rfl
theorem zLet_id : zLet h l (zA h (zR h 192 l)) (zI h 193 l) = h := by
  refine zH_ext rfl ?_ rfl ?_ rfl rfl rfl
  · funext f x
    rw [zI_Let]
    by_cases h1 : f = 193 ∧ x = l
    · rw [if_pos h1, h1.1, h1.2]
    · rw [if_neg h1]
  · funext x i
    rw [zA_Let]
    by_cases h1 : x = zR h 192 l
    · rw [if_pos h1, h1]
    · rw [if_neg h1]
theorem zsA_Let {i : Nat} : zsA (zLet h l g n) (zR h 192 l) i v = zLet h l (fup g i v) n := by
  refine zH_ext rfl rfl rfl ?_ rfl rfl rfl
  funext x j
  rw [zA_sA, zA_Let, zA_Let]
  unfold fup
  by_cases h1 : x = zR h 192 l <;> by_cases h2 : j = i <;> simp [h1, h2]
theorem zsI_Let : zsI (zLet h l g n) 193 l n' = zLet h l g n' := by
  refine zH_ext rfl ?_ rfl rfl rfl rfl rfl
  funext f x
  rw [zI_sI, zI_Let, zI_Let]
  by_cases h1 : f = 193 ∧ x = l <;> simp [h1]
theorem zLet_Let : zLet (zLet h l g n) l g' n' = zLet h l g' n' := by
  refine zH_ext rfl ?_ rfl ?_ rfl rfl rfl
  · funext f x
    rw [zI_Let, zI_Let, zI_Let]
    by_cases h1 : f = 193 ∧ x = l <;> simp [h1]
  · funext x i
    rw [zA_Let, zA_Let, zA_Let, zR_Let]
    by_cases h1 : x = zR h 192 l <;> simp [h1]
theorem isL_Let (hk : lOK h l m) (hn : xs.length ≤ m) (hg : isLs g xs) : isL (zLet h l g xs.length) l m xs := ⟨hk, zI_Let_n, hn, by rw [zR_Let, zA_Let_s]; exact hg⟩
theorem c_Lput (hk : lOK h l m) (hl : xs.length < m) (hg : isLs g xs) (hv : 0 ≤ v ∧ v < 2147483648) (hQ : ∀ g', isLs g' (xs ++ [v % 256]) → Q none (zLet h l g' ((xs ++ [v % 256]).length : Nat))) : zE 31 0 [some (.inr l), some (.inl v)] [] (zLet h l g xs.length) Q := by
  obtain ⟨h1, h2, h3⟩ := id hk
  simp only [xX4_put_0, xX4_put_7, xX4_put_19, xX4_put_33, xX4_put_43, zK_Let, zR_Let, zI_Let_n, h1, h2, true_and, zsA_Let, zsI_Let]
  rw [if_neg (by omega), if_neg (by omega), zw_eq (by omega) (by omega), zand_255 hv.1 hv.2, Int.toNat_natCast]
  refine ⟨⟨by omega, by omega⟩, ⟨by omega, by omega⟩, ?_⟩
  have := hQ _ (isLs.app (v := v % 256) hg)
  rw [List.length_append, List.length_singleton] at this
  exact this
theorem c_LputNumber (hk : lOK h l m) (hl : xs.length + 1 < m) (hg : isLs g xs) (hv : 0 ≤ v ∧ v < 65536) (hQ : ∀ g', isLs g' (xs ++ two v) → Q none (zLet h l g' ((xs ++ two v).length : Nat))) : zE 32 0 [some (.inr l), some (.inl v)] [] (zLet h l g xs.length) Q := by
  obtain ⟨h1, h2, h3⟩ := id hk
  rw [xX4_putNumber_0, zshr_8 (by omega) (by omega)]
  refine ⟨h1, c_Lput hk (by omega) hg (by omega) ?_⟩
  intro g1 hg1
  simp only [Option.toList_none, List.nil_append]
  rw [xX4_putNumber_8]
  refine ⟨h1, c_Lput hk (by rw [List.length_append]; exact hl) hg1 (by omega) ?_⟩
  intro g2 hg2
  simp only [Option.toList_none, List.nil_append]
  rw [xX4_putNumber_13]
  have e : xs ++ [v / 256 % 256] ++ [v % 256] = xs ++ two v := by
    rw [List.append_assoc, show v / 256 % 256 = v / 256 by omega]
    rfl
  rw [e] at hg2 ⊢
  exact hQ g2 hg2
theorem c_Lat {i : Int} (hL : isL h l m xs) (hQ : Q (some (.inl (if i < 0 then -1 else xs.getD i.toNat (-1)))) h) : zE 34 0 [some (.inr l), some (.inl i)] [] h Q := by
  obtain ⟨⟨h1, h2, h3⟩, h4, h5, h6⟩ := hL
  simp only [xX4_at_0, xX4_at_4, xX4_at_12, xX4_at_21, xX4_at_30, xX4_at_31, h1, h2, h4, true_and]
  by_cases hi : i < 0
  · rw [if_pos hi]
    rw [if_pos hi] at hQ
    exact hQ
  · rw [if_neg hi]
    rw [if_neg hi] at hQ
    by_cases hl : (xs.length : Int) ≤ i
    · rw [if_pos hl]
      rw [List.getD_eq_getElem?_getD, List.getElem?_eq_none (by omega)] at hQ
      exact hQ
    · rw [if_neg hl, if_neg (by omega), h6.at (by omega)]
      exact ⟨⟨by omega, by omega⟩, Or.inl trivial, ⟨by omega, by omega⟩, hQ⟩
theorem c_Lat' {i : Nat} (hL : isL h l m xs) (hQ : Q (some (.inl (xs.getD i (-1)))) h) : zE 34 0 [some (.inr l), some (.inl (i : Int))] [] h Q := by
  refine c_Lat hL ?_
  rw [if_neg (by omega), Int.toNat_natCast]
  exact hQ
theorem c_LsumAhead_l {k : Nat} {l1 : Option zV} (hL : isL h l m xs) (hB : byteL xs) (hk : k ≤ xs.length) (hQ : Q (some (.inl (sm (xs.take k)))) h) : ∀ (d i : Nat), i + d = k → zE 39 4 [some (.inr l), some (.inl (k : Int)), some (.inl (sm (xs.take i))), some (.inl (i : Int))] [] h Q := by
  obtain ⟨⟨h1, h2, h3⟩, h4, h5, h6⟩ := id hL
  intro d
  induction d with
  | zero =>
    intro i hi
    have : i = k := by omega
    subst this
    rw [xX4_sumAhead_4, if_pos (by omega), xX4_sumAhead_29]
    exact hQ
  | succ d ih =>
    intro i hi
    rw [xX4_sumAhead_4, if_neg (by omega), xX4_sumAhead_9]
    refine ⟨h1, c_Lat' hL ?_⟩
    simp only [Option.toList_some, List.cons_append, List.nil_append]
    have hb := hB.at (i := i) (by omega)
    have hs := sm_in (xs.take i)
    rw [xX4_sumAhead_18]
    refine ⟨by decide, ?_⟩
    simp (disch := omega) only [zw_eq]
    rw [tmod_pos (by omega)]
    simp (disch := omega) only [zw_eq]
    have := ih (i + 1) (by omega)
    rw [take_succ_getD (by omega), sm_app, show ((i + 1 : Nat) : Int) = (i : Int) + 1 by omega] at this
    exact this
theorem c_LsumAhead {k : Nat} (hL : isL h l m xs) (hB : byteL xs) (hk : k ≤ xs.length) (hQ : Q (some (.inl (sm (xs.take k)))) h) : zE 39 0 [some (.inr l), some (.inl (k : Int)), none, none] [] h Q := by
  rw [xX4_sumAhead_0]
  exact c_LsumAhead_l (l1 := none) hL hB hk hQ k 0 (by omega)
theorem c_Lseal (hk : lOK h l m) (hl : xs.length + 1 < m) (hg : isLs g xs) (hB : byteL xs) (hQ : ∀ g', isLs g' (xs ++ two (sm xs)) → Q none (zLet h l g' ((xs ++ two (sm xs)).length : Nat))) : zE 33 0 [some (.inr l)] [] (zLet h l g xs.length) Q := by
  obtain ⟨h1, h2, h3⟩ := id hk
  rw [xX4_seal_0, zI_Let_n]
  refine ⟨h1, h1, c_LsumAhead (isL_Let hk (by omega) hg) hB (Nat.le_refl _) ?_⟩
  simp only [Option.toList_some, List.cons_append, List.nil_append]
  rw [xX4_seal_9, List.take_length]
  have hs := sm_in xs
  refine ⟨h1, c_LputNumber hk hl hg (by omega) ?_⟩
  intro g1 hg1
  simp only [Option.toList_none, List.nil_append]
  rw [xX4_seal_12]
  exact hQ g1 hg1
/-- two bytes as a number -/
def num (xs : List Int) (i : Nat) : Int := 256 * xs.getD i (-1) + xs.getD (i + 1) (-1)
theorem c_LnumberAt {i : Nat} (hL : isL h l m xs) (hB : byteL xs) (hi : i + 1 < xs.length) (hQ : Q (some (.inl (num xs i))) h) : zE 35 0 [some (.inr l), some (.inl (i : Int))] [] h Q := by
  obtain ⟨⟨h1, h2, h3⟩, h4, h5, h6⟩ := id hL
  have b1 := hB.at (i := i) (by omega)
  have b2 := hB.at (i := i + 1) (by omega)
  rw [xX4_numberAt_0]
  refine ⟨h1, c_Lat' hL ?_⟩
  simp only [Option.toList_some, List.cons_append, List.nil_append]
  rw [xX4_numberAt_5, zw_eq (by omega) (by omega), show (i : Int) + 1 = ((i + 1 : Nat) : Int) by omega]
  refine ⟨h1, c_Lat' hL ?_⟩
  simp only [Option.toList_some, List.cons_append, List.nil_append]
  rw [xX4_numberAt_16]
  simp (disch := omega) only [zw_eq]
  unfold num at hQ
  rw [Int.mul_comm]
  exact hQ
def wholeL (kind : Int) (xs : List Int) : Prop := xs.getD 0 (-1) = kind ∧ sm (xs.take (xs.length - 2)) = num xs (xs.length - 2)
theorem c_LisWhole {kind : Int} (hL : isL h l m xs) (hB : byteL xs) (hn : 10 ≤ xs.length) (hQ : ∀ b : Int, (b = 0 ∨ b = 1) → (b = 1 ↔ wholeL kind xs) → Q (some (.inl b)) h) : zE 36 0 [some (.inr l), some (.inl kind), none] [] h Q := by
  obtain ⟨⟨h1, h2, h3⟩, h4, h5, h6⟩ := id hL
  rw [xX4_isWhole_0, h4, if_neg (by omega), zw_eq (by omega) (by omega), show (xs.length : Int) - 2 = ((xs.length - 2 : Nat) : Int) by omega, xX4_isWhole_16]
  refine ⟨h1, h1, h1, c_Lat' (i := 0) hL ?_⟩
  simp only [Option.toList_some, List.cons_append, List.nil_append]
  rw [xX4_isWhole_21]
  by_cases hk : xs.getD 0 (-1) = kind
  · rw [if_neg (fun q => q hk), xX4_isWhole_25]
    refine ⟨h1, c_LsumAhead hL hB (by omega) ?_⟩
    simp only [Option.toList_some, List.cons_append, List.nil_append]
    rw [xX4_isWhole_30]
    refine ⟨h1, c_LnumberAt hL hB (by omega) ?_⟩
    simp only [Option.toList_some, List.cons_append, List.nil_append]
    simp only [xX4_isWhole_35, xX4_isWhole_38, xX4_isWhole_42, xX4_isWhole_43]
    by_cases hs : sm (xs.take (xs.length - 2)) = num xs (xs.length - 2)
    · rw [if_neg (fun q => q hs)]
      exact ⟨Or.inr trivial, hQ 1 (Or.inr rfl) ⟨fun _ => ⟨hk, hs⟩, fun _ => rfl⟩⟩
    · rw [if_pos hs]
      exact ⟨Or.inl trivial, hQ 0 (Or.inl rfl) ⟨fun q => absurd q (by decide), fun q => absurd q.2 hs⟩⟩
  · rw [if_pos hk]
    simp only [xX4_isWhole_42, xX4_isWhole_43]
    exact ⟨Or.inl trivial, hQ 0 (Or.inl rfl) ⟨fun q => absurd q (by decide), fun q => absurd q.1 hk⟩⟩
theorem c_Lbend {i : Nat} {bits : Int} (hL : isL h l m xs) (hi : i < xs.length) (hQ : Q (some (.inl (if bits = 0 then 0 else 1))) (zsA h (zR h 192 l) i (zxor (xs.getD i (-1)) bits))) : zE 37 0 [some (.inr l), some (.inl (i : Int)), some (.inl bits)] [] h Q := by
  obtain ⟨⟨h1, h2, h3⟩, h4, h5, h6⟩ := id hL
  simp only [xX4_bend_0, xX4_bend_4, xX4_bend_12, xX4_bend_21, xX4_bend_23, xX4_bend_33, xX4_bend_37, xX4_bend_41, xX4_bend_42, h1, h2, h4, true_and]
  rw [if_neg (by omega), if_neg (by omega), if_pos (by omega), Int.toNat_natCast, h6.at hi]
  refine ⟨⟨by omega, by omega⟩, Or.inl trivial, ⟨by omega, by omega⟩, ⟨by omega, by omega⟩, ?_⟩
  by_cases hb : bits = 0
  · rw [if_pos hb]
    rw [if_pos hb] at hQ
    exact ⟨Or.inl trivial, hQ⟩
  · rw [if_neg hb]
    rw [if_neg hb] at hQ
    exact ⟨Or.inr trivial, hQ⟩
end zLetM
