/-! THE CLASS'S LINES: append, takeOut -/
theorem zI_sI_s {h : zH} {f a : Nat} {v : Int} : zI (zsI h f a v) f a = v := if_pos ⟨rfl, rfl⟩
section zLine2
variable {h : zH} {ln al : Nat} {xs : List Int} {Q : Option zV → zH → Prop}
theorem c_LnFull (hk : (zK h ln).1 = 14) (hs : zI h 257 ln = 40) {d : Nat} (hQ : Q (some (.inl 0)) h) : zE 42 0 [some (.inr ln), some (.inr d), none] [] h Q := by
  simp only [xX5_append_0, xX5_append_7, xX5_append_16, hk, hs, true_and]
  rw [if_neg (by omega), if_neg (by omega)]
  exact ⟨Or.inl trivial, hQ⟩
theorem c_LnAppend {n d md e m : Nat} (hk : (zK h ln).1 = 14) (ha : zR h 256 ln = al) (hka : zK h al = (3, 40)) (hs : zI h 257 ln = n) (hn : n < 40) (hL : isL h d md xs) (hB : byteL xs) (hln : ln < zn h) (hdn : d < zn h) (hal : al < zn h) (hz : ∀ x, zn h ≤ x → (zK h x).1 = 0) (hzn : 2 ≤ zn h)
    (he : zB h al n = e) (heo : e ≠ 0 → lOK h e m ∧ e ≠ d ∧ zR h 192 e ≠ zR h 192 d ∧ e < zn h)
    (hA : e ≠ 0 → xs.length ≤ m → ∀ g, isLs g xs → Q (some (.inl 1)) (zsI (zLet h e g (xs.length : Nat)) 257 ln (n + 1 : Nat)))
    (hB2 : e ≠ 0 → m < xs.length → ∀ g, isLs g xs → Q (some (.inl 1)) (zsI (zLet (zsR (znA h 1 xs.length) 192 e (zn h)) e g (xs.length : Nat)) 257 ln (n + 1 : Nat)))
    (hC : e = 0 → ∀ g, isLs g xs → Q (some (.inl 1)) (zsI (zLet (zsB (zsR (znA (znO h 3 2) 1 xs.length) 192 (zn h) (zn h + 1)) al n (zn h)) (zn h) g (xs.length : Nat)) 257 ln (n + 1 : Nat))) :
    zE 42 0 [some (.inr ln), some (.inr d), none] [] h Q := by
  obtain ⟨⟨o1, o2, o3⟩, o4, o5, o6⟩ := id hL
  have h93 : zK h (zR h 256 ln) = (3, 40) := by rw [ha]; exact hka
  simp only [xX5_append_0, xX5_append_7, xX5_append_18, hk, ha, hka, hs, true_and]
  rw [if_neg (by omega), if_pos (by omega), Int.toNat_natCast, he]
  refine ⟨⟨by omega, by omega⟩, ⟨by omega, by omega⟩, ?_⟩
  -- what comes behind the copy
  have hend : ∀ (h1 : zH) (g : Nat → Int) (a2 : Nat), (zK h1 ln).1 = 14 → zI h1 257 ln = n → Q (some (.inl 1)) (zsI (zLet h1 a2 g (xs.length : Nat)) 257 ln (n + 1 : Nat)) → zE 42 59 [some (.inr ln), some (.inr d), some (.inr a2)] [] (zLet h1 a2 g (xs.length : Nat)) Q := by
    intro h1 g a2 q1 q2 q3
    have q4 : zI (zLet h1 a2 g (xs.length : Nat)) 257 ln = n := by rw [zI_Let, if_neg (by omega)]; exact q2
    simp only [xX5_append_59, xX5_append_69, zK_Let, q1, q4, true_and]
    rw [zw_eq (by omega) (by omega)]
    exact ⟨Or.inr trivial, q3⟩
  by_cases h0 : e = 0
  · subst h0
    rw [if_neg (fun q => q rfl), xX5_append_32, xX5_append_35]
    have f1 : zI (znO h 3 2) 193 d = xs.length := by rw [zI_nO, if_neg (by omega)]; exact o4
    have f2 : (zK (znO h 3 2) d).1 = 13 := by rw [zK_nO, if_neg (by omega)]; exact o1
    rw [f1]
    refine ⟨f2, by omega, c_Linit (by omega) ?_ ?_ (by omega) ?_⟩
    · rw [zK_nO, if_pos rfl]
    · rw [zn_nO]; omega
    rw [Int.toNat_natCast]
    simp only [Option.toList_none, List.nil_append]
    have hK2 : ∀ x, x < zn h → zK (zsR (znA (znO h 3 2) 1 xs.length) 192 (zn h) (zn (znO h 3 2))) x = zK h x := fun x hx => by
      rw [zK_sR, zK_nA, zn_nO, if_neg (by omega), zK_nO, if_neg (by omega)]
    have hR2 : ∀ f x, x < zn h → zR (zsR (znA (znO h 3 2) 1 xs.length) 192 (zn h) (zn (znO h 3 2))) f x = zR h f x := fun f x hx => by
      rw [zR_sR, if_neg (by omega), zR_nA, zR_nO, if_neg (by omega)]
    have hI2 : ∀ f x, x < zn h → zI (zsR (znA (znO h 3 2) 1 xs.length) 192 (zn h) (zn (znO h 3 2))) f x = zI h f x := fun f x hx => by
      rw [zI_sR, zI_nA, zI_nO, if_neg (by omega)]
    have hb2 : zR (zsR (znA (znO h 3 2) 1 xs.length) 192 (zn h) (zn (znO h 3 2))) 192 (zn h) = zn h + 1 := by
      rw [zR_sR, if_pos ⟨rfl, rfl⟩, zn_nO]
    have hKn : zK (zsR (znA (znO h 3 2) 1 xs.length) 192 (zn h) (zn (znO h 3 2))) (zn h) = (13, 0) := by
      rw [zK_sR, zK_nA, zn_nO, if_neg (by omega), zK_nO, if_pos rfl]
    have hKb : zK (zsR (znA (znO h 3 2) 1 xs.length) 192 (zn h) (zn (znO h 3 2))) (zn h + 1) = (1, xs.length) := by
      rw [zK_sR, zK_nA, zn_nO, if_pos rfl]
    rw [xX5_append_43, hR2 _ _ hln, ha, hK2 _ hln, hK2 _ hal, hka, hI2 _ _ hln, hs, Int.toNat_natCast, hKn]
    refine ⟨hk, hk, ⟨by show 2 ≤ 3; omega, by show 3 ≤ 4; omega⟩, rfl, ⟨by omega, by show (n : Int) < (40 : Nat); omega⟩, ?_⟩
    rw [xX5_append_54]
    refine ⟨by rw [zK_sB, hKn], c_Lcopy (m := xs.length) (mo := md) (xs := xs) ⟨by rw [zK_sB, hKn], by rw [zR_sB, hb2, zK_sB]; exact hKb, by omega⟩ (by omega) ?_ ⟨⟨by rw [zK_sB, hK2 _ hdn]; exact o1, ?_, o3⟩, by rw [zI_sB, hI2 _ _ hdn]; exact o4, o5, ?_⟩ hB ?_ ?_ ?_ ?_ ?_⟩
    · rw [zR_sB, hb2, hR2 _ _ hdn]
      intro q
      have := hz (zR h 192 d) (by omega)
      rw [o2] at this
      cases this
    · have hbd : zR h 192 d < zn h := by
        rcases Nat.lt_or_ge (zR h 192 d) (zn h) with q | q
        · exact q
        · have := hz _ q
          rw [o2] at this
          cases this
      rw [zR_sB, hR2 _ _ hdn, zK_sB, hK2 _ hbd]
      exact o2
    · have hbd : zR h 192 d < zn h := by
        rcases Nat.lt_or_ge (zR h 192 d) (zn h) with q | q
        · exact q
        · have := hz _ q
          rw [o2] at this
          cases this
      have e9 : zA (zsB (zsR (znA (znO h 3 2) 1 xs.length) 192 (zn h) (zn (znO h 3 2))) al n (zn h)) (zR h 192 d) = zA h (zR h 192 d) := by
        funext i
        rw [zA_sB, zA_sR, zA_nA, zn_nO, if_neg (by omega)]
        rfl
      rw [zR_sB, hR2 _ _ hdn, e9]
      exact o6
    · rw [zn_sB, zn_sR, zn_nA, zn_nO]; omega
    · rw [zn_sB, zn_sR, zn_nA, zn_nO]; omega
    · intro x hx
      rw [zn_sB, zn_sR, zn_nA, zn_nO] at hx
      rw [zK_sB, zK_sR, zK_nA, zn_nO, if_neg (by omega), zK_nO, if_neg (by omega)]
      exact hz x (by omega)
    · intro _ g hg
      simp only [Option.toList_none, List.nil_append]
      refine hend _ g _ ?_ ?_ (hC rfl g hg)
      · rw [zK_sB, hK2 _ hln]; exact hk
      · rw [zI_sB, hI2 _ _ hln]; exact hs
    · intro q
      omega
  · obtain ⟨e1, e2, e3, e4⟩ := heo h0
    rw [if_pos h0, xX5_append_54]
    refine ⟨e1.1, c_Lcopy e1 e2 e3 hL hB e4 hdn hz ?_ ?_⟩
    · intro hle g hg
      simp only [Option.toList_none, List.nil_append]
      exact hend h g e hk hs (hA h0 hle g hg)
    · intro hlt g hg
      simp only [Option.toList_none, List.nil_append]
      refine hend _ g e ?_ ?_ (hB2 h0 hlt g hg)
      · rw [zK_sR, zK_nA, if_neg (by omega)]; exact hk
      · exact hs
/-- a row taken out of n: the ones behind it move up, it waits behind the last -/
def rout (g : Nat → Nat) (k n : Nat) : Nat → Nat := fun i => if k ≤ i ∧ i + 1 < n then g (i + 1) else if i + 1 = n then g k else g i
theorem c_LnOut_l {k n : Nat} {l1 : Option zV} (hk : (zK h ln).1 = 14) (ha : zR h 256 ln = al) (hka : zK h al = (3, 40)) (hs : zI h 257 ln = n) (hn : n ≤ 40) (hkn : k < n) (hv : ∀ i, i < n → (zK h (zB h al i)).1 = 13) (hQ : Q none (zsI (zBs h al (rout (zB h al) k n)) 257 ln (n - 1 : Nat))) :
    ∀ (d i : Nat), i + d = n → k < i → zE 43 30 [some (.inr ln), l1, some (.inr (zB h al k)), some (.inl (i : Int))] [] (zBs h al (fun j => if k ≤ j ∧ j + 1 < i then zB h al (j + 1) else zB h al j)) Q := by
  intro d
  induction d with
  | zero =>
    intro i hi hki
    have hin : i = n := by omega
    subst hin
    have s1 : zI (zBs h al (fun j => if k ≤ j ∧ j + 1 < i then zB h al (j + 1) else zB h al j)) 257 ln = i := hs
    have s2 : (zK (zBs h al (fun j => if k ≤ j ∧ j + 1 < i then zB h al (j + 1) else zB h al j)) ln).1 = 14 := hk
    rw [xX5_takeOut_30, s1, if_pos (by omega), xX5_takeOut_64, s1, zw_eq (by omega) (by omega), xX5_takeOut_74, zI_sI_s, if_neg (show ¬ (40 : Int) ≤ (i : Int) - 1 by omega), xX5_takeOut_83, zI_sI_s, xX5_takeOut_93]
    have s3 : zR (zsI (zBs h al (fun j => if k ≤ j ∧ j + 1 < i then zB h al (j + 1) else zB h al j)) 257 ln ((i : Int) - 1)) 256 ln = al := ha
    have s4 : zK (zsI (zBs h al (fun j => if k ≤ j ∧ j + 1 < i then zB h al (j + 1) else zB h al j)) 257 ln ((i : Int) - 1)) al = (3, 40) := hka
    rw [s3, s4]
    refine ⟨s2, s2, s2, s2, s2, s2, ⟨by show 2 ≤ 3; omega, by show 3 ≤ 4; omega⟩, hv k hkn, ⟨by omega, by show (i : Int) - 1 < (40 : Nat); omega⟩, ?_⟩
    have e : zsB (zsI (zBs h al (fun j => if k ≤ j ∧ j + 1 < i then zB h al (j + 1) else zB h al j)) 257 ln ((i : Int) - 1)) al ((i : Int) - 1).toNat (zB h al k) = zsI (zBs h al (rout (zB h al) k i)) 257 ln (i - 1 : Nat) := by
      refine zH_ext rfl ?_ rfl rfl ?_ rfl rfl
      · funext f x
        rw [zI_sB, zI_sI, zI_sI, show (i : Int) - 1 = ((i - 1 : Nat) : Int) by omega]
        rfl
      · funext x j
        rw [zB_sB, zB_sI, zB_sI, zB_Bs, zB_Bs]
        unfold rout
        by_cases hx : x = al
        · rw [if_pos hx, if_pos hx]
          by_cases hj : j = ((i : Int) - 1).toNat
          · rw [if_pos ⟨hx, hj⟩, if_neg (by omega), if_pos (by omega)]
          · rw [if_neg (fun q => hj q.2)]
            by_cases hj2 : k ≤ j ∧ j + 1 < i
            · rw [if_pos hj2, if_pos hj2]
            · rw [if_neg hj2, if_neg hj2, if_neg (by omega)]
        · rw [if_neg hx, if_neg hx, if_neg (fun q => hx q.1)]
    rw [e]
    exact hQ
  | succ d ih =>
    intro i hi hki
    have s1 : zI (zBs h al (fun j => if k ≤ j ∧ j + 1 < i then zB h al (j + 1) else zB h al j)) 257 ln = n := hs
    have s2 : (zK (zBs h al (fun j => if k ≤ j ∧ j + 1 < i then zB h al (j + 1) else zB h al j)) ln).1 = 14 := hk
    have s3 : zR (zBs h al (fun j => if k ≤ j ∧ j + 1 < i then zB h al (j + 1) else zB h al j)) 256 ln = al := ha
    have s4 : zK (zBs h al (fun j => if k ≤ j ∧ j + 1 < i then zB h al (j + 1) else zB h al j)) al = (3, 40) := hka
    have s5 : zB (zBs h al (fun j => if k ≤ j ∧ j + 1 < i then zB h al (j + 1) else zB h al j)) al i = zB h al i := by
      rw [zB_Bs_s, if_neg (by omega)]
    have s6 : (zK (zBs h al (fun j => if k ≤ j ∧ j + 1 < i then zB h al (j + 1) else zB h al j)) (zB h al i)).1 = 13 := hv i (by omega)
    rw [xX5_takeOut_30, s1, if_neg (by omega), xX5_takeOut_38, if_neg (by omega), xX5_takeOut_44, s3, s4, Int.toNat_natCast, s5, zw_eq (by omega) (by omega), xX5_takeOut_58, zw_eq (by omega) (by omega), s6]
    refine ⟨s2, s2, s2, ⟨by show 2 ≤ 3; omega, by show 3 ≤ 4; omega⟩, ⟨by omega, by show (i : Int) < (40 : Nat); omega⟩, ⟨by show 2 ≤ 3; omega, by show 3 ≤ 4; omega⟩, rfl, ⟨by omega, by show (i : Int) - 1 < (40 : Nat); omega⟩, ?_⟩
    rw [zsB_Bs]
    have e : nup (fun j => if k ≤ j ∧ j + 1 < i then zB h al (j + 1) else zB h al j) ((i : Int) - 1).toNat (zB h al i) = (fun j => if k ≤ j ∧ j + 1 < i + 1 then zB h al (j + 1) else zB h al j) := by
      funext j
      unfold nup
      by_cases hj : j = ((i : Int) - 1).toNat
      · rw [if_pos hj, if_pos (by omega), show j + 1 = i by omega]
      · rw [if_neg hj]
        dsimp only
        by_cases hj2 : k ≤ j ∧ j + 1 < i
        · rw [if_pos hj2, if_pos (by omega)]
        · rw [if_neg hj2, if_neg (by omega)]
    rw [e]
    have := ih (i + 1) (by omega) (by omega)
    rw [show ((i + 1 : Nat) : Int) = (i : Int) + 1 by omega] at this
    exact this
theorem c_LnOut {k n : Nat} (hk : (zK h ln).1 = 14) (ha : zR h 256 ln = al) (hka : zK h al = (3, 40)) (hs : zI h 257 ln = n) (hn : n ≤ 40) (hkn : k < n) (hv : ∀ i, i < n → (zK h (zB h al i)).1 = 13) (hQ : Q none (zsI (zBs h al (rout (zB h al) k n)) 257 ln (n - 1 : Nat))) : zE 43 0 [some (.inr ln), some (.inl (k : Int)), none, none] [] h Q := by
  simp only [xX5_takeOut_0, xX5_takeOut_4, xX5_takeOut_12, xX5_takeOut_19, hk, ha, hka, hs, true_and]
  rw [if_neg (by omega), if_neg (by omega), if_pos (by omega), zw_eq (by omega) (by omega), Int.toNat_natCast]
  refine ⟨⟨by omega, by omega⟩, ⟨by omega, by omega⟩, ?_⟩
  have := c_LnOut_l (l1 := some (.inl (k : Int))) hk ha hka hs hn hkn hv hQ (n - (k + 1)) (k + 1) (by omega) (by omega)
  have e : zBs h al (fun j => if k ≤ j ∧ j + 1 < k + 1 then zB h al (j + 1) else zB h al j) = h := by
    have e2 : (fun j => if k ≤ j ∧ j + 1 < k + 1 then zB h al (j + 1) else zB h al j) = zB h al := by
      funext j
      rw [if_neg (by omega)]
    rw [e2, zBs_id]
  rw [e, show ((k + 1 : Nat) : Int) = (k : Int) + 1 by omega] at this
  exact this
end zLine2
