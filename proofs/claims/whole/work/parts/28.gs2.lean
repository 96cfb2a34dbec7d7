/-! THE CLASS'S GUESSES: made, settled -/
/-- whether a guess is right by a state: took and screen -/
def grt (tk : Int) (x : sC) (q : Nat → Int) : Bool := if q 3 = -1 then decide (q 0 < tk ∨ (x.2.1 = q 4 ∧ x.2.2 = q 5)) else decide (x.1 (q 2).toNat % 128 = q 3)
/-- settled, from guess i on, d of them: how many go, confirmed, whether one was wrong -/
def stl (g : Nat → Nat → Int) (tk : Int) (x : sC) : Nat → Nat → Int → Nat × Int × Bool
  | 0, i, cf => (i, cf, false)
  | d + 1, i, cf => if g i 0 ≤ tk then (if grt tk x (g i) = true then stl g tk x d (i + 1) (max cf (g i 1)) else (i, cf, true)) else (i, cf, false)
theorem stl_s (g : Nat → Nat → Int) (tk : Int) (x : sC) (d i : Nat) (cf : Int) : stl g tk x (d + 1) i cf = if g i 0 ≤ tk then (if grt tk x (g i) = true then stl g tk x d (i + 1) (max cf (g i 1)) else (i, cf, true)) else (i, cf, false) := rfl
theorem stl_le (g : Nat → Nat → Int) (tk : Int) (x : sC) : ∀ (d i : Nat) (cf : Int), i ≤ (stl g tk x d i cf).1 ∧ (stl g tk x d i cf).1 ≤ i + d
  | 0, i, cf => ⟨Nat.le_refl _, Nat.le_refl _⟩
  | d + 1, i, cf => by
    rw [stl_s]
    split
    · split
      · have := stl_le g tk x d (i + 1) (max cf (g i 1)); omega
      · dsimp only; omega
    · dsimp only; omega
section zGsN
variable {h : zH} {n : Nat} {g : Nat → Nat → Int} {Q : Option zV → zH → Prop}
/-- a screen as an object holds it -/
def scIs (h : zH) (s : Nat) (x : sC) : Prop := (∀ k, k < 192 → zA h (zR h 384 s) k = x.1 k) ∧ zI h 385 s = x.2.1 ∧ zI h 386 s = x.2.2
theorem c_isRight {o t : Nat} {q : Nat → Int} {x : sC} (hg : gIs h o q) (hk : (zK h t).1 = 17) (hs : sOK h (zR h 448 t)) (hx : scIs h (zR h 448 t) x) (hq : q 3 ≠ -1 → 0 ≤ q 2 ∧ q 2 < 192) (hc : ∀ k, k < 192 → 0 ≤ x.1 k ∧ x.1 k < 100000) (hQ : Q (some (.inl (if grt (zI h 450 t) x q = true then 1 else 0))) h) : zE 15 0 [some (.inr o), some (.inr t)] [] h Q := by
  obtain ⟨g1, g2, g3, g4, g5, g6, g7, g8⟩ := hg
  rw [xX2_isRight_0, g6]
  refine ⟨g1, ?_⟩
  unfold grt at hQ
  by_cases h3 : q 3 = -1
  · rw [if_pos h3]
    rw [if_pos h3] at hQ
    simp only [xX2_isRight_40, xX2_isRight_51, xX2_isRight_65, xX2_isRight_79, xX2_isRight_83, xX2_isRight_84, g1, g2, g7, g8, hk, hs.1, hx.2.1, hx.2.2, true_and]
    by_cases hA : q 0 < zI h 450 t
    · rw [if_pos hA]
      rw [if_pos (decide_eq_true (Or.inl hA))] at hQ
      exact ⟨Or.inr trivial, hQ⟩
    · rw [if_neg hA]
      by_cases hr : x.2.1 = q 4
      · rw [if_neg (fun z => z hr)]
        by_cases hcl : x.2.2 = q 5
        · rw [if_neg (fun z => z hcl)]
          rw [if_pos (decide_eq_true (Or.inr ⟨hr, hcl⟩))] at hQ
          exact ⟨Or.inr trivial, hQ⟩
        · rw [if_pos hcl]
          rw [if_neg (by rw [decide_eq_true_eq]; rintro (z | z); exact hA z; exact hcl z.2)] at hQ
          exact ⟨Or.inl trivial, hQ⟩
      · rw [if_pos hr]
        rw [if_neg (by rw [decide_eq_true_eq]; rintro (z | z); exact hA z; exact hr z.1)] at hQ
        exact ⟨Or.inl trivial, hQ⟩
  · rw [if_neg h3]
    rw [if_neg h3] at hQ
    obtain ⟨q0, q1⟩ := hq h3
    rw [xX2_isRight_8, g4, g5, if_neg (by omega), if_neg (by omega)]
    refine ⟨hk, g1, g1, hs.1, c_at hs ?_⟩
    rw [if_pos (by omega)]
    simp only [Option.toList_some, List.cons_append, List.nil_append]
    have e : (24 * (q 2 / 24) + q 2 % 24).toNat = (q 2).toNat := by congr 1; omega
    rw [e, hx.1 _ (by omega), xX2_isRight_23, g6]
    have hc2 := hc (q 2).toNat (by omega)
    rw [tmod_pos (by omega), zw_eq (by omega) (by omega)]
    refine ⟨by decide, g1, ?_⟩
    simp only [xX2_isRight_34, xX2_isRight_38, xX2_isRight_39]
    by_cases he : x.1 (q 2).toNat % 128 = q 3
    · rw [if_neg (fun z => z he)]
      rw [if_pos (decide_eq_true he)] at hQ
      exact ⟨Or.inr trivial, hQ⟩
    · rw [if_pos he]
      rw [if_neg (by rw [decide_eq_true_eq]; exact he)] at hQ
      exact ⟨Or.inl trivial, hQ⟩
/-- the seven fields of a guess -/
def zG7 (h : zH) (o : Nat) (k a r c s rb cb : Int) : zH := zsI (zsI (zsI (zsI (zsI (zsI (zsI h 64 o k) 65 o a) 66 o r) 67 o c) 68 o s) 69 o rb) 70 o cb
theorem zI_G7 {o f x : Nat} {k a r c s rb cb : Int} (hf : ¬ (64 ≤ f ∧ f ≤ 70) ∨ x ≠ o) : zI (zG7 h o k a r c s rb cb) f x = zI h f x := by
  unfold zG7
  rw [zI_sI, if_neg (by omega), zI_sI, if_neg (by omega), zI_sI, if_neg (by omega), zI_sI, if_neg (by omega), zI_sI, if_neg (by omega), zI_sI, if_neg (by omega), zI_sI, if_neg (by omega)]
theorem c_Gapp_t {o : Nat} {k rb cb : Int} {hb : zH} (hk10 : (zK hb 10).1 = 12) (ho : (zK hb o).1 = 11) (ho10 : o ≠ 10) (hsz : zI hb 129 10 = n) (hn : n < 60)
    (hQ : Q (some (.inr o)) (zsI (zG7 hb o k (zI hb 130 10) (-1) (-1) (-1) rb cb) 129 10 (n + 1 : Nat))) : zE 20 54 [some (.inr 10), some (.inl k), some (.inl rb), some (.inl cb), some (.inr o)] [] hb Q := by
  simp only [xX3_append_54, xX3_append_60, xX3_append_69, xX3_append_75, xX3_append_81, xX3_append_87, xX3_append_93, xX3_append_99, xX3_append_109, zK_sI, hk10, ho, true_and]
  have e1 : zI (zsI hb 64 o k) 130 10 = zI hb 130 10 := by rw [zI_sI, if_neg (by omega)]
  rw [e1]
  have e2 := zI_G7 (h := hb) (o := o) (k := k) (a := zI hb 130 10) (r := -1) (c := -1) (s := -1) (rb := rb) (cb := cb) (f := 129) (x := 10) (Or.inl (by omega))
  unfold zG7 at e2 hQ
  rw [e2, hsz, zw_eq (by omega) (by omega)]
  exact hQ
/-- Guesses.append -/
theorem c_Gapp {k rb cb : Int} (hG : rG h n g) (hz : 48 ≤ zn h)
    (h60 : n = 60 → Q (some (.inr 0)) h)
    (h1 : n < 60 → zB h 11 n ≠ 0 → Q (some (.inr (zB h 11 n))) (zsI (zG7 h (zB h 11 n) k (zI h 130 10) (-1) (-1) (-1) rb cb) 129 10 (n + 1 : Nat)))
    (h0 : n < 60 → zB h 11 n = 0 → Q (some (.inr (zn h))) (zsI (zG7 (zsB (znO h 1 7) 11 n (zn h)) (zn h) k (zI h 130 10) (-1) (-1) (-1) rb cb) 129 10 (n + 1 : Nat))) : zE 20 0 [some (.inr 10), some (.inl k), some (.inl rb), some (.inl cb), none] [] h Q := by
  obtain ⟨⟨r1, r2, r3, r4, r5, r6⟩, s1, s2, s3⟩ := id hG
  rw [xX3_append_0, s1, if_neg (by omega), xX3_append_7, s1]
  refine ⟨r1, r1, ?_⟩
  by_cases hn : n = 60
  · rw [if_neg (by omega), xX3_append_16]
    exact h60 hn
  · have hn' : n < 60 := by omega
    rw [if_pos (by omega), xX3_append_18, s1, r2, r3, Int.toNat_natCast]
    refine ⟨r1, r1, ⟨by show 2 ≤ 4; omega, by show 4 ≤ 4; omega⟩, ⟨by omega, by show (n : Int) < (60 : Nat); omega⟩, ?_⟩
    by_cases he : zB h 11 n = 0
    · rw [if_neg (fun q => q he), xX3_append_34, xX3_append_37, xX2_init_0, xX2_init_4]
      refine ⟨by omega, by omega, ?_⟩
      simp only [Option.toList_none, List.nil_append]
      have e1 : zR (znO h 1 7) 128 10 = 11 := by rw [zR_nO, if_neg (by omega)]; exact r2
      have e2 : zK (znO h 1 7) 10 = zK h 10 := by rw [zK_nO, if_neg (by omega)]
      have e3 : zK (znO h 1 7) 11 = (4, 60) := by rw [zK_nO, if_neg (by omega)]; exact r3
      have e4 : zI (znO h 1 7) 129 10 = n := by rw [zI_nO, if_neg (by omega)]; exact s1
      have e5 : zK (znO h 1 7) (zn h) = (11, 0) := by rw [zK_nO, if_pos rfl]
      have e6 : zI (zsB (znO h 1 7) 11 n (zn h)) 130 10 = zI h 130 10 := by rw [zI_sB, zI_nO, if_neg (by omega)]
      rw [xX3_append_41, e1, e2, e3, e4, e5, Int.toNat_natCast]
      refine ⟨r1, r1, ⟨by show 2 ≤ 4; omega, by show 4 ≤ 4; omega⟩, rfl, ⟨by omega, by show (n : Int) < (60 : Nat); omega⟩, c_Gapp_t (n := n) ?_ ?_ ?_ ?_ hn' ?_⟩
      · rw [zK_sB, e2]; exact r1
      · rw [zK_sB, e5]
      · omega
      · rw [zI_sB]; exact e4
      · rw [e6]; exact h0 hn' he
    · rw [if_pos he]
      refine c_Gapp_t r1 (r5 n hn' he) ?_ s1 hn' (h1 hn' he)
      intro q
      have := r5 n hn' he
      rw [q, r1] at this
      cases this
/-- one more guess -/
theorem rG_one {h' : zH} {o : Nat} {q : Nat → Int} (hG : rG h n g) (hn : n < 60) (hK : ∀ x, (zK h x).1 ≠ 0 → zK h' x = zK h x) (hK0 : (zK h' 0).1 = 0) (hR : zR h' 128 10 = 11) (hB : zB h' 11 = nup (zB h 11) n o) (ho : o = zB h 11 n ∨ ∀ i, i < 60 → zB h 11 i ≠ o) (ho0 : o ≠ 0)
    (hq : gIs h' o q) (hI : ∀ f x, 64 ≤ f → f ≤ 70 → x ≠ o → (zK h x).1 = 11 → zI h' f x = zI h f x) (hs : zI h' 129 10 = (n + 1 : Nat)) : rG h' (n + 1) (fun i => if i = n then q else g i) := by
  obtain ⟨⟨r1, r2, r3, r4, r5, r6⟩, s1, s2, s3⟩ := id hG
  have hnn : ∀ i, i < n → zB h 11 i ≠ o := by
    intro i hi e
    rcases ho with h1 | h1
    · rw [h1] at e
      have := r6 i n (by omega) hn (hG.nz hi) e
      omega
    · exact h1 i (by omega) e
  refine ⟨⟨by rw [hK 10 (by rw [r1]; decide)]; exact r1, hR, by rw [hK 11 (by rw [r3]; decide)]; exact r3, hK0, fun i hi => ?_, fun i j hi hj => ?_⟩, hs, by omega, fun i hi => ?_⟩
  · rw [hB]
    unfold nup
    by_cases he : i = n
    · rw [if_pos he]; intro _; exact hq.1
    · rw [if_neg he]; intro h0
      have := r5 i hi h0
      rw [hK _ (by rw [this]; decide)]; exact this
  · rw [hB]
    unfold nup
    by_cases hin : i = n <;> by_cases hjn : j = n
    · intro _ _; omega
    · rw [if_pos hin, if_neg hjn]
      intro h0 e
      rcases ho with h1 | h1
      · rw [h1] at e
        have := r6 n j hn hj (by rw [← h1]; exact ho0) e
        omega
      · exact absurd e.symm (h1 j hj)
    · rw [if_neg hin, if_pos hjn]
      intro h0 e
      rcases ho with h1 | h1
      · rw [h1] at e
        have := r6 i n hi hn h0 e
        omega
      · exact absurd e (h1 i hi)
    · rw [if_neg hin, if_neg hjn]
      exact r6 i j hi hj
  · rw [hB]
    unfold nup
    by_cases he : i = n
    · rw [if_pos he]; dsimp only; rw [if_pos he]; exact hq
    · rw [if_neg he]; dsimp only; rw [if_neg he]
      obtain ⟨g1, g2, g3, g4, g5, g6, g7, g8⟩ := s3 i (by omega)
      have hio := hnn i (by omega)
      refine ⟨by rw [hK _ (by rw [g1]; decide)]; exact g1, ?_, ?_, ?_, ?_, ?_, ?_, ?_⟩
      · rw [hI _ _ (by omega) (by omega) hio g1]; exact g2
      · rw [hI _ _ (by omega) (by omega) hio g1]; exact g3
      · rw [hI _ _ (by omega) (by omega) hio g1]; exact g4
      · rw [hI _ _ (by omega) (by omega) hio g1]; exact g5
      · rw [hI _ _ (by omega) (by omega) hio g1]; exact g6
      · rw [hI _ _ (by omega) (by omega) hio g1]; exact g7
      · rw [hI _ _ (by omega) (by omega) hio g1]; exact g8
end zGsN
