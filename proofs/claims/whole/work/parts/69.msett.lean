/-! THE MODEL'S GUESSES SETTLED -/
def setG (c : cg) (n : Int) (G : Nat → Nat → Int) : cg := (fup c.1 21 n, c.2.1, c.2.2.1, c.2.2.2.1, G)
def stlS (c : cg) : Nat × Int × Bool := stl c.2.2.2.2 (newN c).2.2 (newN c).1 (c.1 21).toNat 0 (c.1 22)
def settS (c : cg) : cg :=
  if (stlS c).2.2 = true then vS (setG (vS (vS (vS (vS c 31 (c.1 31 + (stlS c).1)) 22 (stlS c).2.1) 32 (c.1 32 + 1)) 33 (c.1 33 + (c.1 21 - (stlS c).1))) 0 c.2.2.2.2) 23 (c.1 23 + 1)
  else setG (vS (vS c 31 (c.1 31 + (stlS c).1)) 22 (stlS c).2.1) (c.1 21 - (stlS c).1) (fun i => c.2.2.2.2 (i + (stlS c).1))
def gsh (A : Nat → Nat → Int) (m k : Nat) : Nat → Nat → Int := fun a i => if (42 ≤ a ∧ a < 48) ∧ i < k then A a (i + m) else A a i
section mSett
variable {h : zH} {I : Nat → Int} {A A' : Nat → Nat → Int} {c : cg} {l : lg} {Q : Option zV → zH → Prop} {B : Int}
theorem gsh_0 {m : Nat} : gsh A m 0 = A := by
  funext a i
  exact if_neg (by omega)
theorem gsh_r {m k a : Nat} : gsh A m k a (k + m) = A a (k + m) := if_neg (by omega)
theorem gsh_s {m k : Nat} : zu (zu (zu (zu (zu (zu (gsh A m k) 42 k (A 42 (k + m))) 43 k (A 43 (k + m))) 44 k (A 44 (k + m))) 45 k (A 45 (k + m))) 46 k (A 46 (k + m))) 47 k (A 47 (k + m)) = gsh A m (k + 1) := by
  funext a i
  by_cases hi : i = k
  · subst hi
    by_cases h2 : 42 ≤ a ∧ a < 48
    · have e : gsh A m (i + 1) a i = A a (i + m) := if_pos ⟨h2, by omega⟩
      rw [e]
      have : a = 42 ∨ a = 43 ∨ a = 44 ∨ a = 45 ∨ a = 46 ∨ a = 47 := by omega
      rcases this with rfl | rfl | rfl | rfl | rfl | rfl
      · rw [zu_na (by decide), zu_na (by decide), zu_na (by decide), zu_na (by decide), zu_na (by decide), zu_s]
      · rw [zu_na (by decide), zu_na (by decide), zu_na (by decide), zu_na (by decide), zu_s]
      · rw [zu_na (by decide), zu_na (by decide), zu_na (by decide), zu_s]
      · rw [zu_na (by decide), zu_na (by decide), zu_s]
      · rw [zu_na (by decide), zu_s]
      · rw [zu_s]
    · rw [zu_na (by omega), zu_na (by omega), zu_na (by omega), zu_na (by omega), zu_na (by omega), zu_na (by omega)]
      unfold gsh
      rw [if_neg (fun q => h2 q.1), if_neg (fun q => h2 q.1)]
  · rw [zu_ni hi, zu_ni hi, zu_ni hi, zu_ni hi, zu_ni hi, zu_ni hi]
    unfold gsh
    by_cases q : (42 ≤ a ∧ a < 48) ∧ i < k
    · rw [if_pos q, if_pos ⟨q.1, by omega⟩]
    · rw [if_neg q, if_neg (by omega)]
theorem RepR.sG {n : Int} {G : Nat → Nat → Int} (hR : RepR I A c l) (hA : ∀ a i, a < 42 → A' a i = A a i) (hG : ∀ i : Nat, (i : Int) < n → ∀ q, q < 6 → A' (42 + q) i = G i q) : RepR (fup I 677 n) A' (setG c n G) l := by
  obtain ⟨⟨a1, a2, a3⟩, a4, a5, a6, a7, a8, a9⟩ := hR
  have e20 : fup c.1 21 n 20 = c.1 20 := fup_n (by decide)
  have e13 : fup c.1 21 n 13 = c.1 13 := fup_n (by decide)
  have e12 : fup c.1 21 n 12 = c.1 12 := fup_n (by decide)
  have e21 : fup c.1 21 n 21 = n := fup_s
  refine ⟨⟨fun k hk => ?_, ?_, fun i hi => ?_⟩, mS_o (fun a i q => hA a i (by omega)) a4, fun i hi => ?_, fun i hi => ?_, fun i hi => ?_, fun i hi q hq => ?_, fun j hj => ⟨(hA _ _ (by omega)).trans (a9 j hj).1, fun k hk => ?_⟩⟩
  · show fup I 677 n (fM k) = fup c.1 21 n k
    by_cases e : k = 21
    · subst e
      rw [e21]
      exact fup_s
    · have ne : fM k ≠ 677 := fun q => e (fM_inj k hk 21 (by omega) q)
      rw [fup_n e, fup_n ne]
      exact a1 k hk
  · show fup I 677 n 659 = fup c.1 21 n 6
    rw [fup_n (by decide), fup_n (by decide)]
    exact a2
  · show A' 37 i = fup c.1 21 n (24 + i)
    rw [fup_n (by omega), hA _ _ (by omega)]
    exact a3 i hi
  · have hi' : (i : Int) < fup c.1 21 n 12 := hi
    rw [e12] at hi'
    exact mT_o (fun a i q => hA a i (by omega)) (a5 i hi')
  · have hi' : (i : Int) < fup c.1 21 n 20 := hi
    rw [e20] at hi'
    exact mT_o (fun a i q => hA a i (by omega)) (a6 i hi')
  · have hi' : (i : Int) < fup c.1 21 n 13 := hi
    rw [e13] at hi'
    exact (hA _ _ (by omega)).trans (a7 i hi')
  · have hi' : (i : Int) < fup c.1 21 n 21 := hi
    rw [e21] at hi'
    exact hG i hi' q hq
  · obtain ⟨b1, b2, b3⟩ := (a9 j hj).2 k hk
    exact ⟨(hA _ _ (by omega)).trans b1, b2, fun i v hv => (hA _ _ (by omega)).trans (b3 i v hv)⟩
theorem m_shift_l {n m : Nat} (hm : mOK h) (hn : I 677 = n) (hn2 : n ≤ 60) (hm0 : 0 < m) (hmn : m ≤ n) {l1 l3 : Option zV} (hQ : Q none (zM h (fup I 677 ((n - m : Nat) : Int)) (gsh A m (n - m)))) :
    ∀ (d k : Nat), k + d = n - m → zE 157 232 [some (.inr 29), l1, some (.inl (m : Int)), l3, some (.inl (k : Int))] [] (zM h I (gsh A m k)) Q := by
  intro d
  induction d with
  | zero =>
    intro k hk
    have e : k = n - m := by omega
    subst e
    rw [yX11_settles_232 hm, hn, zw_eq (by omega) (by omega), if_pos (by omega), yX11_settles_349 hm, hn, zw_eq (by omega) (by omega), yX11_settles_359 hm, show (n : Int) - (m : Int) = ((n - m : Nat) : Int) by omega]
    exact hQ
  | succ d ih =>
    intro k hk
    have w : zw ((k : Int) + (m : Int)) = ((k + m : Nat) : Int) := by
      rw [zw_eq (by omega) (by omega)]
      omega
    rw [yX11_settles_232 hm, hn, w, if_neg (by omega), yX11_settles_243 hm, if_neg (by omega), yX11_settles_247 hm, w, Int.toNat_natCast, Int.toNat_natCast, gsh_r, yX11_settles_263 hm, w, Int.toNat_natCast, Int.toNat_natCast, zu_na (by decide), gsh_r, yX11_settles_279 hm, w, Int.toNat_natCast, Int.toNat_natCast, zu_na (by decide), zu_na (by decide), gsh_r, yX11_settles_295 hm, w, Int.toNat_natCast, Int.toNat_natCast, zu_na (by decide), zu_na (by decide), zu_na (by decide), gsh_r, yX11_settles_311 hm, w, Int.toNat_natCast, Int.toNat_natCast, zu_na (by decide), zu_na (by decide), zu_na (by decide), zu_na (by decide), gsh_r, yX11_settles_327 hm, w, Int.toNat_natCast, Int.toNat_natCast, zu_na (by decide), zu_na (by decide), zu_na (by decide), zu_na (by decide), zu_na (by decide), gsh_r, gsh_s, yX11_settles_343 hm, zw_eq (by omega) (by omega)]
    exact ⟨⟨by omega, by omega⟩, ⟨by omega, by omega⟩, ⟨by omega, by omega⟩, ⟨by omega, by omega⟩, ⟨by omega, by omega⟩, ⟨by omega, by omega⟩, ⟨by omega, by omega⟩, ⟨by omega, by omega⟩, ⟨by omega, by omega⟩, ⟨by omega, by omega⟩, ⟨by omega, by omega⟩, ⟨by omega, by omega⟩, ih (k + 1) (by omega)⟩
theorem m_sett_l {n s : Nat} {g : Nat → Nat → Int} {x : sT} {R0 : Int} (hm : mOK h) (hn : I 677 = n) (hn2 : n ≤ 60) (hs : s < 67) (hx : mT A s x) (hg : ∀ i, i < n → ∀ q, q < 6 → A (42 + q) i = g i q) (hgo : ∀ i, i < n → gOK (g i)) (hR : 0 ≤ R0 ∧ R0 ≤ 1000000) :
    ∀ (d i : Nat) (cf : Int) (l4 : Option zV), i + d = n → (∀ l4, zE 157 182 [some (.inr 29), some (.inl (s : Int)), some (.inl (((stl g x.2.2 x.1 d i cf).1 : Nat) : Int)), some (.inl (if (stl g x.2.2 x.1 d i cf).2.2 = true then 1 else 0)), l4] [] (zM h (fup I 678 (stl g x.2.2 x.1 d i cf).2.1) (zu A 37 7 (R0 + (stl g x.2.2 x.1 d i cf).1))) Q) →
    zE 157 9 [some (.inr 29), some (.inl (s : Int)), some (.inl (i : Int)), some (.inl 0), l4] [] (zM h (fup I 678 cf) (zu A 37 7 (R0 + i))) Q := by
  intro d
  induction d with
  | zero =>
    intro i cf l4 hi hQ
    rw [yX11_settles_9 hm, fup_n (by decide), hn, if_pos (by omega)]
    exact hQ l4
  | succ d ih =>
    intro i cf l4 hi hQ
    have go := hgo i (by omega)
    unfold gOK at go
    have r : ∀ q, q < 6 → zu A 37 7 (R0 + i) (42 + q) i = g i q := fun q hq => (zu_na (by omega)).trans (hg i (by omega) q hq)
    have r0 : zu A 37 7 (R0 + i) 42 i = g i 0 := r 0 (by omega)
    have r1 : zu A 37 7 (R0 + i) 43 i = g i 1 := r 1 (by omega)
    have r2 : zu A 37 7 (R0 + i) 44 i = g i 2 := r 2 (by omega)
    have r3 : zu A 37 7 (R0 + i) 45 i = g i 3 := r 3 (by omega)
    have r4 : zu A 37 7 (R0 + i) 46 i = g i 4 := r 4 (by omega)
    have r5 : zu A 37 7 (R0 + i) 47 i = g i 5 := r 5 (by omega)
    have t35 : zu A 37 7 (R0 + i) 35 s = x.2.2 := (zu_na (by decide)).trans hx.2.2
    have t32 : zu A 37 7 (R0 + i) 32 s = x.1.2.1 := (zu_na (by decide)).trans hx.1.2.1
    have t33 : zu A 37 7 (R0 + i) 33 s = x.1.2.2 := (zu_na (by decide)).trans hx.1.2.2
    rw [stl_s] at hQ
    rw [yX11_settles_9 hm, fup_n (by decide), hn, if_neg (by omega), yX11_settles_17 hm, if_neg (fun z => z rfl), yX11_settles_21 hm, Int.toNat_natCast, Int.toNat_natCast, t35, r0]
    refine ⟨⟨by omega, by omega⟩, ⟨by omega, by omega⟩, ?_⟩
    by_cases k1 : g i 0 ≤ x.2.2
    · rw [if_pos k1] at hQ
      rw [if_neg (by omega), yX11_settles_36 hm, Int.toNat_natCast, r2]
      refine ⟨⟨by omega, by omega⟩, ?_⟩
      -- behind the test
      have e130 : ∀ b : Int, b = (if grt x.2.2 x.1 (g i) = true then 1 else 0) → zE 157 130 [some (.inr 29), some (.inl (s : Int)), some (.inl (i : Int)), some (.inl 0), l4] [.inl b] (zM h (fup I 678 cf) (zu A 37 7 (R0 + i))) Q := by
        intro b hb
        rw [yX11_settles_130 hm]
        by_cases gr : grt x.2.2 x.1 (g i) = true
        · rw [if_pos gr] at hQ hb
          subst hb
          have e78 : fup I 678 cf 678 = cf := fup_s
          have e7 : ∀ v, zM h (fup (fup I 678 cf) 678 v) (zu A 37 7 (R0 + i)) = zM h (fup I 678 v) (zu A 37 7 (R0 + i)) := fun v => by rw [fup_two]
          have z7 : zu A 37 7 (R0 + i) 37 7 = R0 + i := zu_s
          have zz : zu (zu A 37 7 (R0 + i)) 37 7 (R0 + i + 1) = zu A 37 7 (R0 + ((i + 1 : Nat) : Int)) := by
            funext a j
            unfold zu
            by_cases q : a = 37 ∧ j = 7
            · rw [if_pos q, if_pos q]; omega
            · rw [if_neg q, if_neg q, if_neg q]
          have e160 : ∀ cf', cf' = max cf (g i 1) → zE 157 160 [some (.inr 29), some (.inl (s : Int)), some (.inl (i : Int)), some (.inl 0), some (.inl 1)] [] (zM h (fup I 678 cf') (zu A 37 7 (R0 + i))) Q := by
            intro cf' hcf
            subst hcf
            rw [yX11_settles_160 hm, z7, zw_eq (by omega) (by omega), zz, yX11_settles_171 hm, zw_eq (by omega) (by omega), yX11_settles_179 hm]
            exact ih (i + 1) _ _ (by omega) hQ
          rw [if_neg (by decide), yX11_settles_137 hm, Int.toNat_natCast, r1, e78]
          refine ⟨⟨by omega, by omega⟩, ?_⟩
          by_cases k2 : g i 1 ≤ cf
          · rw [if_pos k2]
            exact e160 cf (by omega)
          · rw [if_neg k2, yX11_settles_150 hm, Int.toNat_natCast, r1, e7]
            exact ⟨⟨by omega, by omega⟩, e160 _ (by omega)⟩
        · rw [if_neg gr] at hQ hb
          subst hb
          rw [if_pos rfl, yX11_settles_177 hm, yX11_settles_179 hm, yX11_settles_9 hm, fup_n (by decide), hn, if_neg (by omega), yX11_settles_17 hm, if_pos (by decide)]
          have := hQ (some (.inl 0))
          rw [if_pos rfl] at this
          exact this
      unfold grt at e130
      by_cases k2 : g i 2 = -1
      · have k3 : g i 3 = -1 := by omega
        rw [if_pos k3] at e130
        rw [if_neg (fun z => z k2), yX11_settles_46 hm, Int.toNat_natCast, Int.toNat_natCast, r4, t32]
        refine ⟨⟨by omega, by omega⟩, ⟨by omega, by omega⟩, ?_⟩
        have e91 : (g i 0 < x.2.2 ∨ (x.1.2.1 = g i 4 ∧ x.1.2.2 = g i 5)) → zE 157 91 [some (.inr 29), some (.inl (s : Int)), some (.inl (i : Int)), some (.inl 0), l4] [] (zM h (fup I 678 cf) (zu A 37 7 (R0 + i))) Q := by
          intro z
          rw [yX11_settles_91 hm]
          exact e130 1 (by rw [if_pos (decide_eq_true z)])
        have e76 : ¬ (x.1.2.1 = g i 4 ∧ x.1.2.2 = g i 5) → zE 157 76 [some (.inr 29), some (.inl (s : Int)), some (.inl (i : Int)), some (.inl 0), l4] [] (zM h (fup I 678 cf) (zu A 37 7 (R0 + i))) Q := by
          intro z
          rw [yX11_settles_76 hm, Int.toNat_natCast, Int.toNat_natCast, t35, r0]
          refine ⟨⟨by omega, by omega⟩, ⟨by omega, by omega⟩, ?_⟩
          by_cases y : x.2.2 ≤ g i 0
          · rw [if_pos y, yX11_settles_95 hm]
            exact e130 0 (by rw [if_neg (fun w => absurd (of_decide_eq_true w) (by omega))])
          · rw [if_neg y]
            exact e91 (Or.inl (by omega))
        by_cases y4 : g i 4 = x.1.2.1
        · rw [if_neg (fun z => z y4), yX11_settles_61 hm, Int.toNat_natCast, Int.toNat_natCast, r5, t33]
          refine ⟨⟨by omega, by omega⟩, ⟨by omega, by omega⟩, ?_⟩
          by_cases y5 : g i 5 = x.1.2.2
          · rw [if_pos y5]
            exact e91 (Or.inr ⟨y4.symm, y5.symm⟩)
          · rw [if_neg y5]
            exact e76 (fun z => y5 z.2.symm)
        · rw [if_pos y4]
          exact e76 (fun z => y4 z.1.symm)
      · have k3 : g i 3 ≠ -1 := by omega
        rw [if_neg k3] at e130
        obtain ⟨ce, hce⟩ : ∃ n : Nat, g i 2 = n := ⟨(g i 2).toNat, by omega⟩
        have hc := (hx.1.1 ce (by omega)).1
        have t30 : zu A 37 7 (R0 + i) 30 (192 * s + ce) = x.1.1 ce % 128 := (zu_na (by decide)).trans hc
        rw [if_pos k2, yX11_settles_99 hm, Int.toNat_natCast, r2, r3, hce, ixw (by omega) (by omega), Int.toNat_natCast, t30]
        refine ⟨⟨by omega, by omega⟩, ⟨by omega, by omega⟩, ⟨by omega, by omega⟩, ?_⟩
        rw [hce, Int.toNat_natCast] at e130
        by_cases y : x.1.1 ce % 128 = g i 3
        · rw [if_neg (fun z => z y), yX11_settles_125 hm]
          exact e130 1 (by rw [if_pos (decide_eq_true y)])
        · rw [if_pos y, yX11_settles_129 hm]
          exact e130 0 (by rw [if_neg (fun w => absurd (of_decide_eq_true w) y)])
    · rw [if_neg k1] at hQ
      rw [if_pos (by omega)]
      exact hQ l4
theorem m_settles (hm : mOK h) (hR : RepR I A c l) (hG : Good B c l) (hQ : ∀ I' A', RepR I' A' (settS c) l → (∀ i, A' 41 i = A 41 i) → I' 674 = I 674 → (∀ i, A' 34 i = A 34 i) → I' 663 = I 663 → Q none (zM h I' A')) :
    zE 157 0 [some (.inr 29), none, none, none, none] [] (zM h I A) Q := by
  obtain ⟨⟨a1, a2, a3⟩, a4, a5, a6, a7, a8, a9⟩ := id hR
  have gv := hG.1
  have hgo := hG.2.2.2.2.1
  have hV : (1 ≤ c.1 20 ∧ c.1 20 ≤ 32) ∧ (0 ≤ c.1 21 ∧ c.1 21 ≤ 60) ∧ (0 ≤ c.1 31 ∧ c.1 31 ≤ 1000) ∧ (0 ≤ c.1 32 ∧ c.1 32 ≤ 1000) ∧ (0 ≤ c.1 33 ∧ c.1 33 ≤ 1000) ∧ (1 ≤ c.1 23 ∧ c.1 23 ≤ 3000) := by unfold gV at gv; omega
  obtain ⟨n, hn⟩ : ∃ n : Nat, c.1 20 = n := ⟨(c.1 20).toNat, by omega⟩
  obtain ⟨m, hm2⟩ : ∃ n : Nat, c.1 21 = n := ⟨(c.1 21).toNat, by omega⟩
  have i20 : I 663 = n := (a1 20 (by omega)).trans hn
  have i21 : I 677 = m := (a1 21 (by omega)).trans hm2
  have i22 : I 678 = c.1 22 := a1 22 (by omega)
  have i23 : I 679 = c.1 23 := a1 23 (by omega)
  have c7 : A 37 7 = c.1 31 := a3 7 (by omega)
  have c8 : A 37 8 = c.1 32 := a3 8 (by omega)
  have c9 : A 37 9 = c.1 33 := a3 9 (by omega)
  have eN : newN c = c.2.2.1 0 (n - 1) := by
    unfold newN
    rw [hn, show ((n : Int) - 1).toNat = n - 1 by omega]
  have tN := a6 (n - 1) (by omega)
  rw [← eN] at tN
  have w : zw (zw (34 + (n : Int)) - 1) = ((34 + (n - 1) : Nat) : Int) := by
    rw [zw_eq (x := 34 + (n : Int)) (by omega) (by omega), zw_eq (by omega) (by omega)]
    omega
  have eS : stlS c = stl c.2.2.2.2 (newN c).2.2 (newN c).1 m 0 (c.1 22) := by
    unfold stlS
    rw [hm2, Int.toNat_natCast]
  have hle := stl_le c.2.2.2.2 (newN c).2.2 (newN c).1 m 0 (c.1 22)
  rw [← eS] at hle
  rw [yX11_settles_0 hm, yX11_nearNewest_0 hm, i20, w]
  simp only [Option.toList_some, List.cons_append, List.nil_append]
  rw [yX11_settles_4 hm]
  have eI : I = fup I 678 (c.1 22) := (fup_id i22).symm
  have eA : A = zu A 37 7 (c.1 31 + ((0 : Nat) : Int)) := by
    funext a i
    unfold zu
    by_cases q : a = 37 ∧ i = 7
    · rw [if_pos q, q.1, q.2, c7]; omega
    · rw [if_neg q]
  have key := m_sett_l (h := h) (I := I) (A := A) (g := c.2.2.2.2) (R0 := c.1 31) (n := m) (s := 34 + (n - 1)) (x := newN c) (Q := Q) hm i21 (by omega) (by omega) tN (fun i hi q hq => a8 i (by omega) q hq) (fun i hi => hgo i (by omega)) (by omega) m 0 (c.1 22) none (by omega) ?_
  · rw [← eI, ← eA] at key
    exact key
  · intro l4
    rw [← eS]
    unfold settS at hQ
    have R1 : RepR (fup I 678 (stlS c).2.1) (zu A 37 7 (c.1 31 + (stlS c).1)) (vS (vS c 31 (c.1 31 + (stlS c).1)) 22 (stlS c).2.1) l := (hR.sN (i := 7) (v := c.1 31 + (stlS c).1) (by omega)).sI (k := 22) (v := (stlS c).2.1) (by decide) (by decide) (by decide) (by decide) (by decide) (by decide)
    rw [yX11_settles_182 hm]
    by_cases bad : (stlS c).2.2 = true
    · rw [if_pos bad] at hQ ⊢
      have d8 : zu A 37 7 (c.1 31 + (stlS c).1) 37 8 = c.1 32 := (zu_ni (by decide)).trans c8
      have d9 : zu (zu A 37 7 (c.1 31 + (stlS c).1)) 37 8 (c.1 32 + 1) 37 9 = c.1 33 := (zu_ni (by decide)).trans ((zu_ni (by decide)).trans c9)
      have d77 : fup I 678 (stlS c).2.1 677 = m := (fup_n (by decide)).trans i21
      have d79 : fup (fup I 678 (stlS c).2.1) 677 0 679 = c.1 23 := (fup_n (by decide)).trans ((fup_n (by decide)).trans i23)
      rw [if_neg (by decide), yX11_settles_186 hm, d8, zw_eq (by omega) (by omega), yX11_settles_197 hm, d9, d77, zw_eq (x := (m : Int) - _) (by omega) (by omega), zw_eq (by omega) (by omega), yX11_settles_213 hm, yX11_settles_218 hm, d79, zw_eq (by omega) (by omega), yX11_settles_228 hm]
      refine hQ _ _ ?_ (fun i => ?_) ?_ (fun i => ?_) ?_
      · have R2 := (((R1.sN (i := 8) (v := c.1 32 + 1) (by omega)).sN (i := 9) (v := c.1 33 + ((m : Int) - (stlS c).1)) (by omega)).sG (n := 0) (G := c.2.2.2.2) (fun a i _ => rfl) (fun i hi => absurd hi (by omega))).sI (k := 23) (v := c.1 23 + 1) (by decide) (by decide) (by decide) (by decide) (by decide) (by decide)
        rw [← hm2] at R2
        rw [← hm2]
        exact R2
      · rw [zu_na (by decide), zu_na (by decide), zu_na (by decide)]
      · rw [fup_n (by decide), fup_n (by decide), fup_n (by decide)]
      · rw [zu_na (by decide), zu_na (by decide), zu_na (by decide)]
      · rw [fup_n (by decide), fup_n (by decide), fup_n (by decide)]
    · rw [if_neg bad] at hQ ⊢
      have d77 : fup I 678 (stlS c).2.1 677 = m := (fup_n (by decide)).trans i21
      have em : c.1 21 - ((stlS c).1 : Int) = ((m - (stlS c).1 : Nat) : Int) := by omega
      rw [em] at hQ
      have fin : Q none (zM h (fup (fup I 678 (stlS c).2.1) 677 ((m - (stlS c).1 : Nat) : Int)) (gsh (zu A 37 7 (c.1 31 + (stlS c).1)) (stlS c).1 (m - (stlS c).1))) := by
        refine hQ _ _ ?_ (fun i => ?_) ?_ (fun i => ?_) ?_
        · refine R1.sG (fun a i q => if_neg (by omega)) (fun i hi q hq => ?_)
          show gsh (zu A 37 7 (c.1 31 + (stlS c).1)) (stlS c).1 (m - (stlS c).1) (42 + q) i = c.2.2.2.2 (i + (stlS c).1) q
          unfold gsh
          rw [if_pos (by omega), zu_na (by omega)]
          exact a8 _ (by omega) q hq
        · unfold gsh
          rw [if_neg (by omega), zu_na (by decide)]
        · rw [fup_n (by decide), fup_n (by decide)]
        · unfold gsh
          rw [if_neg (by omega), zu_na (by decide)]
        · rw [fup_n (by decide), fup_n (by decide)]
      rw [if_pos rfl, yX11_settles_229 hm]
      by_cases z0 : (stlS c).1 = 0
      · have e1 : gsh (zu A 37 7 (c.1 31 + (stlS c).1)) (stlS c).1 (m - (stlS c).1) = zu A 37 7 (c.1 31 + (stlS c).1) := by
          funext a i
          unfold gsh
          rw [z0]
          split <;> rfl
        rw [e1] at fin
        have e2 : ((m - (stlS c).1 : Nat) : Int) = (m : Int) - ((stlS c).1 : Int) := by omega
        rw [e2] at fin
        rw [yX11_settles_232 hm, d77, zw_eq (by omega) (by omega)]
        by_cases y : (m : Int) ≤ 0 + ((stlS c).1 : Int)
        · rw [if_pos y, yX11_settles_349 hm, d77, zw_eq (by omega) (by omega), yX11_settles_359 hm]
          exact fin
        · rw [if_neg y, yX11_settles_243 hm, if_pos (by omega), yX11_settles_349 hm, d77, zw_eq (by omega) (by omega), yX11_settles_359 hm]
          exact fin
      · have key := m_shift_l (h := h) (I := fup I 678 (stlS c).2.1) (A := zu A 37 7 (c.1 31 + (stlS c).1)) (l1 := some (.inl ((34 + (n - 1) : Nat) : Int))) (l3 := some (.inl 0)) (Q := Q) hm d77 (by omega) (by omega) (by omega) fin (m - (stlS c).1) 0 (by omega)
        rw [gsh_0] at key
        exact key
end mSett
