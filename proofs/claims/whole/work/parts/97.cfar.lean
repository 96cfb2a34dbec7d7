/-! THE CLASS: a letter taken by the far end -/
def farD (c : cg) (xs : List Int) : cg :=
  let c1 := if num xs 4 < c.1 6 then c else vS c 11 (bt xs 1)
  let c3 := vS (xS (vS c1 4 (fKeys c xs).2) (fKeys c xs).1) 6 (max (c.1 6) (num xs 4))
  let c4 := if c.1 7 < num xs 6 ∧ num xs 6 < c.1 7 + c.1 12 then dropF (vS c3 7 (num xs 6)) (num xs 6 - c.1 7).toNat else c3
  vS c4 10 (if c.1 10 ≠ 0 ∨ num xs 2 < max (c.1 6) (num xs 4) then 1 else 0)
section cFar
variable {h0 h h' : zH} {N M N' M' : Nat} {w w' : Nat → Nat} {c : cg} {l : lg} {Q : Option zV → zH → Prop} {B : Int} {q m la : Nat} {xs : List Int}
theorem farD_eq (h10 : c.1 10 = 0 ∨ c.1 10 = 1) (hq : num xs 2 ≤ c.1 6) : vS (farD c xs) 29 (c.1 29 + 1) = byFarS c xs := by
  unfold byFarS
  rw [if_pos hq]
  generalize hK : fKeys c xs = K
  have eS : ∀ t, fSure (vS (vS (xS (vS c 29 (c.1 29 + 1)) K.1) 4 K.2) 6 (max (c.1 6) (num xs 4))) t = if c.1 7 < t ∧ t < c.1 7 + c.1 12 then dropF (vS (vS (vS (xS (vS c 29 (c.1 29 + 1)) K.1) 4 K.2) 6 (max (c.1 6) (num xs 4))) 7 t) (t - c.1 7).toNat else vS (vS (xS (vS c 29 (c.1 29 + 1)) K.1) 4 K.2) 6 (max (c.1 6) (num xs 4)) := fun t => rfl
  rw [eS]
  unfold farD fAddr fOwes
  rw [hK]
  dsimp only
  have fin : ∀ (a b : cg) (d : Int), a.1 10 = c.1 10 → a.1 6 = max (c.1 6) (num xs 4) → (∀ k, k ≠ 10 → b.1 k = a.1 k) → b.2 = a.2 → b.1 10 = (if c.1 10 ≠ 0 ∨ num xs 2 < max (c.1 6) (num xs 4) then 1 else 0) → b = if a.1 6 ≤ num xs 2 then a else vS a 10 1 := by
    intro a b d e1 e2 e3 e4 e5
    rw [e2]
    by_cases z : max (c.1 6) (num xs 4) ≤ num xs 2
    · rw [if_pos z]
      refine Prod.ext (funext fun k => ?_) e4
      by_cases k10 : k = 10
      · subst k10
        rw [e5, e1]
        by_cases y : c.1 10 = 0
        · rw [if_neg (by omega)]; omega
        · rw [if_pos (Or.inl y)]; omega
      · exact e3 k k10
    · rw [if_neg z]
      refine Prod.ext (funext fun k => ?_) e4
      by_cases k10 : k = 10
      · subst k10
        rw [e5, if_pos (Or.inr (by omega))]
        rfl
      · rw [vS_n k10]; exact e3 k k10
  by_cases z1 : num xs 4 < c.1 6
  · simp only [if_pos z1]
    by_cases z2 : c.1 7 < num xs 6 ∧ num xs 6 < c.1 7 + c.1 12
    · simp only [if_pos z2]
      refine fin _ _ 0 rfl rfl (fun k k10 => ?_) rfl rfl
      by_cases k29 : k = 29
      · subst k29; rfl
      by_cases k12 : k = 12
      · subst k12; rfl
      simp only [dropF, vS, xS, fup, if_neg k29, if_neg k12, if_neg k10]
    · simp only [if_neg z2]
      refine fin _ _ 0 rfl rfl (fun k k10 => ?_) rfl rfl
      by_cases k29 : k = 29
      · subst k29; rfl
      simp only [dropF, vS, xS, fup, if_neg k29, if_neg k10]
  · simp only [if_neg z1]
    by_cases z2 : c.1 7 < num xs 6 ∧ num xs 6 < c.1 7 + c.1 12
    · simp only [if_pos z2]
      refine fin _ _ 0 rfl rfl (fun k k10 => ?_) rfl rfl
      by_cases k29 : k = 29
      · subst k29; rfl
      by_cases k12 : k = 12
      · subst k12; rfl
      by_cases k11 : k = 11
      · subst k11; rfl
      simp only [dropF, vS, xS, fup, if_neg k29, if_neg k12, if_neg k10, if_neg k11]
    · simp only [if_neg z2]
      refine fin _ _ 0 rfl rfl (fun k k10 => ?_) rfl rfl
      by_cases k29 : k = 29
      · subst k29; rfl
      by_cases k11 : k = 11
      · subst k11; rfl
      simp only [dropF, vS, xS, fup, if_neg k29, if_neg k10, if_neg k11]
theorem gon_at {f : Nat → Int} {a : Int} {n j : Nat} (hf : ∀ i, i < n → f i = a + i) (hj : j < n) : gon f (a + j) (n - 1) 0 = j := by
  obtain ⟨g1, g2, g3, g4⟩ := gon_spec (f := f) (v := a + j) (n - 1) 0
  generalize gon f (a + j) (n - 1) 0 = m at *
  rcases Nat.lt_trichotomy m j with z | z | z
  · have := g4 (by omega)
    rw [hf m (by omega)] at this
    omega
  · exact z
  · have := g3 j (by omega) z
    rw [hf j hj] at this
    omega
/-- the rest of take -/
theorem x_takeF_t {c2 : cg} {kn ty : Int} (R : RepC h0 N M h w c2 l) (hnum : ∀ i : Nat, (i : Int) < c2.1 12 → (c2.2.2.1 1 i).2.1 = c2.1 7 + i) (hL : isL h q m xs) (hB : byteL xs) (hlen : 10 ≤ xs.length)
    (hQ : ∀ h', RepC h0 N M h' w (vS (if c2.1 7 < num xs 6 ∧ num xs 6 < c2.1 7 + c2.1 12 then dropF (vS (vS c2 6 (max (c2.1 6) ty)) 7 (num xs 6)) (num xs 6 - c2.1 7).toNat else vS c2 6 (max (c2.1 6) ty)) 10 (if c2.1 10 ≠ 0 ∨ kn < max (c2.1 6) ty then 1 else 0)) l → Q (some (.inl 5)) h') {l4 : Option zV} :
    zE 6 83 [some (.inr 14), some (.inr q), some (.inl kn), some (.inl ty), l4] [] h Q := by
  have hc := R.1
  have n12 := R.n12
  have hS := R.2.2.2.2.1
  obtain ⟨n, hn⟩ : ∃ n : Nat, c2.1 12 = n := ⟨(c2.1 12).toNat, by omega⟩
  have hrF := R.rF
  have hn' : (c2.1 12).toNat = n := by omega
  rw [hn'] at hrF hS
  have hf : ∀ i, i < n → zI h 449 (zB h 18 i) = c2.1 7 + i := fun i hi => ((cS_row hS hi).2.2.2.2.1.2.1).trans (hnum i (by omega))
  have R1 := R.sI (k := 6) (v := max (c2.1 6) ty) (by decide) (Or.inl (by decide)) (by decide) (by decide) (by decide) (by decide)
  refine c_take_t (tk := c2.1 6) (su := c2.1 7) (ow := c2.1 10) hc.k14 hc.r1_14 hrF (R.v 6 (by decide) (Or.inl (by decide))) (R.v 7 (by decide) (Or.inl (by decide))) (R.v 10 (by decide) (Or.inl (by decide))) hL hB (by omega) ?_ ?_
  · intro hno
    rw [if_neg] at hQ
    · exact hQ _ (R1.sI (k := 10) (by decide) (Or.inl (by decide)) (by decide) (by decide) (by decide) (by decide))
    · rintro ⟨p1, p2⟩
      rcases hno with z | z
      · omega
      · have := fnd_none z (num xs 6 - c2.1 7).toNat (by omega) (by omega)
        exact this ((hf _ (by omega)).trans (by omega))
  · intro h1 h2
    cases e : fnd (fun i => zI h 449 (zB h 18 i)) (num xs 6) n 0 with
    | none => exact absurd e h2
    | some j =>
      obtain ⟨j1, j2, j3, _⟩ := fnd_some e
      have j4 := hf j (by omega)
      have hval : num xs 6 = c2.1 7 + j := by rw [← j4]; exact j3.symm
      have hg : gon (fun i => zI h 449 (zB h 18 i)) (num xs 6) (n - 1) 0 = j := by rw [hval]; exact gon_at hf (by omega)
      rw [hg]
      rw [if_pos (by omega), show (num xs 6 - c2.1 7).toNat = j by omega] at hQ
      have R2 := R1.sI (k := 7) (v := num xs 6) (by decide) (Or.inl (by decide)) (by decide) (by decide) (by decide) (by decide)
      have R3 := R2.dropF (n := n) (m := j) hn (by omega)
      exact hQ _ (R3.sI (k := 10) (by decide) (Or.inl (by decide)) (by decide) (by decide) (by decide) (by decide))
theorem x_takeF (R : RepC h0 N M h w c l) (hG : Good B c l) (hL : isL h q m xs) (hlt : ltOK h w la q) (hl : let0 (c.1 13) xs) (q4 : ¬ num xs 2 ≤ c.1 6 → Q (some (.inl 4)) h)
    (q5 : num xs 2 ≤ c.1 6 → ∀ h', RepC h0 N M h' w (farD c xs) l → Q (some (.inl 5)) h') {l2 l3 l4 : Option zV} : zE 6 0 [some (.inr 14), some (.inr q), l2, l3, l4] [] h Q := by
  have hc := R.1
  have gv := hG.1
  obtain ⟨hb, hw, hlen, hle, hT⟩ := hl
  have hV : (0 ≤ c.1 5 ∧ c.1 5 ≤ 3) ∧ (0 ≤ c.1 4 ∧ c.1 4 ≤ 20) ∧ (0 ≤ c.1 6 ∧ c.1 6 ≤ c.1 13) ∧ c.1 13 ≤ 1000 := by unfold gV at gv; omega
  have n2 := num_r (i := 2) hb (by omega)
  have n4 := num_r (i := 4) hb (by omega)
  have h16 : zR h 384 15 = 16 := hc.r384_15
  have hb48 : 48 ≤ zR h 192 q := hlt.2.2.2.2.2.1.1
  refine c_take_s (tk := c.1 6) hc.k14 (R.v 6 (by decide) (Or.inl (by decide))) hL hb (by omega) (fun z => absurd hw z) (fun _ z => q4 z) (fun _ hk => ?_)
  have q5' := q5 hk
  unfold farD at q5'
  dsimp only at q5'
  have hnum : ∀ i : Nat, (i : Int) < c.1 12 → (c.2.2.1 1 i).2.1 = c.1 7 + i := fun i hi => (hG.2.2.1.1 i hi).2.1
  obtain ⟨kn, hkn⟩ : ∃ n : Nat, num xs 2 = n := ⟨(num xs 2).toNat, by omega⟩
  obtain ⟨ty, hty⟩ : ∃ n : Nat, num xs 4 = n := ⟨(num xs 4).toNat, by omega⟩
  obtain ⟨tk, htk⟩ : ∃ n : Nat, c.1 6 = n := ⟨(c.1 6).toNat, by omega⟩
  by_cases z1 : num xs 4 < c.1 6
  · rw [if_pos z1] at q5' ⊢
    rw [wX1_take_56 hc, if_pos (by omega)]
    have eK : fKeys c xs = (c.2.1, c.1 4) := by
      unfold fKeys
      rw [show (num xs 4 - c.1 6).toNat = 0 by omega]
      rfl
    rw [eK] at q5'
    have eC : xS (vS c 4 (c.1 4)) c.2.1 = c := by
      refine Prod.ext (funext fun k => ?_) rfl
      by_cases k4 : k = 4
      · subst k4; rfl
      · simp only [xS, vS, fup, if_neg k4]
    dsimp only at q5'
    rw [eC] at q5'
    exact x_takeF_t R hnum hL hb (by omega) q5'
  · rw [if_neg z1] at q5' ⊢
    have R1 := R.sI (k := 11) (v := bt xs 1) (by decide) (Or.inl (by decide)) (by decide) (by decide) (by decide) (by decide)
    have R1' : RepC h0 N M (zsI h 9 14 (bt xs 1)) w (vS c 11 (bt xs 1)) l := R1
    have hL1 : isL (zsI h 9 14 (bt xs 1)) q m xs := isL_sI hL (by decide)
    have hb1 : zR (zsI h 9 14 (bt xs 1)) 192 q ≠ 16 := by show zR h 192 q ≠ 16; omega
    have hlt1 : zR (zsI h 9 14 (bt xs 1)) 384 15 = 16 := h16
    generalize zsI h 9 14 (bt xs 1) = h1 at R1' hL1 hb1 hlt1 ⊢
    obtain ⟨x, ex, eh⟩ := R1'.far
    have v4 : zI h1 3 14 = c.1 4 := R1'.v 4 (by decide) (Or.inl (by decide))
    have e4 : zsI h1 3 14 (c.1 4) = h1 := zsI_id v4
    have hin : s_in x := in_of ex hG.2.1.1
    have key := c_keys (h := h1) (a := 14) (s := 15) (pen := c.1 5) (prog := c.1 3) (l := q) (m := m) (xs := xs) (kn := kn) (ty := ty) (Q := Q) R1'.1.k14 R1'.1.r0_14 R1'.s15 (R1'.v 5 (by decide) (Or.inl (by decide))) (by omega) (R1'.v 3 (by decide) (Or.inl (by decide))) hL1 (by rw [hlt1]; exact hb1) (by omega) (ty - tk) tk (x, c.1 4) (by omega) (by omega) hin hV.2.1 ?_
    · dsimp only at key
      rw [e4, eh] at key
      rw [hkn, hty, htk]
      exact key
    · have ek := eqv_keys (prog := c.1 3) (pen := c.1 5) (ks := fun j => bt xs (8 + j - kn)) (ty - tk) tk (x, c.1 4) (c.2.1, c.1 4) ex rfl
      have eK : fKeys c xs = s_keys (c.1 3) (c.1 5) (fun j => bt xs (8 + j - kn)) (ty - tk) tk (c.2.1, c.1 4) := by
        unfold fKeys
        rw [show (num xs 4 - c.1 6).toNat = ty - tk by omega, show (c.1 6).toNat = tk by omega, show (num xs 2).toNat = kn by omega]
      rw [← eK] at ek
      rw [ek.2]
      generalize s_keys (c.1 3) (c.1 5) (fun j => bt xs (8 + j - kn)) (ty - tk) tk (x, c.1 4) = K at ek
      have R2 := (R1'.sI (k := 4) (v := (fKeys c xs).2) (by decide) (Or.inl (by decide)) (by decide) (by decide) (by decide) (by decide)).xOf ek.1
      have R2' : RepC h0 N M (zScr (zsI h1 3 14 (fKeys c xs).2) 15 K.1.1 K.1.2.1 K.1.2.2) w (xS (vS (vS c 11 (bt xs 1)) 4 (fKeys c xs).2) (fKeys c xs).1) l := R2
      have hL2 : isL (zScr (zsI h1 3 14 (fKeys c xs).2) 15 K.1.1 K.1.2.1 K.1.2.2) q m xs := isL_Scr (isL_sI hL1 (by decide)) (by show zR h1 192 q ≠ zR h1 384 15; rw [hlt1]; exact hb1)
      generalize zScr (zsI h1 3 14 (fKeys c xs).2) 15 K.1.1 K.1.2.1 K.1.2.2 = h2 at R2' hL2 ⊢
      rw [← hkn, ← hty]
      exact x_takeF_t R2' hnum hL2 hb (by omega) q5'
theorem x_takeF_b (R : RepC h0 N M h w c l) (hL : isL h q m xs) (hb : byteL xs) (h10 : 10 ≤ xs.length) (hw : ¬ wholeL 75 xs) (q3 : Q (some (.inl 3)) h) {l2 l3 l4 : Option zV} : zE 6 0 [some (.inr 14), some (.inr q), l2, l3, l4] [] h Q := 
  c_take_s (tk := c.1 6) R.1.k14 (R.v 6 (by decide) (Or.inl (by decide))) hL hb h10 (fun _ => q3) (fun z => absurd z hw) (fun z => absurd z hw)
end cFar
