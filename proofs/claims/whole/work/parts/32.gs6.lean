/-! THE CLASS'S GUESSES: settle, reset -/
section zSettle2
variable {h : zH} {n : Nat} {g : Nat → Nat → Int} {Q : Option zV → zH → Prop}
theorem frG_Bs {h' : zH} {R : Nat → Nat} (hf : frG h h') : frG h (zBs h' 11 R) := by
  obtain ⟨f1, f2, f3, f4, f5, f6, f7⟩ := hf
  refine ⟨f1, f2, f3, f4, f5, fun a ha => ?_, f7⟩
  funext i
  rw [zB_Bs, if_neg ha, f6 a ha]
theorem frG_RC {r c : Int} : frG h (zRC h r c) := by
  refine ⟨⟨Nat.le_refl _, Nat.le_succ _, Nat.le_refl _, Nat.le_add_right _ _⟩, fun _ _ => rfl, fun x hx => Or.inr ⟨rfl, hx⟩, fun _ _ _ => rfl, rfl, fun _ _ => rfl, fun f x _ _ h2 => ?_⟩
  rw [zI_RC, if_neg (fun q => h2 ⟨by rw [q.1]; decide, by rw [q.1]; decide, q.2⟩), if_neg (fun q => h2 ⟨by rw [q.1]; decide, by rw [q.1]; decide, q.2⟩)]
/-- Guesses.takeBackFrom -/
theorem c_GTake {gone : Int} (hk : (zK h 10).1 = 12) {a b d e : Int} (ha : zI h 133 10 = a) (hb : zI h 134 10 = b) (hd : zI h 129 10 = d) (he : zI h 130 10 = e) (ra : 0 ≤ a ∧ a < 1000000) (rb : 0 ≤ b ∧ b < 1000000) (rd : 0 ≤ d ∧ d ≤ 60) (re : 0 ≤ e ∧ e < 1000000) (rg : 0 ≤ gone ∧ gone ≤ 60)
    (hQ : Q none (zsI (zsI (zsI (zsI h 133 10 (a + 1)) 134 10 (b + (d - gone))) 129 10 0) 130 10 (e + 1))) : zE 22 0 [some (.inr 10), some (.inl gone)] [] h Q := by
  have w1 : zw (a + 1) = a + 1 := zw_eq (by omega) (by omega)
  have w2 : zw (d - gone) = d - gone := zw_eq (by omega) (by omega)
  have w3 : zw (b + (d - gone)) = b + (d - gone) := zw_eq (by omega) (by omega)
  have w4 : zw (e + 1) = e + 1 := zw_eq (by omega) (by omega)
  have i1 : zI (zsI h 133 10 (a + 1)) 134 10 = b := (zI_ne (by decide)).trans hb
  have i2 : zI (zsI h 133 10 (a + 1)) 129 10 = d := (zI_ne (by decide)).trans hd
  have i3 : zI (zsI (zsI (zsI h 133 10 (a + 1)) 134 10 (b + (d - gone))) 129 10 0) 130 10 = e := (zI_ne (by decide)).trans ((zI_ne (by decide)).trans ((zI_ne (by decide)).trans he))
  rw [xX3_takeBackFrom_0, ha, w1, xX3_takeBackFrom_10, i1, i2, w2, w3, xX3_takeBackFrom_25, xX3_takeBackFrom_30, i3, w4, xX3_takeBackFrom_40]
  exact ⟨hk, hk, hk, hk, hk, hk, hk, hk, hQ⟩
theorem c_Gset_w {t : Nat} {x : sC} {R0 tk C0 : Int} (hG : rG h n g) (hk : (zK h t).1 = 17) (hs : sOK h (zR h 448 t)) (hx : scIs h (zR h 448 t) x) (htk : zI h 450 t = tk) (hq : ∀ i, i < n → g i 3 ≠ -1 → 0 ≤ g i 2 ∧ g i 2 < 192) (hc : ∀ k, k < 192 → 0 ≤ x.1 k ∧ x.1 k < 100000) (hR0 : 0 ≤ R0 ∧ R0 < 1000000)
    (hE : ∀ (l4 : Option zV) (b3 : Int), b3 = (if (stl g tk x n 0 C0).2.2 = true then 1 else 0) → zE 21 96 [some (.inr 10), some (.inr t), some (.inl ((stl g tk x n 0 C0).1 : Int)), some (.inl b3), l4] [] (zRC h (R0 + (stl g tk x n 0 C0).1) (stl g tk x n 0 C0).2.1) Q) :
    ∀ (d i : Nat) (cf : Int) (l4 : Option zV), i + d = n → stl g tk x n 0 C0 = stl g tk x d i cf → zE 21 4 [some (.inr 10), some (.inr t), some (.inl (i : Int)), some (.inl 0), l4] [] (zRC h (R0 + i) cf) Q := by
  obtain ⟨⟨r1, r2, r3, r4, r5, r6⟩, s1, s2, s3⟩ := id hG
  intro d
  induction d with
  | zero =>
    intro i cf l4 hi he
    have e1 : stl g tk x 0 i cf = (i, cf, false) := rfl
    rw [he, e1] at hE
    have t1 : zI (zRC h (R0 + i) cf) 129 10 = n := (zI_RC_o (by decide) (by decide)).trans s1
    rw [xX3_settle_4, t1, if_pos (by omega)]
    exact ⟨r1, hE l4 0 rfl⟩
  | succ d ih =>
    intro i cf l4 hi he
    have hnz := hG.nz (i := i) (by omega)
    have hgi := s3 i (by omega)
    have hgi2 : gIs (zRC h (R0 + i) cf) (zB h 11 i) (g i) := (rG_RC (r := R0 + i) (c := cf) hG).2.2.2 i (by omega)
    have t1 : zI (zRC h (R0 + i) cf) 129 10 = n := (zI_RC_o (by decide) (by decide)).trans s1
    have t2 : zI (zRC h (R0 + i) cf) 450 t = tk := (zI_RC_o (by decide) (by decide)).trans htk
    have t3 : zI (zRC h (R0 + i) cf) 64 (zB h 11 i) = g i 0 := hgi2.2.1
    have t4 : zI (zRC h (R0 + i) cf) 65 (zB h 11 i) = g i 1 := hgi2.2.2.1
    have hx2 : scIs (zRC h (R0 + i) cf) (zR h 448 t) x := ⟨hx.1, (zI_RC_o (by decide) (by decide)).trans hx.2.1, (zI_RC_o (by decide) (by decide)).trans hx.2.2⟩
    have hRw : zw (R0 + (i : Int) + 1) = R0 + ((i + 1 : Nat) : Int) := by rw [zw_eq (by omega) (by omega)]; omega
    rw [stl_s] at he
    rw [xX3_settle_4, t1, if_neg (by omega), xX3_settle_12, if_neg (by omega), xX3_settle_18, if_neg (by decide), xX3_settle_22]
    have b1 : zR (zRC h (R0 + i) cf) 128 10 = 11 := r2
    have b2 : zK (zRC h (R0 + i) cf) 11 = (4, 60) := r3
    have b3 : zB (zRC h (R0 + i) cf) 11 (i : Int).toNat = zB h 11 i := by rw [Int.toNat_natCast]; rfl
    rw [b1, b2, b3, if_neg hnz, xX3_settle_35, t2, t3]
    refine ⟨r1, r1, ⟨by decide, by decide⟩, ⟨by omega, by show (i : Int) < (60 : Nat); omega⟩, hgi.1, hk, ?_⟩
    by_cases h1 : g i 0 ≤ tk
    · rw [if_pos h1] at he
      rw [if_pos h1, xX3_settle_50]
      refine ⟨hgi.1, c_isRight hgi2 hk hs hx2 (hq i (by omega)) hc ?_⟩
      rw [t2]
      simp only [Option.toList_some, List.cons_append, List.nil_append]
      rw [xX3_settle_56]
      by_cases h2 : grt tk x (g i) = true
      · rw [if_pos h2] at he
        rw [if_pos h2, if_neg (by decide), xX3_settle_59, zI_RC_r, hRw, zRC_r, xX3_settle_69, zI_RC_c]
        have t5 : zI (zRC h (R0 + ((i + 1 : Nat) : Int)) cf) 65 (zB h 11 i) = g i 1 := (zI_RC_o (by decide) (by decide)).trans hgi.2.2.1
        rw [t5, xX3_settle_82, zRC_c, xX3_settle_85, zw_eq (by omega) (by omega), xX3_settle_93, show (i : Int) + 1 = ((i + 1 : Nat) : Int) by omega]
        exact ⟨r1, r1, r1, hgi.1, r1, ih (i + 1) (max cf (g i 1)) _ (by omega) he⟩
      · rw [if_neg h2] at he
        rw [he] at hE
        rw [if_neg h2, if_pos rfl, xX3_settle_91, xX3_settle_93, xX3_settle_4, t1, if_neg (by omega), xX3_settle_12, if_neg (by omega), xX3_settle_18, if_pos (by decide)]
        exact ⟨r1, hE _ 1 rfl⟩
    · rw [if_neg h1] at he
      rw [he] at hE
      rw [if_neg h1, xX3_settle_47]
      exact hE _ 0 rfl
end zSettle2
