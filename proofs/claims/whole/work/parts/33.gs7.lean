/-! THE CLASS'S GUESSES: settle as a whole, reset -/
section zSettle3
variable {h : zH} {n : Nat} {g : Nat → Nat → Int} {Q : Option zV → zH → Prop}
theorem rG_zero {h' : zH} {g' : Nat → Nat → Int} (hg : gRows h') (hs : zI h' 129 10 = 0) : rG h' 0 g' := ⟨hg, hs, by omega, fun i hi => absurd hi (by omega)⟩
theorem c_Gsettle {t : Nat} {x : sC} {R0 tk C0 a b e : Int} (hG : rG h n g) (hk : (zK h t).1 = 17) (hs : sOK h (zR h 448 t)) (hx : scIs h (zR h 448 t) x) (htk : zI h 450 t = tk) (hq : ∀ i, i < n → g i 3 ≠ -1 → 0 ≤ g i 2 ∧ g i 2 < 192) (hc : ∀ k, k < 192 → 0 ≤ x.1 k ∧ x.1 k < 100000)
    (hR : zI h 132 10 = R0) (hC : zI h 131 10 = C0) (ha : zI h 133 10 = a) (hb : zI h 134 10 = b) (he : zI h 130 10 = e) (rR : 0 ≤ R0 ∧ R0 < 1000000) (ra : 0 ≤ a ∧ a < 1000000) (rb : 0 ≤ b ∧ b < 1000000) (re : 0 ≤ e ∧ e < 1000000)
    (hO : (stl g tk x n 0 C0).2.2 = false → ∀ h', frG h h' → rG h' (n - (stl g tk x n 0 C0).1) (fun i => g (i + (stl g tk x n 0 C0).1)) → zI h' 132 10 = R0 + (stl g tk x n 0 C0).1 → zI h' 131 10 = (stl g tk x n 0 C0).2.1 → zI h' 133 10 = a → zI h' 134 10 = b → zI h' 130 10 = e → Q none h')
    (hF : (stl g tk x n 0 C0).2.2 = true → ∀ h', frG h h' → rG h' 0 g → zI h' 132 10 = R0 + (stl g tk x n 0 C0).1 → zI h' 131 10 = (stl g tk x n 0 C0).2.1 → zI h' 133 10 = a + 1 → zI h' 134 10 = b + (n - (stl g tk x n 0 C0).1) → zI h' 130 10 = e + 1 → Q none h') :
    zE 21 0 [some (.inr 10), some (.inr t), none, none, none] [] h Q := by
  obtain ⟨⟨r1, r2, r3, r4, r5, r6⟩, s1, s2, s3⟩ := id hG
  rw [xX3_settle_0]
  have hle := stl_le g tk x n 0 C0
  have hw := c_Gset_w (Q := Q) (t := t) (x := x) (R0 := R0) (tk := tk) (C0 := C0) hG hk hs hx htk hq hc rR ?_ n 0 C0 none (by omega) rfl
  · have e0 : zRC h (R0 + ((0 : Nat) : Int)) C0 = h := by
      rw [show R0 + ((0 : Nat) : Int) = R0 by omega, ← hR, ← hC]
      exact zRC_id
    rw [e0] at hw
    exact hw
  · intro l4 b3 hb3
    generalize hst : stl g tk x n 0 C0 = S at *
    obtain ⟨gone, cf, bad⟩ := S
    dsimp only at hO hF hle hb3 ⊢
    rw [xX3_settle_96]
    cases bad with
    | false =>
      have hb3' : b3 = 0 := hb3
      subst hb3'
      rw [if_pos rfl, xX3_settle_108]
      refine ⟨r1, c_GDrop (rG_RC hG) (by omega) (fun R hR1 hR2 => ?_)⟩
      simp only [Option.toList_none, List.nil_append]
      rw [xX3_settle_113]
      have hsz : zI (zsI (zBs (zRC h (R0 + gone) cf) 11 R) 129 10 (n - gone : Nat)) 129 10 = (n - gone : Nat) := zI_sI_s
      have o1 : ∀ f, f ≠ 129 → zI (zsI (zBs (zRC h (R0 + gone) cf) 11 R) 129 10 (n - gone : Nat)) f 10 = zI (zRC h (R0 + gone) cf) f 10 := fun f hf => zI_ne hf
      refine hO rfl _ ((frG_Bs frG_RC).of_sI (Or.inr ⟨by decide, by decide, rfl⟩)) ⟨gRows_eq hR2 rfl rfl rfl, hsz, by omega, fun i hi => ?_⟩ ((o1 _ (by decide)).trans zI_RC_r) ((o1 _ (by decide)).trans zI_RC_c) ((o1 _ (by decide)).trans ((zI_RC_o (by decide) (by decide)).trans ha)) ((o1 _ (by decide)).trans ((zI_RC_o (by decide) (by decide)).trans hb)) ((o1 _ (by decide)).trans ((zI_RC_o (by decide) (by decide)).trans he))
      have eB : zB (zsI (zBs (zRC h (R0 + gone) cf) 11 R) 129 10 (n - gone : Nat)) 11 i = zB h 11 (i + gone) := by
        rw [zB_sI, zB_Bs_s]
        exact hR1 i hi
      rw [eB]
      refine gIs_eq (s3 (i + gone) (by omega)) rfl (fun f q1 q2 => ?_)
      rw [zI_ne (fun e => absurd q2 (by rw [e]; decide))]
      exact zI_RC_o (fun e => absurd q2 (by rw [e]; decide)) (fun e => absurd q2 (by rw [e]; decide))
    | true =>
      have hb3' : b3 = 1 := hb3
      subst hb3'
      rw [if_neg (by decide), xX3_settle_100]
      refine ⟨r1, c_GTake (a := a) (b := b) (d := n) (e := e) r1 ((zI_RC_o (by decide) (by decide)).trans ha) ((zI_RC_o (by decide) (by decide)).trans hb) ((zI_RC_o (by decide) (by decide)).trans s1) ((zI_RC_o (by decide) (by decide)).trans he) ra rb (by omega) re (by omega) ?_⟩
      simp only [Option.toList_none, List.nil_append]
      rw [xX3_settle_105, xX3_settle_113]
      refine hF rfl _ ((((frG_RC.of_sI (Or.inr ⟨by decide, by decide, rfl⟩)).of_sI (Or.inr ⟨by decide, by decide, rfl⟩)).of_sI (Or.inr ⟨by decide, by decide, rfl⟩)).of_sI (Or.inr ⟨by decide, by decide, rfl⟩)) (rG_zero (gRows_eq hG.1 rfl rfl rfl) ?_) ?_ ?_ ?_ ?_ ?_
      · exact (zI_ne (by decide)).trans zI_sI_s
      · exact (zI_ne (by decide)).trans ((zI_ne (by decide)).trans ((zI_ne (by decide)).trans ((zI_ne (by decide)).trans zI_RC_r)))
      · exact (zI_ne (by decide)).trans ((zI_ne (by decide)).trans ((zI_ne (by decide)).trans ((zI_ne (by decide)).trans zI_RC_c)))
      · exact (zI_ne (by decide)).trans ((zI_ne (by decide)).trans ((zI_ne (by decide)).trans zI_sI_s))
      · exact (zI_ne (by decide)).trans ((zI_ne (by decide)).trans zI_sI_s)
      · exact zI_sI_s
theorem c_Greset (hg : gRows h) (hQ : ∀ h', frG h h' → rG h' 0 g → zI h' 130 10 = 1 → (∀ f, 131 ≤ f → f ≤ 134 → zI h' f 10 = 0) → Q none h') : zE 17 0 [some (.inr 10)] [] h Q := by
  obtain ⟨r1, r2, r3, r4, r5, r6⟩ := id hg
  rw [xX3_reset_0, xX3_reset_5, xX3_reset_10, xX3_reset_15, xX3_reset_20, xX3_reset_25, xX3_reset_30]
  refine ⟨r1, r1, r1, r1, r1, r1, hQ _ ((((((frG.rf.of_sI (Or.inr ⟨by decide, by decide, rfl⟩)).of_sI (Or.inr ⟨by decide, by decide, rfl⟩)).of_sI (Or.inr ⟨by decide, by decide, rfl⟩)).of_sI (Or.inr ⟨by decide, by decide, rfl⟩)).of_sI (Or.inr ⟨by decide, by decide, rfl⟩)).of_sI (Or.inr ⟨by decide, by decide, rfl⟩)) (rG_zero (gRows_eq hg rfl rfl rfl) ?_) ?_ ?_⟩
  · exact (zI_ne (by decide)).trans ((zI_ne (by decide)).trans ((zI_ne (by decide)).trans ((zI_ne (by decide)).trans ((zI_ne (by decide)).trans zI_sI_s))))
  · exact (zI_ne (by decide)).trans ((zI_ne (by decide)).trans ((zI_ne (by decide)).trans ((zI_ne (by decide)).trans zI_sI_s)))
  · intro f h1 h2
    have : f = 131 ∨ f = 132 ∨ f = 133 ∨ f = 134 := by omega
    rcases this with rfl | rfl | rfl | rfl
    · exact (zI_ne (by decide)).trans ((zI_ne (by decide)).trans ((zI_ne (by decide)).trans zI_sI_s))
    · exact (zI_ne (by decide)).trans ((zI_ne (by decide)).trans zI_sI_s)
    · exact (zI_ne (by decide)).trans zI_sI_s
    · exact zI_sI_s
end zSettle3
