/-! THE LAW'S INVARIANT -/
section lInv
variable {h0 h h' : zH} {N M N' M' : Nat} {w w' : Nat → Nat} {c : cg} {l : lg} {I I' : Nat → Int} {A A' : Nat → Nat → Int} {B : Int}
theorem RepR.eq (hR : RepR I A c l) (hG : Good B c l) (hI : ∀ f, 640 ≤ f → I' f = I f) (hA : ∀ a, 29 < a → a < 48 → A' a = A a) : RepR I' A' c l := by
  have gv := hG.1
  have hV : c.1 12 ≤ 33 ∧ c.1 20 ≤ 33 := by unfold gV at gv; omega
  have R1 : RepR I A' c l := hR.fr hV.1 hV.2 (fun _ _ => rfl) (fun a i hl => by rw [hA a (by unfold live at hl; omega) (by unfold live at hl; omega)])
  obtain ⟨⟨a1, a2, a3⟩, rest⟩ := R1
  exact ⟨⟨fun k hk => (hI _ (by have := fM_r k hk; omega)).trans (a1 k hk), (hI _ (by decide)).trans a2, a3⟩, rest⟩
theorem zI_Mp {f x : Nat} (hx : x ≠ 29) : zI (zM h I A) f x = zI h f x := if_neg hx
theorem zI_Mq {f : Nat} : zI (zM h I A) f 29 = I f := zI_M
theorem zA_Mp {x : Nat} (hx : ¬ (29 < x ∧ x < 48)) : zA (zM h I A) x = zA h x := funext fun i => if_neg hx
theorem zA_Mq {x : Nat} (h1 : 29 < x) (h2 : x < 48) : zA (zM h I A) x = A x := funext fun i => if_pos ⟨h1, h2⟩
/-- the model's writes leave the class as it is -/
theorem RepC.mod (R : RepC h0 N M h w c l) (hm : mOK h) : RepC (zM h I A) N M (zM h I A) w c l := by
  obtain ⟨hc, ⟨v1, v2⟩, x1, s0, s1, k1, g1, l0, l1, z1, m1⟩ := R
  have h16 : zR h 384 15 = 16 := hc.r384_15
  have hT : ∀ {ra t : Nat}, tOK h w ra t → ra = 6 ∨ ra = 18 → zI (zM h I A) 449 t = zI h 449 t ∧ zI (zM h I A) 450 t = zI h 450 t ∧ zI (zM h I A) 385 (t + 1) = zI h 385 (t + 1) ∧ zI (zM h I A) 386 (t + 1) = zI h 386 (t + 1) ∧ ∀ k, k < 192 → zA (zM h I A) (t + 2) k = zA h (t + 2) k := by
    intro ra t ht hra
    have h9 := ht.2.2.2.2.2.2.2.2
    exact ⟨zI_Mp (by omega), zI_Mp (by omega), zI_Mp (by omega), zI_Mp (by omega), fun k _ => by rw [zA_Mp (by omega)]⟩
  have hL : ∀ {la q : Nat}, ltOK h w la q → zI (zM h I A) 193 q = zI h 193 q ∧ zR (zM h I A) 192 q = zR h 192 q ∧ ∀ i, zA (zM h I A) (zR h 192 q) i = zA h (zR h 192 q) i := by
    intro la q hq
    have q1 := hq.2.1.1
    have q2 := hq.2.2.2.2.2.1.1
    exact ⟨zI_Mp (by omega), rfl, fun i => by rw [zA_Mp (by omega)]⟩
  refine ⟨hc, ⟨fun k hk hv => ?_, fun i hi => by rw [zA_Mp (by omega)]; exact v2 i hi⟩, ?_, ?_, ?_, fun i hi => by rw [zA_Mp (by omega)]; exact k1 i hi, ?_, ?_, ?_, z1, ⟨fun _ _ => rfl, fun _ _ _ => rfl, fun _ _ _ => rfl, fun _ => rfl, rfl, rfl⟩⟩
  · have := (fC_r k hk hv).2
    rw [zI_Mp (by omega)]
    exact v1 k hk hv
  · exact scIs_fr x1 rfl (fun k _ => by rw [h16, zA_Mp (by omega)]) (zI_Mp (by decide)) (zI_Mp (by decide))
  · exact cS_fr s0 (fun _ _ => rfl) (Nat.le_refl _) (fun _ => rfl) rfl (fun _ _ => ⟨rfl, rfl⟩) (fun _ _ => rfl) (fun t ht => hT ht (Or.inl rfl))
  · exact cS_fr s1 (fun _ _ => rfl) (Nat.le_refl _) (fun _ => rfl) rfl (fun _ _ => ⟨rfl, rfl⟩) (fun _ _ => rfl) (fun t ht => hT ht (Or.inr rfl))
  · exact rG_fr g1 (fun _ _ => rfl) hc.k0 rfl (fun _ => rfl) (zI_Mp (by decide)) (fun f x _ _ hx => zI_Mp (fun e => by rw [e, hm.1] at hx; cases hx))
  · exact cL_fr l0 (fun _ _ => rfl) (Nat.le_refl _) (fun _ => rfl) (fun _ _ => rfl) (zI_Mp (by decide)) (fun q hq => hL hq)
  · exact cL_fr l1 (fun _ _ => rfl) (Nat.le_refl _) (fun _ => rfl) (fun _ _ => rfl) (zI_Mp (by decide)) (fun q hq => hL hq)
def Inv (L : Nat) (g : Nat → Int) (B : Int) (N M : Nat) (h : zH) : Prop := ∃ w c l, RepC h N M h w c l ∧ mOK h ∧ RepR (fun f => zI h f 29) (zA h) c l ∧ Good B c l ∧ zK h 1 = (5, L) ∧ zA h 1 = g
/-- after a call of the class: the model as it was -/
theorem mEq_ok (m : mEq h h') (hm : mOK h) : mOK h' := by
  obtain ⟨m1, m2, m3, m4, m5, m6⟩ := m
  unfold mOK at hm ⊢
  rw [m3 29 (by decide) (by decide), m3 30 (by decide) (by decide), m3 31 (by decide) (by decide), m3 32 (by decide) (by decide), m3 33 (by decide) (by decide), m3 34 (by decide) (by decide), m3 35 (by decide) (by decide), m3 36 (by decide) (by decide), m3 37 (by decide) (by decide), m3 38 (by decide) (by decide), m3 39 (by decide) (by decide), m3 40 (by decide) (by decide), m3 41 (by decide) (by decide), m3 42 (by decide) (by decide), m3 43 (by decide) (by decide), m3 44 (by decide) (by decide), m3 45 (by decide) (by decide), m3 46 (by decide) (by decide), m3 47 (by decide) (by decide)]
  simp only [m4]
  exact hm
/-- between the two calls -/
def Mid (L : Nat) (g : Nat → Int) (N M : Nat) (w : Nat → Nat) (c c' : cg) (l l' : lg) (h : zH) : Prop := RepC h N M h w c' l' ∧ mOK h ∧ RepR (fun f => zI h f 29) (zA h) c l ∧ zK h 1 = (5, L) ∧ zA h 1 = g
theorem RepC.self (R : RepC h0 N M h w c l) : RepC h N M h w c l := by
  obtain ⟨hc, v, x1, s0, s1, k1, g1, l0, l1, z1, m1⟩ := R
  exact ⟨hc, v, x1, s0, s1, k1, g1, l0, l1, z1, ⟨fun _ _ => rfl, fun _ _ _ => rfl, fun _ _ _ => rfl, fun _ => rfl, rfl, rfl⟩⟩
theorem mid_of {L : Nat} {g : Nat → Int} {c' : cg} {l' : lg} (hm : mOK h) (hR : RepR (fun f => zI h f 29) (zA h) c l) (hG : Good B c l) (hK : zK h 1 = (5, L)) (hA : zA h 1 = g) (R' : RepC h N M h' w' c' l') : Mid L g N M w' c c' l l' h' := by
  have m := R'.2.2.2.2.2.2.2.2.2.2
  exact ⟨R'.self, mEq_ok m hm, hR.eq hG (fun f hf => m.1 f hf) (fun a p1 p2 => m.2.1 a p1 p2), m.2.2.2.2.1.trans hK, m.2.2.2.2.2.trans hA⟩
theorem inv_of {L : Nat} {g : Nat → Int} {c' : cg} {l' : lg} (D : Mid L g N M w c c' l l' h) (hR : RepR I A c' l') (hG : Good B c' l') : Inv L g B N M (zM h I A) := by
  obtain ⟨R, hm, -, hK, hA⟩ := D
  refine ⟨w, c', l', R.mod hm, hm, hR.eq hG (fun f _ => zI_Mq) (fun a p1 p2 => zA_Mq p1 p2), hG, hK, ?_⟩
  rw [zA_Mp (by omega)]
  exact hA
theorem inv_id {L : Nat} {g : Nat → Int} {c' : cg} {l' : lg} (D : Mid L g N M w c c' l l' h) : zM h (fun f => zI h f 29) (zA h) = h := zM_id (fun _ => rfl) (fun _ _ _ => rfl)
end lInv
