/-! THE CLASS IS MADE -/
def k0 (L : Nat) (f : Nat → Int) : zH := znO (znO (zh0 L f) 9 9) 5 11
def k1 (L : Nat) (f : Nat → Int) : zH := zsR (znA (k0 L f) 1 1000) 320 3 4
def k2 (L : Nat) (f : Nat → Int) : zH := znO (k1 L f) 8 3
def k3 (L : Nat) (f : Nat → Int) : zH := zsR (znA (k2 L f) 2 32) 512 5 6
def k4 (L : Nat) (f : Nat → Int) : zH := zNT (znO (k3 L f) 7 3) 7
def k5 (L : Nat) (f : Nat → Int) : zH := zsB (zsI (zsR (k4 L f) 513 5 7) 514 5 1) 6 0 7
def k6 (L : Nat) (f : Nat → Int) : zH := znO (zsR (k5 L f) 321 3 5) 2 7
def k7 (L : Nat) (f : Nat → Int) : zH := zsI (zsR (znA (k6 L f) 4 60) 128 10 11) 130 10 1
def k8 (L : Nat) (f : Nat → Int) : zH := zNS (zsR (k7 L f) 322 3 10)
def k9 (L : Nat) (f : Nat → Int) : zH := zsI (zsR (k8 L f) 323 3 12) 330 3 1
def k10 (L : Nat) (f : Nat → Int) : zH := znO (zsR (k9 L f) 576 2 3) 0 11
def k11 (L : Nat) (f : Nat → Int) : zH := zNS (k10 L f)
def k12 (L : Nat) (f : Nat → Int) : zH := znO (zsR (k11 L f) 0 14 15) 8 3
def k13 (L : Nat) (f : Nat → Int) : zH := zsR (znA (k12 L f) 2 32) 512 17 18
def k14 (L : Nat) (f : Nat → Int) : zH := zNT (znO (k13 L f) 7 3) 19
def k15 (L : Nat) (f : Nat → Int) : zH := zsB (zsI (zsR (k14 L f) 513 17 19) 514 17 1) 18 0 19
def k16 (L : Nat) (f : Nat → Int) : zH := zsI (zsR (k15 L f) 1 14 17) 9 14 1
def k17 (L : Nat) (f : Nat → Int) : zH := znO (zsR (k16 L f) 577 2 14) 4 2
def k18 (L : Nat) (f : Nat → Int) : zH := zsR (znA (k17 L f) 3 40) 256 22 23
def k19 (L : Nat) (f : Nat → Int) : zH := znO (zsR (k18 L f) 578 2 22) 4 2
def k20 (L : Nat) (f : Nat → Int) : zH := zsR (znA (k19 L f) 3 40) 256 24 25
def k21 (L : Nat) (f : Nat → Int) : zH := znO (zsR (k20 L f) 579 2 24) 3 2
def k22 (L : Nat) (f : Nat → Int) : zH := zsR (znA (k21 L f) 1 1010) 192 26 27
def k23 (L : Nat) (f : Nat → Int) : zH := zsR (znA (zsR (k22 L f) 580 2 26) 1 7) 581 2 28
def w0 (x : Nat) : Nat := if x = 7 then 6 else if x = 9 then 8 else if x = 19 then 18 else if x = 21 then 20 else 0
section cMake
variable {L : Nat} {f : Nat → Int} {h : zH} {Q : Option zV → zH → Prop}
def zZb (h : zH) : Prop := ∀ x, zn h ≤ x → (zK h x).1 = 0
theorem zZb_O {c k : Nat} (hz : zZb h) : zZb (znO h c k) := fun x hx => by
  have hx' : zn h + 1 ≤ x := hx
  rw [zK_nO, if_neg (by omega)]
  exact hz x (by omega)
theorem zZb_A {c k : Nat} (hz : zZb h) : zZb (znA h c k) := fun x hx => by
  have hx' : zn h + 1 ≤ x := hx
  rw [zK_nA, if_neg (by omega)]
  exact hz x (by omega)
theorem zZb_N (hz : zZb h) : zZb (zNS h) := fun x hx => by
  have hx' : zn h + 2 ≤ x := hx
  rw [zK_NS, if_neg (by omega), if_neg (by omega)]
  exact hz x (by omega)
theorem zZb_R {g a u : Nat} (hz : zZb h) : zZb (zsR h g a u) := hz
theorem zZb_I {g a : Nat} {v : Int} (hz : zZb h) : zZb (zsI h g a v) := hz
theorem zZb_B {g a u : Nat} (hz : zZb h) : zZb (zsB h g a u) := hz
theorem zZb_T {t : Nat} (hz : zZb h) : zZb (zNT h t) := zZb_N hz
theorem zZb_0 : zZb (zh0 L f) := fun x hx => by
  have hx' : 2 ≤ x := hx
  show (if x = 1 then (5, L) else (0, 0)).1 = 0
  rw [if_neg (by omega)]
theorem zZb_k : zZb (k23 L f) := by
  have a0 : zZb (k0 L f) := zZb_O (zZb_O zZb_0)
  have a2 : zZb (k2 L f) := zZb_O (zZb_R (zZb_A a0))
  have a5 : zZb (k5 L f) := zZb_B (zZb_I (zZb_R (zZb_T (zZb_O (zZb_R (zZb_A a2))))))
  have a7 : zZb (k7 L f) := zZb_I (zZb_R (zZb_A (zZb_O (zZb_R a5))))
  have a11 : zZb (k11 L f) := zZb_N (zZb_O (zZb_R (zZb_I (zZb_R (zZb_N (zZb_R a7))))))
  have a15 : zZb (k15 L f) := zZb_B (zZb_I (zZb_R (zZb_T (zZb_O (zZb_R (zZb_A (zZb_O (zZb_R a11))))))))
  have a19 : zZb (k19 L f) := zZb_O (zZb_R (zZb_R (zZb_A (zZb_O (zZb_R (zZb_I (zZb_R a15)))))))
  exact zZb_R (zZb_A (zZb_R (zZb_R (zZb_A (zZb_O (zZb_R (zZb_R (zZb_A a19))))))))
theorem cOK_k : cOK (k23 L f) := by
  unfold cOK
  repeat' apply And.intro
  all_goals rfl
theorem kB6 (i : Nat) : zB (k23 L f) 6 i = if i = 0 then 7 else 0 := by
  by_cases z : i = 0
  · subst z; rfl
  · rw [if_neg z]
    have e : zB (k23 L f) 6 i = if 6 = 6 ∧ i = 0 then 7 else 0 := rfl
    rw [e, if_neg (fun y => z y.2)]
theorem kB18 (i : Nat) : zB (k23 L f) 18 i = if i = 0 then 19 else 0 := by
  by_cases z : i = 0
  · subst z; rfl
  · rw [if_neg z]
    have e : zB (k23 L f) 18 i = if 18 = 18 ∧ i = 0 then 19 else 0 := rfl
    rw [e, if_neg (fun y => z y.2)]
theorem repS_k : RepS 29 (k23 L f) 29 3057 (k23 L f) w0 := by
  refine ⟨cOK_k, ⟨fun i hi hz => ?_, fun i j hi hj hz e => ?_, ?_⟩, ⟨fun i hi hz => ?_, fun i j hi hj hz e => ?_, ?_⟩, ⟨rfl, rfl, rfl, rfl, fun i hi hz => absurd rfl hz, fun i j hi hj hz _ => absurd rfl hz⟩, ⟨fun i hi hz => absurd rfl hz, fun i j hi hj hz _ => absurd rfl hz⟩, ⟨fun i hi hz => absurd rfl hz, fun i j hi hj hz _ => absurd rfl hz⟩, ⟨Nat.le_refl _, zZb_k, Nat.le_refl _, Nat.le_refl _⟩, ⟨fun _ _ => rfl, fun _ _ _ => rfl, fun _ _ _ => rfl, fun _ => rfl, rfl, rfl⟩⟩
  · rw [kB6] at hz ⊢
    by_cases z : i = 0
    · rw [if_pos z]
      exact ⟨rfl, rfl, rfl, rfl, rfl, rfl, rfl, by show 9 < 29; decide, Or.inl rfl⟩
    · rw [if_neg z] at hz; exact absurd rfl hz
  · rw [kB6] at hz e
    rw [kB6] at e
    by_cases z : i = 0
    · by_cases y : j = 0
      · omega
      · rw [if_pos z, if_neg y] at e; cases e
    · rw [if_neg z] at hz; exact absurd rfl hz
  · rw [kB6]; decide
  · rw [kB18] at hz ⊢
    by_cases z : i = 0
    · rw [if_pos z]
      exact ⟨rfl, rfl, rfl, rfl, rfl, rfl, rfl, by show 21 < 29; decide, Or.inl rfl⟩
    · rw [if_neg z] at hz; exact absurd rfl hz
  · rw [kB18] at hz e
    rw [kB18] at e
    by_cases z : i = 0
    · by_cases y : j = 0
      · omega
      · rw [if_pos z, if_neg y] at e; cases e
    · rw [if_neg z] at hz; exact absurd rfl hz
  · rw [kB18]; decide
end cMake
