/-! THE CLASS'S FAR END: reset, its eight last writes -/
section zFreset
variable {h : zH} {a : Nat} {Q : Option zV → zH → Prop}
def zF8 (h : zH) (a : Nat) : zH := zsI (zsI (zsI (zsI (zsI (zsI (zsI (zsI h 3 a 0) 4 a 0) 5 a 0) 6 a 0) 7 a 0) 8 a 0) 9 a 1) 10 a 0
theorem c_Freset_w (ha : (zK h a).1 = 10) (hQ : Q none (zF8 h a)) {l1 : Option zV} : zE 2 19 [some (.inr a), l1] [] h Q := by
  rw [xX1_reset_19, xX1_reset_24, xX1_reset_29, xX1_reset_34, xX1_reset_39, xX1_reset_44, xX1_reset_49, xX1_reset_54, xX1_reset_59]
  exact ⟨ha, ha, ha, ha, ha, ha, ha, ha, Or.inl rfl, hQ⟩
end zFreset
