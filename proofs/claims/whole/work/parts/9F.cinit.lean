/-! THE CLASS IS MADE: its constructors -/
section cInit
variable {L : Nat} {f : Nat → Int} {h : zH} {Q : Option zV → zH → Prop}
theorem i_near (hQ : Q none (k9 L f)) : zE 44 0 [some (.inr 3)] [] (k0 L f) Q := by
  rw [xX6_init_0, xX6_init_4]
  refine ⟨by decide, by decide, ?_⟩
  rw [xX6_init_10]
  refine ⟨rfl, ?_⟩
  show zE 44 13 [some (.inr 3)] [] (k1 L f) _
  rw [xX6_init_13]
  show zE 44 17 [some (.inr 3)] [.inr 5, .inr 3] (k2 L f) _
  rw [xX6_init_17]
  refine ⟨by decide, ?_⟩
  rw [xX9_init_0, xX9_init_4]
  refine ⟨by decide, by decide, ?_⟩
  rw [xX9_init_10]
  refine ⟨rfl, ?_⟩
  show zE 66 13 [some (.inr 5)] [] (k3 L f) _
  rw [xX9_init_13]
  show zE 66 17 [some (.inr 5)] [.inr 7, .inr 5] (znO (k3 L f) 7 3) _
  rw [xX9_init_17]
  refine ⟨by decide, c_Tinit (by show 2 ≤ 8; decide) (by decide) (by show 7 < 8; decide) rfl ?_⟩
  simp only [Option.toList_none, List.nil_append]
  show zE 66 21 [some (.inr 5)] [.inr 7, .inr 5] (k4 L f) _
  rw [xX9_init_21]
  refine ⟨rfl, ?_⟩
  rw [xX9_init_24]
  refine ⟨rfl, ?_⟩
  rw [xX9_init_29]
  refine ⟨rfl, rfl, ⟨by show 2 ≤ 2; decide, by show 2 ≤ 4; decide⟩, rfl, ⟨by decide, by show (0 : Int) < (32 : Nat); decide⟩, ?_⟩
  show zE 66 39 [some (.inr 5)] [] (k5 L f) _
  rw [xX9_init_39]
  simp only [Option.toList_none, List.nil_append]
  rw [xX6_init_21]
  refine ⟨rfl, ?_⟩
  rw [xX6_init_24]
  show zE 44 28 [some (.inr 3)] [.inr 10, .inr 3] (k6 L f) _
  rw [xX6_init_28]
  refine ⟨by decide, ?_⟩
  rw [xX3_init_0, xX3_init_4]
  refine ⟨by decide, by decide, ?_⟩
  rw [xX3_init_10]
  refine ⟨rfl, ?_⟩
  rw [xX3_init_13]
  refine ⟨rfl, ?_⟩
  show zE 16 18 [some (.inr 10)] [] (k7 L f) _
  rw [xX3_init_18]
  simp only [Option.toList_none, List.nil_append]
  rw [xX6_init_32]
  refine ⟨rfl, ?_⟩
  rw [xX6_init_35, xX6_init_39]
  refine ⟨by show 12 ≠ 0; decide, c_Sinit (by show 2 ≤ 12; decide) ?_⟩
  simp only [Option.toList_none, List.nil_append]
  show zE 44 43 [some (.inr 3)] [.inr 12, .inr 3] (k8 L f) _
  rw [xX6_init_43]
  refine ⟨rfl, ?_⟩
  rw [xX6_init_46]
  refine ⟨rfl, ?_⟩
  show zE 44 51 [some (.inr 3)] [] (k9 L f) _
  rw [xX6_init_51]
  exact hQ
theorem i_far (hQ : Q none (k16 L f)) : zE 1 0 [some (.inr 14)] [] (k10 L f) Q := by
  rw [xX1_init_0, xX1_init_4, xX1_init_8]
  refine ⟨by decide, by show 15 ≠ 0; decide, c_Sinit (by show 2 ≤ 15; decide) ?_⟩
  simp only [Option.toList_none, List.nil_append]
  show zE 1 12 [some (.inr 14)] [.inr 15, .inr 14] (k11 L f) _
  rw [xX1_init_12]
  refine ⟨rfl, ?_⟩
  rw [xX1_init_15]
  show zE 1 19 [some (.inr 14)] [.inr 17, .inr 14] (k12 L f) _
  rw [xX1_init_19]
  refine ⟨by decide, ?_⟩
  rw [xX9_init_0, xX9_init_4]
  refine ⟨by decide, by decide, ?_⟩
  rw [xX9_init_10]
  refine ⟨rfl, ?_⟩
  show zE 66 13 [some (.inr 17)] [] (k13 L f) _
  rw [xX9_init_13]
  show zE 66 17 [some (.inr 17)] [.inr 19, .inr 17] (znO (k13 L f) 7 3) _
  rw [xX9_init_17]
  refine ⟨by decide, c_Tinit (by show 2 ≤ 20; decide) (by decide) (by show 19 < 20; decide) rfl ?_⟩
  simp only [Option.toList_none, List.nil_append]
  show zE 66 21 [some (.inr 17)] [.inr 19, .inr 17] (k14 L f) _
  rw [xX9_init_21]
  refine ⟨rfl, ?_⟩
  rw [xX9_init_24]
  refine ⟨rfl, ?_⟩
  rw [xX9_init_29]
  refine ⟨rfl, rfl, ⟨by show 2 ≤ 2; decide, by show 2 ≤ 4; decide⟩, rfl, ⟨by decide, by show (0 : Int) < (32 : Nat); decide⟩, ?_⟩
  show zE 66 39 [some (.inr 17)] [] (k15 L f) _
  rw [xX9_init_39]
  simp only [Option.toList_none, List.nil_append]
  rw [xX1_init_23]
  refine ⟨rfl, ?_⟩
  rw [xX1_init_26]
  refine ⟨rfl, ?_⟩
  show zE 1 31 [some (.inr 14)] [] (k16 L f) _
  rw [xX1_init_31]
  exact hQ
theorem i_class (hQ : ∀ h', Start 29 (k23 L f) 29 3057 w0 0 2 5 h' → Q none h') : zE 75 0 [some (.inr 2)] [] (znO (zh0 L f) 9 9) Q := by
  rw [xX10_init_0, xX10_init_4]
  refine ⟨by decide, ?_⟩
  show zE 75 8 [some (.inr 2)] [.inr 3, .inr 2] (k0 L f) _
  rw [xX10_init_8]
  refine ⟨by decide, i_near ?_⟩
  simp only [Option.toList_none, List.nil_append]
  rw [xX10_init_12]
  refine ⟨rfl, ?_⟩
  rw [xX10_init_15]
  show zE 75 19 [some (.inr 2)] [.inr 14, .inr 2] (k10 L f) _
  rw [xX10_init_19]
  refine ⟨by decide, i_far ?_⟩
  simp only [Option.toList_none, List.nil_append]
  rw [xX10_init_23]
  refine ⟨rfl, ?_⟩
  rw [xX10_init_26]
  show zE 75 30 [some (.inr 2)] [.inr 22, .inr 2] (k17 L f) _
  rw [xX10_init_30]
  refine ⟨by decide, ?_⟩
  rw [xX5_init_0, xX5_init_4]
  refine ⟨by decide, by decide, ?_⟩
  rw [xX5_init_10]
  refine ⟨rfl, ?_⟩
  show zE 40 13 [some (.inr 22)] [] (k18 L f) _
  rw [xX5_init_13]
  simp only [Option.toList_none, List.nil_append]
  rw [xX10_init_34]
  refine ⟨rfl, ?_⟩
  rw [xX10_init_37]
  show zE 75 41 [some (.inr 2)] [.inr 24, .inr 2] (k19 L f) _
  rw [xX10_init_41]
  refine ⟨by decide, ?_⟩
  rw [xX5_init_0, xX5_init_4]
  refine ⟨by decide, by decide, ?_⟩
  rw [xX5_init_10]
  refine ⟨rfl, ?_⟩
  show zE 40 13 [some (.inr 24)] [] (k20 L f) _
  rw [xX5_init_13]
  simp only [Option.toList_none, List.nil_append]
  rw [xX10_init_45]
  refine ⟨rfl, ?_⟩
  rw [xX10_init_48]
  show zE 75 52 [some (.inr 2)] [.inr 26, .inr 2] (k21 L f) _
  rw [xX10_init_52]
  refine ⟨by decide, c_Linit (by decide) rfl (by show 26 < 27; decide) (by decide) ?_⟩
  simp only [Option.toList_none, List.nil_append]
  show zE 75 59 [some (.inr 2)] [.inr 26, .inr 2] (k22 L f) _
  rw [xX10_init_59]
  refine ⟨rfl, ?_⟩
  rw [xX10_init_62]
  refine ⟨by decide, ?_⟩
  rw [xX10_init_67]
  refine ⟨rfl, ?_⟩
  show zE 75 70 [some (.inr 2)] [] (k23 L f) _
  rw [xX10_init_70]
  refine ⟨rfl, x_startOver repS_k fun h' S => ?_⟩
  simp only [Option.toList_none, List.nil_append]
  rw [xX10_init_77]
  exact hQ h' S
end cInit
