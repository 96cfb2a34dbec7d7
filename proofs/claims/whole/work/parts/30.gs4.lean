/-! PLAIN TESTS; THE CLASS'S GUESSES: foresee -/
section zTests
variable {h : zH} {Q : Option zV → zH → Prop}
theorem c_isSign {k : Int} (hQ : Q (some (.inl (if 32 ≤ k ∧ k ≤ 126 then 1 else 0))) h) : zE 103 0 [some (.inl k)] [] h Q := by
  simp only [xX10_isSign_0, xX10_isSign_6, xX10_isSign_12, xX10_isSign_16, xX10_isSign_17]
  by_cases hk : 32 ≤ k ∧ k ≤ 126
  · rw [if_pos hk] at hQ
    rw [if_neg (by omega), if_neg (by omega)]
    exact ⟨Or.inr trivial, hQ⟩
  · rw [if_neg hk] at hQ
    (repeat' split) <;> first | exact ⟨Or.inl trivial, hQ⟩ | omega
theorem c_isPlace {r c : Int} (hQ : Q (some (.inl (if 0 ≤ r ∧ r < 8 ∧ 0 ≤ c ∧ c < 24 then 1 else 0))) h) : zE 105 0 [some (.inl r), some (.inl c)] [] h Q := by
  simp only [xX10_isPlace_0, xX10_isPlace_4, xX10_isPlace_10, xX10_isPlace_14, xX10_isPlace_20, xX10_isPlace_24, xX10_isPlace_25]
  by_cases hk : 0 ≤ r ∧ r < 8 ∧ 0 ≤ c ∧ c < 24
  · rw [if_pos hk] at hQ
    rw [if_neg (by omega), if_neg (by omega), if_neg (by omega), if_neg (by omega)]
    exact ⟨Or.inr trivial, hQ⟩
  · rw [if_neg hk] at hQ
    (repeat' split) <;> first | exact ⟨Or.inl trivial, hQ⟩ | omega
theorem c_isProgram {p : Int} (hQ : Q (some (.inl (if 0 ≤ p ∧ p ≤ 3 then 1 else 0))) h) : zE 102 0 [some (.inl p)] [] h Q := by
  simp only [xX10_isProgram_0, xX10_isProgram_4, xX10_isProgram_9, xX10_isProgram_13, xX10_isProgram_14]
  by_cases hk : 0 ≤ p ∧ p ≤ 3
  · rw [if_pos hk] at hQ
    rw [if_neg (by omega), if_neg (by omega)]
    exact ⟨Or.inr trivial, hQ⟩
  · rw [if_neg hk] at hQ
    (repeat' split) <;> first | exact ⟨Or.inl trivial, hQ⟩ | omega
def keyOK (k : Int) : Prop := (32 ≤ k ∧ k ≤ 126) ∨ k = 13 ∨ k = 8 ∨ (1 ≤ k ∧ k ≤ 4)
theorem c_isKey {k : Int} (hQ : ∀ b : Int, (b = 0 ∨ b = 1) → (b = 1 ↔ keyOK k) → Q (some (.inl b)) h) : zE 104 0 [some (.inl k)] [] h Q := by
  have h0 := hQ 0 (Or.inl rfl)
  have h1 := hQ 1 (Or.inr rfl)
  clear hQ
  unfold keyOK at *
  rw [xX10_isKey_0]
  refine c_isSign ?_
  simp only [Option.toList_some, List.cons_append, List.nil_append]
  by_cases hs : 32 ≤ k ∧ k ≤ 126
  · rw [if_pos hs]
    simp only [xX10_isKey_4, xX10_isKey_7, xX10_isKey_13, xX10_isKey_19, xX10_isKey_24, xX10_isKey_29, xX10_isKey_33, xX10_isKey_34]
    rw [if_pos (by decide)]
    exact ⟨Or.inr trivial, h1 ⟨fun _ => Or.inl hs, fun _ => rfl⟩⟩
  · rw [if_neg hs]
    simp only [xX10_isKey_4, xX10_isKey_7, xX10_isKey_13, xX10_isKey_19, xX10_isKey_24, xX10_isKey_29, xX10_isKey_33, xX10_isKey_34]
    by_cases hk : k = 13 ∨ k = 8 ∨ (1 ≤ k ∧ k ≤ 4)
    · have h1' := h1 ⟨fun _ => Or.inr hk, fun _ => rfl⟩
      (repeat' split) <;> first | exact ⟨Or.inr trivial, h1'⟩ | omega
    · have h0' := h0 ⟨fun q => absurd q (by decide), fun q => q.elim (fun z => absurd z hs) (fun z => absurd z hk)⟩
      (repeat' split) <;> first | exact ⟨Or.inl trivial, h0'⟩ | omega
end zTests
section zFore
variable {h : zH} {n : Nat} {g : Nat → Nat → Int} {Q : Option zV → zH → Prop}
/-- what a key does to the guesses -/
def fore (k num row col : Int) (n : Nat) (g : Nat → Nat → Int) (age : Int) : Nat × (Nat → Nat → Int) × Int :=
  if 32 ≤ k ∧ k ≤ 126 then (if n = 60 then (n, g, age) else (n + 1, fun i => if i = n then gq num age (24 * row + col) k row (if col < 23 then col + 1 else col) else g i, if col < 23 then age else age + 1))
  else if k = 3 then (if col < 23 ∧ n < 60 then (n + 1, fun i => if i = n then gq num age (-1) (-1) row (col + 1) else g i, age) else (n, g, age))
  else if k = 4 then (if 0 < col ∧ n < 60 then (n + 1, fun i => if i = n then gq num age (-1) (-1) row (col - 1) else g i, age) else (n, g, age))
  else (n, g, age + 1)
theorem c_Garrow {num row col : Int} (hG : rG h n g) (hz : 48 ≤ zn h) (hx0 : ∀ x, zn h ≤ x → (zK h x).1 = 0) (hn : n < 60)
    (hQ : ∀ o h', frG h h' → rG h' (n + 1) (fun i => if i = n then gq num (zI h 130 10) (-1) (-1) row col else g i) → (∀ f, 130 ≤ f → f ≤ 134 → zI h' f 10 = zI h f 10) → Q (some (.inr o)) h') : zE 20 0 [some (.inr 10), some (.inl num), some (.inl row), some (.inl col), none] [] h Q := by
  obtain ⟨⟨r1, r2, r3, r4, r5, r6⟩, s1, s2, s3⟩ := id hG
  have key : ∀ (hb : zH) (o : Nat), ((zB h 11 n ≠ 0 ∧ o = zB h 11 n ∧ hb = h) ∨ (zB h 11 n = 0 ∧ o = zn h ∧ hb = zsB (znO h 1 7) 11 n (zn h))) → (zK hb o).1 = 11 → o ≠ 10 → frG h hb → (∀ f, 130 ≤ f → f ≤ 134 → zI hb f 10 = zI h f 10) → Q (some (.inr o)) (zsI (zG7 hb o num (zI h 130 10) (-1) (-1) (-1) row col) 129 10 (n + 1 : Nat)) := by
    intro hb o hbo ho ho10 hfr hoth
    refine hQ o _ (hfr.of_G7.of_sI (Or.inr ⟨by decide, by decide, rfl⟩)) (rG_app hG hn hz hx0 hbo rfl rfl rfl ?_ zI_sI_s (gIs_arrow ho)) ?_
    · intro f x h1 h2 h3
      rw [zI_ne (fun q => absurd h2 (by rw [q]; decide)), zI_G7 (Or.inr h3)]
    · intro f h1 h2
      rw [zI_ne (fun q => absurd h1 (by rw [q]; decide)), zI_G7 (Or.inr ho10.symm)]
      exact hoth f h1 h2
  refine c_Gapp hG hz (fun q => by omega) (fun _ hnz => ?_) (fun _ h0 => ?_)
  · have h11 := r5 n hn hnz
    exact key h _ (Or.inl ⟨hnz, rfl, rfl⟩) h11 (fun q => by rw [q, r1] at h11; cases h11) frG.rf (fun _ _ _ => rfl)
  · refine key _ _ (Or.inr ⟨h0, rfl, rfl⟩) ?_ (by omega) frG.new (fun f _ _ => ?_)
    · rw [zK_sB, zK_nO, if_pos rfl]
    · rw [zI_sB, zI_nO, if_neg (by omega)]
theorem lst_all {n : Nat} {p : Nat → Bool} (hp : ∀ i, p i = true) : lst p n = if n = 0 then none else some (n - 1) := by
  cases n with
  | zero => rfl
  | succ n => rw [lst_s, if_pos (hp n), if_neg (by omega)]; rfl
theorem c_Gfore {k num row col : Int} {s : Nat} (hG : rG h n g) (hz : 48 ≤ zn h) (hx0 : ∀ x, zn h ≤ x → (zK h x).1 = 0) (hs : (zK h s).1 = 16) (hag : 0 ≤ zI h 130 10 ∧ zI h 130 10 < 1000000)
    (hrow : row = if n = 0 then zI h 385 s else g (n - 1) 4) (hcol : col = if n = 0 then zI h 386 s else g (n - 1) 5) (hr : 0 ≤ row ∧ row < 8 ∧ 0 ≤ col ∧ col < 24)
    (hQ : ∀ h', frG h h' → rG h' (fore k num row col n g (zI h 130 10)).1 (fore k num row col n g (zI h 130 10)).2.1 → zI h' 130 10 = (fore k num row col n g (zI h 130 10)).2.2 → (∀ f, 131 ≤ f → f ≤ 134 → zI h' f 10 = zI h f 10) → Q none h') :
    zE 18 0 [some (.inr 10), some (.inl k), some (.inl num), some (.inr s), none, none, none] [] h Q := by
  obtain ⟨⟨r1, r2, r3, r4, r5, r6⟩, s1, s2, s3⟩ := id hG
  have hw : zw (zI h 130 10 + 1) = zI h 130 10 + 1 := zw_eq (by omega) (by omega)
  have hw1 : zw (col + 1) = col + 1 := zw_eq (by omega) (by omega)
  have hw2 : zw (col - 1) = col - 1 := zw_eq (by omega) (by omega)
  -- behind the cursor's two numbers
  have hmain : ∀ l4 : Option zV, zE 18 43 [some (.inr 10), some (.inl k), some (.inl num), some (.inr s), l4, some (.inl row), none] [.inl col] h Q := by
    intro l4
    rw [xX3_foresee_43]
    refine c_isSign ?_
    simp only [Option.toList_some, List.cons_append, List.nil_append]
    rw [xX3_foresee_49]
    unfold fore at hQ
    by_cases hk : 32 ≤ k ∧ k ≤ 126
    · rw [if_pos hk, if_neg (by decide), xX3_foresee_52]
      simp only [if_pos hk] at hQ
      refine ⟨r1, c_GforeSign hG hz hx0 hr hag ?_ ?_⟩
      · intro hn
        simp only [Option.toList_none, List.nil_append, xX3_foresee_62, xX3_foresee_137]
        simp only [if_pos hn] at hQ
        exact hQ h frG.rf hG rfl (fun _ _ _ => rfl)
      · intro hn h' hfr hG' hage hoth
        simp only [Option.toList_none, List.nil_append, xX3_foresee_62, xX3_foresee_137]
        have hn60 : ¬ n = 60 := by omega
        simp only [if_neg hn60] at hQ
        exact hQ h' hfr hG' hage hoth
    · rw [if_neg hk, if_pos rfl, xX3_foresee_65]
      simp only [if_neg hk] at hQ
      by_cases h3 : k = 3
      · rw [if_neg (fun q => q h3), xX3_foresee_70]
        simp only [if_pos h3] at hQ
        by_cases hc : col < 23
        · rw [if_neg (by omega), xX3_foresee_77, hw1]
          refine ⟨r1, ?_⟩
          by_cases hn : n < 60
          · simp only [if_pos (show col < 23 ∧ n < 60 from ⟨hc, hn⟩)] at hQ
            refine c_Garrow hG hz hx0 hn (fun o h' hfr hG' hoth => ?_)
            simp only [Option.toList_some, List.cons_append, List.nil_append, xX3_foresee_88, xX3_foresee_137]
            exact hQ h' hfr hG' (hoth _ (by decide) (by decide)) (fun f h1 h2 => hoth f (Nat.le_trans (by decide) h1) h2)
          · simp only [if_neg (show ¬ (col < 23 ∧ n < 60) from fun q => hn q.2)] at hQ
            refine c_Gapp hG hz (fun _ => ?_) (fun q => absurd q hn) (fun q => absurd q hn)
            simp only [Option.toList_some, List.cons_append, List.nil_append, xX3_foresee_88, xX3_foresee_137]
            exact hQ h frG.rf hG rfl (fun _ _ _ => rfl)
        · simp only [if_neg (show ¬ (col < 23 ∧ n < 60) from fun q => hc q.1)] at hQ
          rw [if_pos (by omega), xX3_foresee_92, if_pos (by omega), xX3_foresee_117, if_pos h3, xX3_foresee_137]
          exact hQ h frG.rf hG rfl (fun _ _ _ => rfl)
      · rw [if_pos h3, xX3_foresee_92]
        simp only [if_neg h3] at hQ
        by_cases h4 : k = 4
        · rw [if_neg (fun q => q h4), xX3_foresee_97]
          simp only [if_pos h4] at hQ
          by_cases hc : 0 < col
          · rw [if_neg (by omega), xX3_foresee_102, hw2]
            refine ⟨r1, ?_⟩
            by_cases hn : n < 60
            · simp only [if_pos (show 0 < col ∧ n < 60 from ⟨hc, hn⟩)] at hQ
              refine c_Garrow hG hz hx0 hn (fun o h' hfr hG' hoth => ?_)
              simp only [Option.toList_some, List.cons_append, List.nil_append, xX3_foresee_113, xX3_foresee_137]
              exact hQ h' hfr hG' (hoth _ (by decide) (by decide)) (fun f h1 h2 => hoth f (Nat.le_trans (by decide) h1) h2)
            · simp only [if_neg (show ¬ (0 < col ∧ n < 60) from fun q => hn q.2)] at hQ
              refine c_Gapp hG hz (fun _ => ?_) (fun q => absurd q hn) (fun q => absurd q hn)
              simp only [Option.toList_some, List.cons_append, List.nil_append, xX3_foresee_113, xX3_foresee_137]
              exact hQ h frG.rf hG rfl (fun _ _ _ => rfl)
          · simp only [if_neg (show ¬ (0 < col ∧ n < 60) from fun q => hc q.1)] at hQ
            rw [if_pos (by omega), xX3_foresee_117, if_neg h3, xX3_foresee_122, if_pos h4, xX3_foresee_137]
            exact hQ h frG.rf hG rfl (fun _ _ _ => rfl)
        · simp only [if_neg h4] at hQ
          rw [if_pos h4, xX3_foresee_117, if_neg h3, xX3_foresee_122, if_neg h4, xX3_foresee_127, hw, xX3_foresee_137]
          exact ⟨r1, r1, hQ _ (frG.rf.of_sI (Or.inr ⟨by decide, by decide, rfl⟩)) (rG_sI hG (by decide) (by decide)) zI_sI_s (fun f h1 h2 => zI_ne (fun q => absurd h1 (by rw [q]; decide)))⟩
  rw [xX3_foresee_0]
  refine ⟨r1, c_GLast hG ?_⟩
  rw [lst_all (fun i => by unfold laid; exact decide_eq_true (Or.inl rfl))]
  by_cases hn : n = 0
  · rw [if_pos hn] at hrow hcol ⊢
    simp only [Option.toList_some, List.cons_append, List.nil_append]
    rw [xX3_foresee_5, if_neg (fun q => q rfl), xX3_foresee_12, xX3_foresee_24, if_neg (fun q => q rfl), xX3_foresee_31, ← hrow, ← hcol]
    exact ⟨hs, hs, hmain _⟩
  · rw [if_neg hn] at hrow hcol ⊢
    simp only [Option.toList_some, List.cons_append, List.nil_append]
    have hnz := hG.nz (i := n - 1) (by omega)
    obtain ⟨g1, g2, g3, g4, g5, g6, g7, g8⟩ := s3 (n - 1) (by omega)
    rw [xX3_foresee_5, if_pos hnz, xX3_foresee_19, xX3_foresee_24, if_pos hnz, xX3_foresee_38, g7, g8, ← hrow, ← hcol]
    exact ⟨g1, g1, hmain _⟩
end zFore
