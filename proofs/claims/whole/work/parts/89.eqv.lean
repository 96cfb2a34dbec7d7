/-! SCREENS ALIKE IN THEIR CELLS: what is done to them comes out alike -/
def eqc (C D : Nat → Int) : Prop := ∀ k, k < 192 → C k = D k
def eqv (x y : sC) : Prop := eqc x.1 y.1 ∧ x.2 = y.2
section eEq
variable {x y : sC} {C D : Nat → Int}
theorem eqc_scr {n : Nat} (h : eqc C D) : eqc (scr n C) (scr n D) := by
  intro k hk
  unfold scr
  have nk : ¬ 192 ≤ k := by omega
  rw [if_neg nk, if_neg nk]
  by_cases q : k + 24 * n < 192
  · rw [if_pos q, if_pos q]; exact h _ q
  · rw [if_neg q, if_neg q]
theorem eqc_fup {i : Nat} {v : Int} (h : eqc C D) : eqc (fup C i v) (fup D i v) := by
  intro k hk
  unfold fup
  split
  · rfl
  · exact h k hk
theorem eqc_row {r v : Int} (h : eqc C D) : eqc (s_row r v C) (s_row r v D) := by
  intro k hk
  unfold s_row
  split
  · rfl
  · exact h k hk
theorem eqv_nl (h : eqv x y) : eqv (s_nl x) (s_nl y) := by
  obtain ⟨h1, h2⟩ := h
  unfold s_nl
  rw [h2]
  split
  · exact ⟨h1, rfl⟩
  · exact ⟨eqc_scr h1, rfl⟩
theorem eqv_put {v : Int} (h : eqv x y) : eqv (s_put v x) (s_put v y) := by
  obtain ⟨h1, h2⟩ := id h
  unfold s_put
  rw [h2]
  split
  · exact ⟨eqc_fup h1, rfl⟩
  · exact eqv_nl ⟨eqc_fup h1, rfl⟩
theorem eqv_rub (h : eqv x y) : eqv (s_rub x) (s_rub y) := by
  obtain ⟨h1, h2⟩ := id h
  unfold s_rub
  rw [h2]
  split
  · exact h
  · exact ⟨eqc_fup h1, rfl⟩
theorem eqv_step {a b : Int} (h : eqv x y) : eqv (s_step a b x) (s_step a b y) := by
  obtain ⟨h1, h2⟩ := id h
  unfold s_step
  rw [h2]
  split
  · exact ⟨h1, rfl⟩
  · exact h
theorem eqv_echo {pen k : Int} (h : eqv x y) : eqv (s_echo pen k x) (s_echo pen k y) := by
  unfold s_echo
  split
  · exact eqv_put h
  · split
    · exact eqv_nl h
    · split
      · exact eqv_rub h
      · split
        · exact eqv_step h
        · split
          · exact eqv_step h
          · split
            · exact eqv_step h
            · split
              · exact eqv_step h
              · exact h
theorem eqv_star {pen : Int} : ∀ (n : Nat) {x y : sC}, eqv x y → eqv (s_star pen n x) (s_star pen n y)
  | 0, _, _, h => h
  | n + 1, _, _, h => eqv_star n (eqv_put h)
theorem eqv_press {prog pen k p : Int} (h : eqv x y) : eqv (s_press prog pen k x p).1 (s_press prog pen k y p).1 ∧ (s_press prog pen k x p).2 = (s_press prog pen k y p).2 := by
  obtain ⟨h1, h2⟩ := id h
  unfold s_press
  split
  · unfold s_pass
    split
    · exact ⟨h, rfl⟩
    · split
      · exact ⟨h, rfl⟩
      · split
        · exact ⟨eqv_nl (eqv_star _ h), rfl⟩
        · exact ⟨h, rfl⟩
  · split
    · refine ⟨?_, rfl⟩
      unfold s_page
      split
      · exact ⟨eqc_row (eqc_scr h1), rfl⟩
      · exact h
    · split
      · exact ⟨eqv_put (eqv_nl h), rfl⟩
      · have e : s_left k x ↔ s_left k y := by
          unfold s_left
          rw [h2]
        by_cases q : prog = 1 ∧ s_left k x
        · rw [if_pos q, if_pos ⟨q.1, e.1 q.2⟩]
          exact ⟨h, rfl⟩
        · rw [if_neg q, if_neg (fun z => q ⟨z.1, e.2 z.2⟩)]
          exact ⟨eqv_echo h, rfl⟩
theorem eqv_keys {prog pen : Int} {ks : Nat → Int} : ∀ (d i : Nat) (u v : sC × Int), eqv u.1 v.1 → u.2 = v.2 → eqv (s_keys prog pen ks d i u).1 (s_keys prog pen ks d i v).1 ∧ (s_keys prog pen ks d i u).2 = (s_keys prog pen ks d i v).2
  | 0, _, _, _, h1, h2 => ⟨h1, h2⟩
  | d + 1, i, u, v, h1, h2 => by
    have := eqv_press (prog := prog) (pen := pen) (k := ks i) (p := u.2) h1
    rw [show (s_press prog pen (ks i) v.1 u.2) = s_press prog pen (ks i) v.1 v.2 by rw [h2]] at this
    exact eqv_keys d (i + 1) _ _ this.1 this.2
theorem s_keys_congr {prog pen : Int} {ks ks' : Nat → Int} : ∀ (d i : Nat) (u : sC × Int), (∀ j, i ≤ j → j < i + d → ks j = ks' j) → s_keys prog pen ks d i u = s_keys prog pen ks' d i u
  | 0, _, _, _ => rfl
  | d + 1, i, u, h => by
    show s_keys prog pen ks d (i + 1) (s_press prog pen (ks i) u.1 u.2) = s_keys prog pen ks' d (i + 1) (s_press prog pen (ks' i) u.1 u.2)
    rw [h i (by omega) (by omega)]
    exact s_keys_congr d (i + 1) _ (fun j h1 h2 => h j (by omega) (by omega))
-- differences
variable {X X' Y Y' : Nat → Int}
theorem dF_congr {b : Nat} : ∀ (d i : Nat), (∀ j, j < i + d → X (b + j) = X' (b + j) ∧ Y (b + j) = Y' (b + j)) → dF X Y b d i = dF X' Y' b d i
  | 0, _, _ => rfl
  | d + 1, i, h => by
    show (if Y (b + i) = X (b + i) then dF X Y b d (i + 1) else (i : Int)) = if Y' (b + i) = X' (b + i) then dF X' Y' b d (i + 1) else (i : Int)
    rw [(h i (by omega)).1, (h i (by omega)).2, dF_congr d (i + 1) (fun j hj => h j (by omega))]
theorem dL_congr {b : Nat} : ∀ (n : Nat), (∀ j, j < n → X (b + j) = X' (b + j) ∧ Y (b + j) = Y' (b + j)) → dL X Y b n = dL X' Y' b n
  | 0, _ => rfl
  | n + 1, h => by
    show (if Y (b + n) = X (b + n) then dL X Y b n else (n : Int)) = if Y' (b + n) = X' (b + n) then dL X' Y' b n else (n : Int)
    rw [(h n (by omega)).1, (h n (by omega)).2, dL_congr n (fun j hj => h j (by omega))]
theorem dU_congr {b : Nat} {v : Int} : ∀ (d i : Nat), (∀ j, j < i + d → Y (b + j) = Y' (b + j)) → dU Y b v d i = dU Y' b v d i
  | 0, _, _ => rfl
  | d + 1, i, h => by
    show (if Y (b + i) = v then dU Y b v d (i + 1) else false) = if Y' (b + i) = v then dU Y' b v d (i + 1) else false
    rw [h i (by omega), dU_congr d (i + 1) (fun j hj => h j (by omega))]
theorem dUn_congr {b f l : Nat} (hf : f ≤ l) (hl : l < 24) (h : ∀ j, j < 24 → Y (b + j) = Y' (b + j)) : dUn Y b f l = dUn Y' b f l := by
  unfold dUn
  rw [h f (by omega), dU_congr (l - f) (f + 1) (fun j hj => h j (by omega))]
theorem dCs_congr {b : Nat} : ∀ (n q : Nat), (∀ j, j < q + n → Y (b + j) = Y' (b + j)) → dCs Y b n q = dCs Y' b n q
  | 0, _, _ => rfl
  | n + 1, q, h => by
    show Y (b + q) % 128 :: Y (b + q) / 128 :: dCs Y b n (q + 1) = Y' (b + q) % 128 :: Y' (b + q) / 128 :: dCs Y' b n (q + 1)
    rw [h q (by omega), dCs_congr n (q + 1) (fun j hj => h j (by omega))]
theorem row_congr (hX : eqc X X') (hY : eqc Y Y') {row : Nat} (hr : row < 8) : ∀ j, j < 24 → X (24 * row + j) = X' (24 * row + j) ∧ Y (24 * row + j) = Y' (24 * row + j) := fun j hj => ⟨hX _ (by omega), hY _ (by omega)⟩
theorem dN_congr (hX : eqc X X') (hY : eqc Y Y') {row : Nat} (hr : row < 8) : dN X Y (24 * row) = dN X' Y' (24 * row) := by
  have h := row_congr hX hY hr
  have e1 : dF X Y (24 * row) 24 0 = dF X' Y' (24 * row) 24 0 := dF_congr 24 0 (fun j hj => h j (by omega))
  have e2 : dL X Y (24 * row) 24 = dL X' Y' (24 * row) 24 := dL_congr 24 (fun j hj => h j (by omega))
  unfold dN
  rw [e1, e2]
  by_cases q : dF X' Y' (24 * row) 24 0 = -1
  · rw [if_pos q, if_pos q]
  · obtain ⟨f, l, a1, a2, a3, a4⟩ := dFL X' Y' (24 * row) q
    rw [if_neg q, if_neg q, a1, a2, Int.toNat_natCast, Int.toNat_natCast, dUn_congr a3 a4 (fun j hj => (h j hj).2)]
theorem dBy_congr (hX : eqc X X') (hY : eqc Y Y') : ∀ (d row : Nat) (acc : Int), row + d = 8 → dBy X Y d row acc = dBy X' Y' d row acc
  | 0, _, _, _ => rfl
  | d + 1, row, acc, h => by
    show dBy X Y d (row + 1) (acc + dN X Y (24 * row)) = dBy X' Y' d (row + 1) (acc + dN X' Y' (24 * row))
    rw [dN_congr hX hY (by omega)]
    exact dBy_congr hX hY d (row + 1) _ (by omega)
theorem dBest_congr (hX : eqc X X') (hY : eqc Y Y') : ∀ (d k best : Nat) (few : Int), dBest X Y d k best few = dBest X' Y' d k best few
  | 0, _, _, _ => rfl
  | d + 1, k, best, few => by
    show (if few ≤ dBy (scr k X) Y 8 0 1 then dBest X Y d (k + 1) best few else dBest X Y d (k + 1) k (dBy (scr k X) Y 8 0 1)) = if few ≤ dBy (scr k X') Y' 8 0 1 then dBest X' Y' d (k + 1) best few else dBest X' Y' d (k + 1) k (dBy (scr k X') Y' 8 0 1)
    rw [dBy_congr (eqc_scr hX) hY 8 0 1 (by omega), dBest_congr hX hY d (k + 1) best few, dBest_congr hX hY d (k + 1) k]
theorem dRows_congr (hX : eqc X X') (hY : eqc Y Y') : ∀ (d row : Nat), row + d = 8 → dRows X Y d row = dRows X' Y' d row
  | 0, _, _ => rfl
  | d + 1, row, hr => by
    have h := row_congr hX hY (row := row) (by omega)
    have e1 : dF X Y (24 * row) 24 0 = dF X' Y' (24 * row) 24 0 := dF_congr 24 0 (fun j hj => h j (by omega))
    have e2 : dL X Y (24 * row) 24 = dL X' Y' (24 * row) 24 := dL_congr 24 (fun j hj => h j (by omega))
    show (if dF X Y (24 * row) 24 0 = -1 then [] else dRow Y row (dF X Y (24 * row) 24 0).toNat (dL X Y (24 * row) 24).toNat) ++ dRows X Y d (row + 1) = (if dF X' Y' (24 * row) 24 0 = -1 then [] else dRow Y' row (dF X' Y' (24 * row) 24 0).toNat (dL X' Y' (24 * row) 24).toNat) ++ dRows X' Y' d (row + 1)
    rw [dRows_congr hX hY d (row + 1) (by omega), e1, e2]
    by_cases q : dF X' Y' (24 * row) 24 0 = -1
    · rw [if_pos q, if_pos q]
    · obtain ⟨f, l, a1, a2, a3, a4⟩ := dFL X' Y' (24 * row) q
      rw [if_neg q, if_neg q, a1, a2, Int.toNat_natCast, Int.toNat_natCast]
      unfold dRow
      rw [dUn_congr a3 a4 (fun j hj => (h j hj).2), dCs_congr _ _ (fun j hj => (h j (by
        revert hj
        split <;> omega)).2)]
theorem dDiff_congr (hX : eqc X X') (hY : eqc Y Y') : dDiff X Y = dDiff X' Y' := by
  have e : dSh X Y = dSh X' Y' := by
    unfold dSh
    rw [dBy_congr (eqc_scr hX) hY 8 0 1 (by omega), dBest_congr hX hY]
  unfold dDiff
  rw [e, dRows_congr (eqc_scr hX) hY 8 0 (by omega)]
-- laid
theorem eqc_lCs {xs : List Int} {row : Int} {stp : Nat} : ∀ (n : Nat) (q : Int) (fr : Nat) (C D : Nat → Int), eqc C D → eqc (lCs xs row stp n q fr C) (lCs xs row stp n q fr D)
  | 0, _, _, _, _, h => h
  | n + 1, q, fr, C, D, h => by
    show eqc (lCs xs row stp n (q + 1) (fr + stp) (if _ then fup C _ _ else C)) (lCs xs row stp n (q + 1) (fr + stp) (if _ then fup D _ _ else D))
    refine eqc_lCs n (q + 1) (fr + stp) _ _ ?_
    split
    · exact eqc_fup h
    · exact h
theorem eqc_lLoop {xs : List Int} : ∀ (d i : Nat) (C D : Nat → Int), eqc C D → eqc (lLoop xs d i C) (lLoop xs d i D)
  | 0, _, _, _, h => h
  | d + 1, i, C, D, h => by
    show eqc (if xs.length < i + 8 then C else lLoop xs d (i + lStep xs i) (lR xs i C)) (if xs.length < i + 8 then D else lLoop xs d (i + lStep xs i) (lR xs i D))
    by_cases q : xs.length < i + 8
    · rw [if_pos q, if_pos q]; exact h
    · rw [if_neg q, if_neg q]
      exact eqc_lLoop d _ _ _ (eqc_lCs _ _ _ _ _ h)
theorem eqv_lLay {xs : List Int} (h : eqv x y) : eqv (lLay xs x) (lLay xs y) := by
  obtain ⟨h1, h2⟩ := h
  refine ⟨eqc_lLoop _ _ _ _ (eqc_scr h1), ?_⟩
  show (if _ then _ else x.2) = (if _ then _ else y.2)
  rw [h2]
end eEq
