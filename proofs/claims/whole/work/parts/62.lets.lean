/-! THE LETTERS THAT ARE MADE are such as they must be -/
section sLet
variable {X Y : Nat → Int} {xs ys pre zs : List Int} {c : cg} {l : lg} {B : Int}
theorem bt_app (pre zs : List Int) (j : Nat) : bt (pre ++ zs) (pre.length + j) = bt zs j := by
  unfold bt
  rw [List.getD_eq_getElem?_getD, List.getD_eq_getElem?_getD, List.getElem?_append_right (by omega), show pre.length + j - pre.length = j by omega]
theorem bt_left {j : Nat} (hj : j < pre.length) : bt (pre ++ zs) j = bt pre j := by
  unfold bt
  rw [List.getD_eq_getElem?_getD, List.getD_eq_getElem?_getD, List.getElem?_append_left hj]
theorem bt_dCs (Y : Nat → Int) (b : Nat) (zs : List Int) : ∀ (n c m : Nat), m < n → bt (dCs Y b n c ++ zs) (2 * m) = Y (b + (c + m)) % 128 ∧ bt (dCs Y b n c ++ zs) (2 * m + 1) = Y (b + (c + m)) / 128
  | 0, _, _, h => absurd h (by omega)
  | n + 1, c, 0, _ => ⟨rfl, rfl⟩
  | n + 1, c, m + 1, h => by
    have := bt_dCs Y b zs n (c + 1) m (by omega)
    rw [show c + (m + 1) = c + 1 + m by omega, show 2 * (m + 1) = 2 * m + 1 + 1 by omega]
    exact this
theorem wf_rows (hY : ∀ k, k < 192 → 0 ≤ Y k ∧ Y k < 512) {s : Int} : ∀ (d row fuel : Nat) (pre : List Int), row + d = 8 → d ≤ fuel → wfD (pre ++ (dRows X Y d row ++ two s)) fuel pre.length := by
  intro d
  induction d with
  | zero =>
    intro row fuel pre hr hf
    have e : pre.length + 2 = (pre ++ (dRows X Y 0 row ++ two s)).length := by
      rw [List.length_append]
      rfl
    cases fuel with
    | zero => exact e
    | succ fuel => exact Or.inl e
  | succ d ih =>
    intro row fuel pre hr hf
    have eR : dRows X Y (d + 1) row = (if dF X Y (24 * row) 24 0 = -1 then [] else dRow Y row (dF X Y (24 * row) 24 0).toNat (dL X Y (24 * row) 24).toNat) ++ dRows X Y d (row + 1) := rfl
    rw [eR]
    by_cases q : dF X Y (24 * row) 24 0 = -1
    · rw [if_pos q, List.nil_append]
      exact ih (row + 1) fuel pre (by omega) (by omega)
    · obtain ⟨f, l, e1, e2, e3, e4⟩ := dFL X Y (24 * row) q
      rw [if_neg q, e1, e2, Int.toNat_natCast, Int.toNat_natCast]
      obtain ⟨fuel, rfl⟩ : ∃ k, fuel = k + 1 := ⟨fuel - 1, by omega⟩
      have eD : dRow Y row f l = [(row : Int), if dUn Y (24 * row) f l then 1 else 0, (f : Int), (l : Int)] ++ dCs Y (24 * row) (if dUn Y (24 * row) f l then 1 else l - f + 1) f := rfl
      generalize hcn : (if dUn Y (24 * row) f l then 1 else l - f + 1) = cn at eD
      have hcn1 : 1 ≤ cn ∧ cn ≤ l - f + 1 := by
        rw [← hcn]
        split <;> omega
      have eL : (dRow Y row f l).length = 4 + 2 * cn := by
        rw [eD, List.length_append, dCs_len]
        rfl
      have hB : ∀ j, bt (pre ++ (dRow Y row f l ++ dRows X Y d (row + 1) ++ two s)) (pre.length + j) = bt (dRow Y row f l ++ (dRows X Y d (row + 1) ++ two s)) j := fun j => by
        rw [bt_app, List.append_assoc]
      have b0 : bt (pre ++ (dRow Y row f l ++ dRows X Y d (row + 1) ++ two s)) pre.length = row := by
        have := hB 0
        rw [Nat.add_zero, eD] at this
        rw [eD]
        exact this
      have b1 : bt (pre ++ (dRow Y row f l ++ dRows X Y d (row + 1) ++ two s)) (pre.length + 1) = if dUn Y (24 * row) f l then 1 else 0 := by
        rw [hB 1, eD]
        rfl
      have b2 : bt (pre ++ (dRow Y row f l ++ dRows X Y d (row + 1) ++ two s)) (pre.length + 2) = f := by
        rw [hB 2, eD]
        rfl
      have b3 : bt (pre ++ (dRow Y row f l ++ dRows X Y d (row + 1) ++ two s)) (pre.length + 3) = l := by
        rw [hB 3, eD]
        rfl
      have eS : lStep (pre ++ (dRow Y row f l ++ dRows X Y d (row + 1) ++ two s)) pre.length = 4 + 2 * cn := by
        unfold lStep
        rw [b1, b2, b3]
        by_cases u : dUn Y (24 * row) f l = true
        · rw [if_pos u] at hcn
          rw [if_pos u, if_pos rfl]
          omega
        · rw [if_neg u] at hcn
          rw [if_neg u, if_neg (by decide)]
          omega
      have eT : (pre ++ (dRow Y row f l ++ dRows X Y d (row + 1) ++ two s)).length = pre.length + (4 + 2 * cn + (dRows X Y d (row + 1)).length) + 2 := by
        simp only [List.length_append, eL]
        show _ + (_ + 2) = _
        omega
      refine Or.inr ⟨by omega, by rw [b0]; omega, ?_, by rw [b2, b3]; omega, by rw [b3]; omega, by rw [eS]; omega, fun m hm => ?_, ?_⟩
      · rw [b1]
        split
        · exact Or.inr rfl
        · exact Or.inl rfl
      · rw [eS] at hm
        have hc := bt_dCs Y (24 * row) (dRows X Y d (row + 1) ++ two s) cn f m (by omega)
        have hv := hY (24 * row + (f + m)) (by omega)
        have p1 : bt (pre ++ (dRow Y row f l ++ dRows X Y d (row + 1) ++ two s)) (pre.length + 4 + 2 * m) = Y (24 * row + (f + m)) % 128 := by
          rw [show pre.length + 4 + 2 * m = pre.length + (4 + 2 * m) by omega, hB, eD, List.append_assoc, show 4 + 2 * m = [(row : Int), if dUn Y (24 * row) f l then 1 else 0, (f : Int), (l : Int)].length + 2 * m from rfl, bt_app]
          exact hc.1
        have p2 : bt (pre ++ (dRow Y row f l ++ dRows X Y d (row + 1) ++ two s)) (pre.length + 5 + 2 * m) = Y (24 * row + (f + m)) / 128 := by
          rw [show pre.length + 5 + 2 * m = pre.length + (4 + (2 * m + 1)) by omega, hB, eD, List.append_assoc, show 4 + (2 * m + 1) = [(row : Int), if dUn Y (24 * row) f l then 1 else 0, (f : Int), (l : Int)].length + (2 * m + 1) from rfl, bt_app]
          exact hc.2
        rw [p1, p2]
        omega
      · rw [eS]
        have := ih (row + 1) fuel (pre ++ dRow Y row f l) (by omega) (by omega)
        rw [List.length_append, eL] at this
        simp only [List.append_assoc] at this ⊢
        exact this
theorem dCs_byte (b : Nat) : ∀ (n c : Nat), (∀ k, k < b + (c + n) → 0 ≤ Y k ∧ Y k < 512) → byteL (dCs Y b n c)
  | 0, _, _ => fun v hv => by cases hv
  | n + 1, c, h => by
    have h0 := h (b + c) (by omega)
    have ih := dCs_byte b n (c + 1) (fun k hk => h k (by omega))
    intro v hv
    rcases List.mem_cons.mp hv with rfl | hv
    · omega
    · rcases List.mem_cons.mp hv with rfl | hv
      · omega
      · exact ih v hv
theorem dRows_byte (hY : ∀ k, k < 192 → 0 ≤ Y k ∧ Y k < 512) : ∀ (d row : Nat), row + d = 8 → byteL (dRows X Y d row)
  | 0, _, _ => fun v hv => by cases hv
  | d + 1, row, hr => by
    have ih := dRows_byte hY d (row + 1) (by omega)
    have eR : dRows X Y (d + 1) row = (if dF X Y (24 * row) 24 0 = -1 then [] else dRow Y row (dF X Y (24 * row) 24 0).toNat (dL X Y (24 * row) 24).toNat) ++ dRows X Y d (row + 1) := rfl
    rw [eR]
    refine byteL.app ?_ ih
    by_cases q : dF X Y (24 * row) 24 0 = -1
    · rw [if_pos q]
      exact fun v hv => by cases hv
    · obtain ⟨f, l, e1, e2, e3, e4⟩ := dFL X Y (24 * row) q
      rw [if_neg q, e1, e2, Int.toNat_natCast, Int.toNat_natCast]
      unfold dRow
      refine byteL.app ?_ (dCs_byte _ _ _ (fun k hk => hY k ?_))
      · intro v hv
        simp only [List.mem_cons, List.mem_nil_iff, or_false] at hv
        rcases hv with rfl | rfl | rfl | rfl
        · omega
        · split <;> omega
        · omega
        · omega
      · revert hk
        split <;> intro hk <;> omega
theorem dDiff_byte (hY : ∀ k, k < 192 → 0 ≤ Y k ∧ Y k < 512) : byteL (dDiff X Y) := by
  have hk8 : dSh X Y ≤ 8 := dBest_r X Y 8 1 0 _ (by omega) (by omega)
  intro v hv
  rcases List.mem_cons.mp hv with rfl | hv
  · omega
  · exact dRows_byte hY 8 0 (by omega) v hv
theorem dDiff_len : (dDiff X Y).length ≤ 417 := by
  have := dRows_len (scr (dSh X Y) X) Y 8 0
  show (dRows (scr (dSh X Y) X) Y 8 0).length + 1 ≤ 417
  omega
theorem seld_len : (seld ys).length = ys.length + 2 := by
  unfold seld two
  rw [List.length_append]
  rfl
theorem seld_byte (h : byteL ys) : byteL (seld ys) := by
  have := sm_in ys
  exact byteL.app h (two_byte (by omega) (by omega))
theorem num_bt {xs : List Int} {i : Nat} : num xs i = 256 * bt xs i + bt xs (i + 1) := rfl
theorem seld_whole {kind : Int} (h0 : bt ys 0 = kind) (hl : 1 ≤ ys.length) : wholeL kind (seld ys) := by
  have hs := sm_in ys
  refine ⟨?_, ?_⟩
  · show bt (seld ys) 0 = kind
    unfold seld
    rw [bt_left (by omega)]
    exact h0
  · rw [seld_len, show ys.length + 2 - 2 = ys.length by omega, num_bt]
    unfold seld
    rw [show bt (ys ++ two (sm ys)) ys.length = bt (two (sm ys)) 0 from bt_app ys _ 0, bt_app ys _ 1, List.take_left]
    show sm ys = 256 * (sm ys / 256) + sm ys % 256
    omega
theorem sHd_byte {ad su nu tk r q : Int} (b1 : 0 ≤ ad ∧ ad < 256) (b2 : 0 ≤ su ∧ su < 65536) (b3 : 0 ≤ nu ∧ nu < 65536) (b4 : 0 ≤ tk ∧ tk < 65536) (b5 : 0 ≤ r ∧ r < 256) (b6 : 0 ≤ q ∧ q < 256) : byteL (sHd ad su nu tk r q) := by
  intro v hv
  unfold sHd two at hv
  simp only [List.cons_append, List.nil_append, List.mem_cons, List.mem_nil_iff, or_false] at hv
  omega
theorem far_let {ad su nu tk r q T : Int} (b1 : 0 ≤ ad ∧ ad < 256) (b2 : 0 ≤ su ∧ su < 65536) (b3 : 0 ≤ nu ∧ nu < 65536) (b4 : 0 ≤ tk ∧ tk < 65536) (b5 : 0 ≤ r ∧ r < 8) (b6 : 0 ≤ q ∧ q < 24) (h1 : su ≤ nu) (h2 : nu ≤ su + 31) (h3 : tk ≤ T) (hY : ∀ k, k < 192 → 0 ≤ Y k ∧ Y k < 512) :
    let1 T (seld (sHd ad su nu tk r q ++ dDiff X Y)) := by
  have hk8 : dSh X Y ≤ 8 := dBest_r X Y 8 1 0 _ (by omega) (by omega)
  have hl := dDiff_len (X := X) (Y := Y)
  have hl0 : (sHd ad su nu tk r q ++ dDiff X Y).length = 10 + (dDiff X Y).length := by
    rw [List.length_append]
    rfl
  have hl1 : 1 ≤ (dDiff X Y).length := by
    show 1 ≤ (dRows _ _ 8 0).length + 1
    omega
  have hby : byteL (sHd ad su nu tk r q ++ dDiff X Y) := byteL.app (sHd_byte b1 b2 b3 b4 (by omega) (by omega)) (dDiff_byte hY)
  have eb : ∀ j, j < 11 → bt (seld (sHd ad su nu tk r q ++ dDiff X Y)) j = bt (sHd ad su nu tk r q ++ dDiff X Y) j := fun j hj => bt_left (by omega)
  have e0 : bt (sHd ad su nu tk r q ++ dDiff X Y) 0 = 83 := rfl
  have e2 : num (seld (sHd ad su nu tk r q ++ dDiff X Y)) 2 = su := by
    rw [num_bt, eb 2 (by omega), eb 3 (by omega)]
    show 256 * (su / 256) + su % 256 = su
    omega
  have e4 : num (seld (sHd ad su nu tk r q ++ dDiff X Y)) 4 = nu := by
    rw [num_bt, eb 4 (by omega), eb 5 (by omega)]
    show 256 * (nu / 256) + nu % 256 = nu
    omega
  have e6 : num (seld (sHd ad su nu tk r q ++ dDiff X Y)) 6 = tk := by
    rw [num_bt, eb 6 (by omega), eb 7 (by omega)]
    show 256 * (tk / 256) + tk % 256 = tk
    omega
  refine ⟨seld_byte hby, seld_whole e0 (by omega), ?_, ?_, by rw [e6]; exact h3, by rw [e2, e4]; exact h1, by rw [e2, e4]; exact h2, ?_, ?_, ?_, ?_⟩
  · rw [seld_len, hl0]; omega
  · rw [seld_len, hl0]; omega
  · rw [eb 8 (by omega)]
    show r < 8
    omega
  · rw [eb 9 (by omega)]
    show q < 24
    omega
  · rw [eb 10 (by omega)]
    show ((dSh X Y : Nat) : Int) ≤ 8
    omega
  · have := wf_rows (X := scr (dSh X Y) X) (s := sm (sHd ad su nu tk r q ++ dDiff X Y)) hY 8 0 (seld (sHd ad su nu tk r q ++ dDiff X Y)).length (sHd ad su nu tk r q ++ [((dSh X Y : Nat) : Int)]) (by omega) (by rw [seld_len, hl0]; omega)
    have e : sHd ad su nu tk r q ++ [((dSh X Y : Nat) : Int)] ++ (dRows (scr (dSh X Y) X) Y 8 0 ++ two (sm (sHd ad su nu tk r q ++ dDiff X Y))) = seld (sHd ad su nu tk r q ++ dDiff X Y) := by
      show _ = (sHd ad su nu tk r q ++ ([((dSh X Y : Nat) : Int)] ++ dRows (scr (dSh X Y) X) Y 8 0)) ++ two _
      simp only [List.append_assoc]
    rw [e] at this
    exact this
theorem kL_byte {K : Nat → Int} : ∀ (d i : Nat), (∀ k, i ≤ k → k < i + d → 0 ≤ K k ∧ K k < 256) → byteL (kL K d i)
  | 0, _, _ => fun v hv => by cases hv
  | d + 1, i, h => by
    intro v hv
    rcases List.mem_cons.mp hv with rfl | hv
    · exact h i (by omega) (by omega)
    · exact kL_byte d (i + 1) (fun k h1 h2 => h k (by omega) (by omega)) v hv
theorem kHd_byte {ad kn ty nu : Int} (b1 : 0 ≤ ad ∧ ad < 256) (b2 : 0 ≤ kn ∧ kn < 65536) (b3 : 0 ≤ ty ∧ ty < 65536) (b4 : 0 ≤ nu ∧ nu < 65536) : byteL (kHd ad kn ty nu) := by
  intro v hv
  unfold kHd two at hv
  simp only [List.cons_append, List.nil_append, List.mem_cons, List.mem_nil_iff, or_false] at hv
  omega
theorem near_let {K : Nat → Int} {ad nu T : Int} {kn ty : Nat} (b1 : 0 ≤ ad ∧ ad < 256) (hk : kn ≤ ty) (ht : ty ≤ 1000) (b4 : 0 ≤ nu ∧ nu < 65536) (hT : (ty : Int) ≤ T) (hK : ∀ k, k < ty → 0 ≤ K k ∧ K k < 256) :
    let0 T (seld (kHd ad kn ty nu ++ kL K (ty - kn) kn)) ∧ byteL (kHd ad kn ty nu ++ kL K (ty - kn) kn) ∧ (kHd ad kn ty nu ++ kL K (ty - kn) kn).length = 8 + (ty - kn) := by
  have hl0 : (kHd ad kn ty nu ++ kL K (ty - kn) kn).length = 8 + (ty - kn) := by
    rw [List.length_append, kL_len]
    rfl
  have hby : byteL (kHd ad kn ty nu ++ kL K (ty - kn) kn) := byteL.app (kHd_byte b1 (by omega) (by omega) b4) (kL_byte _ _ (fun k h1 h2 => hK k (by omega)))
  have eb : ∀ j, j < 8 → bt (seld (kHd ad kn ty nu ++ kL K (ty - kn) kn)) j = bt (kHd ad kn ty nu ++ kL K (ty - kn) kn) j := fun j hj => bt_left (by omega)
  have e2 : num (seld (kHd ad kn ty nu ++ kL K (ty - kn) kn)) 2 = kn := by
    rw [num_bt, eb 2 (by omega), eb 3 (by omega)]
    show 256 * ((kn : Int) / 256) + (kn : Int) % 256 = kn
    omega
  have e4 : num (seld (kHd ad kn ty nu ++ kL K (ty - kn) kn)) 4 = ty := by
    rw [num_bt, eb 4 (by omega), eb 5 (by omega)]
    show 256 * ((ty : Int) / 256) + (ty : Int) % 256 = ty
    omega
  refine ⟨⟨seld_byte hby, seld_whole rfl (by omega), ?_, by rw [e2, e4]; omega, by rw [e4]; exact hT⟩, hby, hl0⟩
  rw [seld_len, hl0, e2, e4]
  omega
end sLet
