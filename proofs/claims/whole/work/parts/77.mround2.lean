/-! THE MODEL: round, roam, and the calls that write to the far screen -/
def roamS (c : cg) : cg := vS (vS c 18 (if c.1 18 = 255 then 1 else c.1 18 + 1)) 17 1
section mRound2
variable {h : zH} {I : Nat → Int} {A A' : Nat → Nat → Int} {c : cg} {l : lg} {Q : Option zV → zH → Prop} {B : Int} {xs : List Int}
theorem settS_13 : (settS c).1 13 = c.1 13 := by
  unfold settS
  split <;> rfl
theorem byFarS_13 : (byFarS c xs).1 13 = c.1 13 := by
  unfold byFarS fOwes fAddr fSure
  split
  · split <;> split <;> split <;> rfl
  · rfl
theorem nAdd_13 : (nAdd c xs).1 13 = c.1 13 := by
  unfold nAdd
  split
  · rw [settS_13]
    rfl
  · rfl
theorem nOwes_13 {t : Int} : (nOwes c t).1 13 = c.1 13 := by
  unfold nOwes
  split <;> rfl
theorem byNearS_13 : (byNearS c xs).1 13 = c.1 13 := by
  unfold byNearS
  split
  · split
    · rw [nOwes_13]
      rfl
    · rw [nOwes_13, vS_n (by decide), nAdd_13]
      rfl
  · rfl
theorem takenS_13 {j : Nat} : (takenS c j xs).1 13 = c.1 13 := by
  unfold takenS
  split
  · exact byFarS_13
  · exact byNearS_13
theorem Good.cut {j : Nat} (hG : Good B c l) : Good B c (fun i => if i = j then [] else l i) := by
  obtain ⟨gv, g2, g3, g6, g7, g8, g9, g10⟩ := hG
  refine ⟨gv, g2, g3, g6, g7, fun i hi => ?_, fun ys hy => ?_, fun ys hy => ?_⟩
  · show (if i = j then [] else l i).length ≤ 40
    split
    · exact Nat.zero_le _
    · exact g8 i hi
  · have hy' : ys ∈ (if 0 = j then [] else l 0) := hy
    by_cases e : 0 = j
    · rw [if_pos e] at hy'
      cases hy'
    · rw [if_neg e] at hy'
      exact g9 ys hy'
  · have hy' : ys ∈ (if 1 = j then [] else l 1) := hy
    by_cases e : 1 = j
    · rw [if_pos e] at hy'
      cases hy'
    · rw [if_neg e] at hy'
      exact g10 ys hy'
theorem good_fold {j : Nat} : ∀ (ys : List (List Int)) {c : cg} {B : Int} {l : lg}, Good B c l → (∀ xs ∈ ys, letJ (c.1 13) j xs) → Good (B + ys.length) (foldT c j ys) l
  | [], c, B, l, hG, _ => by
    show Good (B + ((0 : Nat) : Int)) c l
    exact hG.mono (by omega)
  | x :: ys, c, B, l, hG, hl => by
    have G1 := good_takenS hG (hl x List.mem_cons_self)
    have := good_fold (j := j) ys G1 (fun xs hx => by rw [takenS_13]; exact hl xs (List.mem_cons_of_mem _ hx))
    show Good _ (foldT (takenS c j x) j ys) l
    refine this.mono ?_
    rw [List.length_cons]
    omega
theorem fold_13 {j : Nat} : ∀ (ys : List (List Int)) {c : cg}, (foldT c j ys).1 13 = c.1 13
  | [], _ => rfl
  | x :: ys, c => (fold_13 ys (c := takenS c j x)).trans takenS_13
theorem good_round (hG : Good B c l) (hB : B ≤ 50000) : Good (B + 90) (roundS c l).1 (roundS c l).2 := by
  have G1 := good_tick hG hB
  have g8 := G1.2.2.2.2.2.1
  have l0 := g8 0 (by decide)
  have l1 := g8 1 (by decide)
  have G2 := good_fold (j := 0) ((tickS c l).2 0) G1 (fun xs hx => G1.2.2.2.2.2.2.1 xs hx)
  have G3 := good_fold (j := 1) ((tickS c l).2 1) G2 (fun xs hx => by rw [fold_13]; exact G1.2.2.2.2.2.2.2 xs hx)
  have G4 : Good (B + 90) (roundS c l).1 (fun i => if i = 1 then [] else (fun i => if i = 0 then [] else (tickS c l).2 i) i) := (Good.cut (Good.cut G3)).mono (by omega)
  have e : (roundS c l).2 = fun i => if i = 1 then [] else (fun i => if i = 0 then [] else (tickS c l).2 i) i := by
    funext i
    show (if i < 2 then [] else (tickS c l).2 i) = if i = 1 then [] else if i = 0 then [] else (tickS c l).2 i
    by_cases z : i < 2
    · rw [if_pos z]
      by_cases y : i = 1
      · rw [if_pos y]
      · rw [if_neg y, if_pos (by omega)]
    · rw [if_neg z, if_neg (by omega), if_neg (by omega)]
  rw [e]
  exact G4
theorem m_round_l {j : Nat} (hm : mOK h) (hj : j < 2) : ∀ (ys : List (List Int)) (I : Nat → Int) (A : Nat → Nat → Int) (c : cg) (l : lg) (n B : Int), l j = ys → RepR I A c l → Good B c l → B + ys.length ≤ 1000000 → 0 ≤ n → n + ys.length ≤ 1000 →
    (∀ I' A', RepR I' A' (foldT c j ys) (fun i => if i = j then [] else l i) → zE 153 47 [some (.inr 29), some (.inl (n + ys.length)), some (.inl (j : Int))] [] (zM h I' A') Q) →
    zE 153 14 [some (.inr 29), some (.inl n), some (.inl (j : Int))] [] (zM h I A) Q := by
  intro ys
  induction ys with
  | nil =>
    intro I A c l n B hl hR hG hB n0 n1 hQ
    have h38 := (hR.2.2.2.2.2.2 j hj).1
    rw [hl] at h38
    have e : (fun i => if i = j then [] else l i) = l := by
      funext i
      by_cases z : i = j
      · rw [if_pos z, z, hl]
      · rw [if_neg z]
    have q := hQ I A
    rw [e] at q
    rw [yX11_round_14 hm, Int.toNat_natCast, h38, if_pos (by simp)]
    refine ⟨⟨by omega, by omega⟩, ?_⟩
    have := q hR
    rw [List.length_nil, show n + ((0 : Nat) : Int) = n by omega] at this
    exact this
  | cons x ys ih =>
    intro I A c l n B hl hR hG hB n0 n1 hQ
    have h38 := (hR.2.2.2.2.2.2 j hj).1
    have g8 := hG.2.2.2.2.2.1
    have g8j := g8 j hj
    have gv := hG.1
    have hV : c.1 12 ≤ 33 ∧ c.1 20 ≤ 33 := by unfold gV at gv; omega
    have hlen : (l j).length = ys.length + 1 := by rw [hl, List.length_cons]
    have ex : (l j).getD 0 [] = x := by rw [hl]; rfl
    have hlet := hG.letJ hj (k := 0) (by omega)
    rw [ex] at hlet
    have e1 : outL l j 0 j = ys := by
      show (if j = j then (l j).eraseIdx 0 else l j) = ys
      rw [if_pos rfl, hl]
      rfl
    have e2 : (fun i => if i = j then [] else outL l j 0 i) = fun i => if i = j then [] else l i := by
      funext i
      by_cases z : i = j
      · rw [if_pos z, if_pos z]
      · rw [if_neg z, if_neg z]
        exact if_neg z
    rw [List.length_cons] at hQ hB n1
    rw [yX11_round_14 hm, Int.toNat_natCast, h38, if_neg (by omega), yX11_round_23 hm]
    refine ⟨⟨by omega, by omega⟩, m_hand (k := 0) hm hR hj (by omega) (by omega) ?_⟩
    intro g hg
    rw [ex] at hg ⊢
    simp only [Option.toList_none, List.nil_append]
    have R1 : RepR (fup I 674 (x.length : Nat)) (hW A g) c l := hR.fr hV.1 hV.2 (fun f q => fup_n (by omega)) (fun a i q => hW_o (by unfold live at q; omega))
    rw [yX11_round_29 hm]
    refine m_drops (k := 0) hm R1 hj (by omega) g8 ?_
    intro A2 R2 h41
    simp only [Option.toList_none, List.nil_append]
    rw [yX11_round_35 hm]
    refine m_taken (xs := x) hm R2 (hG.out hj) (by omega) hj (fun i v z => (h41 i).trans (hW_s.trans (hg i v z))) fup_s hlet ?_
    intro I3 A3 R3
    simp only [Option.toList_none, List.nil_append]
    rw [yX11_round_41 hm, zw_eq (by omega) (by omega)]
    refine ih I3 A3 (takenS c j x) (outL l j 0) (n + 1) (B + 1) e1 R3 (good_takenS (hG.out hj) hlet) (by omega) (by omega) ?_ ?_
    · omega
    · intro I4 A4 R4
      rw [e2] at R4
      have := hQ I4 A4 R4
      rw [show n + 1 + (ys.length : Int) = n + ((ys.length + 1 : Nat) : Int) by omega]
      exact this
theorem m_round (hm : mOK h) (hR : RepR I A c l) (hG : Good B c l) (hB : B ≤ 50000)
    (hQ : ∀ I' A', RepR I' A' (roundS c l).1 (roundS c l).2 → Q (some (.inl (((((tickS c l).2 0).length + ((tickS c l).2 1).length : Nat)) : Int))) (zM h I' A')) {l1 l2 : Option zV} :
    zE 153 0 [some (.inr 29), l1, l2] [] (zM h I A) Q := by
  have G1 := good_tick hG hB
  have g8 := G1.2.2.2.2.2.1
  have l0 := g8 0 (by decide)
  have l1' := g8 1 (by decide)
  have G2 := good_fold (j := 0) ((tickS c l).2 0) G1 (fun xs hx => G1.2.2.2.2.2.2.1 xs hx)
  rw [yX11_round_0 hm]
  refine m_tick hm hR hG hB ?_
  intro I1 A1 R1
  simp only [Option.toList_some, List.cons_append, List.nil_append]
  rw [yX11_round_4 hm, yX11_round_9 hm, if_neg (by decide)]
  refine m_round_l (j := 0) hm (by decide) ((tickS c l).2 0) I1 A1 _ _ 0 (B + 3) rfl R1 G1 (by omega) (by omega) (by omega) ?_
  intro I2 A2 R2
  rw [yX11_round_47 hm, zw_eq (by decide) (by decide), yX11_round_9 hm, if_neg (by decide)]
  have e1 : (fun i => if i = 0 then [] else (tickS c l).2 i) 1 = (tickS c l).2 1 := rfl
  refine m_round_l (j := 1) hm (by decide) ((tickS c l).2 1) I2 A2 (foldT (tickS c l).1 0 ((tickS c l).2 0)) (fun i => if i = 0 then [] else (tickS c l).2 i) (0 + ((tickS c l).2 0).length) (B + 3 + ((tickS c l).2 0).length) e1 R2 (Good.cut (j := 0) G2) (by omega) (by omega) (by omega) ?_
  intro I3 A3 R3
  rw [yX11_round_47 hm, zw_eq (by decide) (by decide), yX11_round_9 hm, if_pos (by decide), yX11_round_53 hm]
  have e : (roundS c l).2 = fun i => if i = 1 then [] else (fun i => if i = 0 then [] else (tickS c l).2 i) i := by
    funext i
    show (if i < 2 then [] else (tickS c l).2 i) = if i = 1 then [] else if i = 0 then [] else (tickS c l).2 i
    by_cases z : i < 2
    · rw [if_pos z]
      by_cases y : i = 1
      · rw [if_pos y]
      · rw [if_neg y, if_pos (by omega)]
    · rw [if_neg z, if_neg (by omega), if_neg (by omega)]
  rw [e] at hQ
  have := hQ I3 A3 R3
  rw [show (0 : Int) + ((tickS c l).2 0).length + ((tickS c l).2 1).length = (((((tickS c l).2 0).length + ((tickS c l).2 1).length : Nat)) : Int) by omega]
  exact this
theorem m_roam (hm : mOK h) (hR : RepR I A c l) (hG : Good B c l) (hQ : ∀ I' A', RepR I' A' (roamS c) l → Q (some (.inl ((roamS c).1 18))) (zM h I' A')) : zE 154 0 [some (.inr 29)] [] (zM h I A) Q := by
  have gv := hG.1
  have hV : 1 ≤ c.1 18 ∧ c.1 18 ≤ 255 := by unfold gV at gv; omega
  have i18 : I 667 = c.1 18 := hR.1.1 18 (by omega)
  have e21 : ∀ v, v = (if c.1 18 = 255 then 1 else c.1 18 + 1) → zE 154 21 [some (.inr 29)] [.inl v, .inr 29] (zM h I A) Q := by
    intro v hv
    subst hv
    have R1 := (hR.sI (k := 18) (v := if c.1 18 = 255 then 1 else c.1 18 + 1) (by decide) (by decide) (by decide) (by decide) (by decide) (by decide)).sI (k := 17) (v := 1) (by decide) (by decide) (by decide) (by decide) (by decide) (by decide)
    have e18 := R1.1.1 18 (by decide)
    rw [yX11_roam_21 hm, yX11_roam_24 hm, yX11_roam_29 hm]
    refine ⟨Or.inr rfl, ?_⟩
    have := hQ _ _ R1
    have e18' : fup (fup I 667 (if c.1 18 = 255 then 1 else c.1 18 + 1)) 666 1 667 = (roamS c).1 18 := e18
    rw [e18']
    exact this
  rw [yX11_roam_0 hm, i18]
  by_cases q : c.1 18 = 255
  · rw [if_neg (fun z => z q), yX11_roam_11 hm]
    exact e21 1 (by rw [if_pos q])
  · rw [if_pos q, yX11_roam_15 hm, i18, zw_eq (by omega) (by omega)]
    exact e21 _ (by rw [if_neg q])
def progS (c : cg) (p : Int) : cg := if 0 ≤ p ∧ p ≤ 3 then vS (vS c 3 p) 4 0 else c
def penS (c : cg) (p : Int) : cg := if 0 ≤ p ∧ p ≤ 3 then vS c 5 p else c
def writeS (c : cg) (s : Int) : cg := if 32 ≤ s ∧ s ≤ 126 then xS c (s_put (128 * c.1 5 + s) c.2.1) else if s = 13 then xS c (s_nl c.2.1) else if s = 8 then xS c (s_rub c.2.1) else c
def moveS (c : cg) (r q : Int) : cg := if 0 ≤ r ∧ r < 8 ∧ 0 ≤ q ∧ q < 24 then xS c (c.2.1.1, r, q) else c
def wipeS (c : cg) (r : Int) : cg := if 0 ≤ r ∧ r < 8 then xS c (s_row r 32 c.2.1.1, c.2.1.2) else c
def scrollS (c : cg) (n : Int) : cg := if 1 ≤ n ∧ n ≤ 8 then xS c (scr n.toNat c.2.1.1, c.2.1.2) else c
theorem m_isCell {r q : Int} (hQ : Q (some (.inl (if 0 ≤ r ∧ r < 8 ∧ 0 ≤ q ∧ q < 24 then 1 else 0))) h) : zE 123 0 [some (.inl r), some (.inl q)] [] h Q := by
  simp only [xX11_isCell_0, xX11_isCell_4, xX11_isCell_10, xX11_isCell_14, xX11_isCell_20, xX11_isCell_24, xX11_isCell_25]
  by_cases hi : 0 ≤ r ∧ r < 8 ∧ 0 ≤ q ∧ q < 24
  · rw [if_neg (by omega), if_neg (by omega), if_neg (by omega), if_neg (by omega)]
    rw [if_pos hi] at hQ
    exact ⟨Or.inr trivial, hQ⟩
  · rw [if_neg hi] at hQ
    (repeat' split) <;> first | exact ⟨Or.inl trivial, hQ⟩ | omega
theorem m_program {p : Int} (hm : mOK h) (hR : RepR I A c l) (hQ : ∀ I', RepR I' A (progS c p) l → Q (some (.inl (if 0 ≤ p ∧ p ≤ 3 then c.1 3 else -1))) (zM h I' A)) {l2 : Option zV} : zE 121 0 [some (.inr 29), some (.inl p), l2] [] (zM h I A) Q := by
  have i3 : I 647 = c.1 3 := hR.1.1 3 (by omega)
  unfold progS at hQ
  rw [yX11_program_0 hm]
  by_cases q : 0 ≤ p ∧ p ≤ 3
  · rw [if_pos q, if_pos q] at hQ
    rw [if_neg (by omega), yX11_program_4 hm, if_pos (by omega), yX11_program_11 hm, i3, yX11_program_21 hm, yX11_program_26 hm]
    exact hQ _ ((hR.sI (k := 3) (v := p) (by decide) (by decide) (by decide) (by decide) (by decide) (by decide)).sI (k := 4) (v := 0) (by decide) (by decide) (by decide) (by decide) (by decide) (by decide))
  · rw [if_neg q, if_neg q] at hQ
    by_cases z : p < 0
    · rw [if_pos z, yX11_program_9 hm]
      exact hQ _ hR
    · rw [if_neg z, yX11_program_4 hm, if_neg (by omega), yX11_program_9 hm]
      exact hQ _ hR
theorem m_pen {p : Int} (hm : mOK h) (hR : RepR I A c l) (hQ : ∀ I', RepR I' A (penS c p) l → Q (some (.inl (if 0 ≤ p ∧ p ≤ 3 then c.1 5 else -1))) (zM h I' A)) {l2 : Option zV} : zE 127 0 [some (.inr 29), some (.inl p), l2] [] (zM h I A) Q := by
  have i5 : I 646 = c.1 5 := hR.1.1 5 (by omega)
  unfold penS at hQ
  rw [yX11_pen_0 hm]
  by_cases q : 0 ≤ p ∧ p ≤ 3
  · rw [if_pos q, if_pos q] at hQ
    rw [if_neg (by omega), yX11_pen_4 hm, if_pos (by omega), yX11_pen_11 hm, i5, yX11_pen_21 hm]
    exact hQ _ (hR.sI (k := 5) (v := p) (by decide) (by decide) (by decide) (by decide) (by decide) (by decide))
  · rw [if_neg q, if_neg q] at hQ
    by_cases z : p < 0
    · rw [if_pos z, yX11_pen_9 hm]
      exact hQ _ hR
    · rw [if_neg z, yX11_pen_4 hm, if_neg (by omega), yX11_pen_9 hm]
      exact hQ _ hR
theorem m_move {r q : Int} (hm : mOK h) (hR : RepR I A c l) (hQ : ∀ A', RepR I A' (moveS c r q) l → Q (some (.inl (if 0 ≤ r ∧ r < 8 ∧ 0 ≤ q ∧ q < 24 then 1 else 0))) (zM h I A')) : zE 124 0 [some (.inr 29), some (.inl r), some (.inl q)] [] (zM h I A) Q := by
  unfold moveS at hQ
  rw [yX11_move_0 hm]
  refine m_isCell ?_
  simp only [Option.toList_some, List.cons_append, List.nil_append]
  rw [yX11_move_5 hm]
  by_cases z : 0 ≤ r ∧ r < 8 ∧ 0 ≤ q ∧ q < 24
  · rw [if_pos z, if_pos z] at hQ
    have eA : A = mW A 0 c.2.1 := (mW_id hR.2.1).symm
    rw [if_pos z, if_pos (by decide), eA, yX11_move_10 hm, mW_row, yX11_move_17 hm, mW_col, yX11_move_24 hm]
    exact ⟨Or.inr rfl, hQ _ hR.sX⟩
  · rw [if_neg z, if_neg z] at hQ
    rw [if_neg z, if_neg (fun y => y rfl), yX11_move_8 hm]
    exact ⟨Or.inl rfl, hQ _ hR⟩
theorem m_wipe {r : Int} (hm : mOK h) (hR : RepR I A c l) (hQ : ∀ A', RepR I A' (wipeS c r) l → Q (some (.inl (if 0 ≤ r ∧ r < 8 then 1 else 0))) (zM h I A')) : zE 125 0 [some (.inr 29), some (.inl r)] [] (zM h I A) Q := by
  unfold wipeS at hQ
  rw [yX11_wipe_0 hm]
  refine m_isCell ?_
  simp only [Option.toList_some, List.cons_append, List.nil_append]
  rw [yX11_wipe_5 hm]
  by_cases z : 0 ≤ r ∧ r < 8
  · rw [if_pos z, if_pos z] at hQ
    obtain ⟨k, rfl⟩ : ∃ n : Nat, r = n := ⟨r.toNat, by omega⟩
    have eA : A = mW A 0 c.2.1 := (mW_id hR.2.1).symm
    rw [if_pos (by omega), eA, yX11_wipe_10 hm, zw_eq (x := 24 * (k : Int)) (by omega) (by omega), zw_eq (by omega) (by omega)]
    have key := m_blank (h := h) (I := I) (A := A) (s := 0) (X := c.2.1) (fr := 24 * k) (to := 24 * k + 24) (l4 := none) (Q := fun r h' => zE 125 26 [some (.inr 29), some (.inl (k : Int))] (r.toList ++ []) h' Q) hm (by omega) (by omega) (by omega) ?_
    · rw [show ((24 * k : Nat) : Int) = 24 * (k : Int) by omega, show ((24 * k + 24 : Nat) : Int) = 24 * (k : Int) + 24 by omega] at key
      exact key
    · simp only [Option.toList_none, List.nil_append]
      rw [yX11_wipe_26 hm]
      have e4 : (fun j => if 24 * k ≤ j ∧ j < 24 * k + 24 then (32 : Int) else c.2.1.1 j) = s_row (k : Int) 32 c.2.1.1 := by
        funext j
        unfold s_row
        by_cases y : 24 * k ≤ j ∧ j < 24 * k + 24
        · rw [if_pos y, if_pos (by omega)]
        · rw [if_neg y, if_neg (by omega)]
      rw [e4]
      exact ⟨Or.inr rfl, hQ _ hR.sX⟩
  · rw [if_neg z, if_neg z] at hQ
    rw [if_neg (by omega), yX11_wipe_8 hm]
    exact ⟨Or.inl rfl, hQ _ hR⟩
theorem m_scroll {n : Int} (hm : mOK h) (hR : RepR I A c l) (hQ : ∀ A', RepR I A' (scrollS c n) l → Q (some (.inl (if 1 ≤ n ∧ n ≤ 8 then 1 else 0))) (zM h I A')) : zE 126 0 [some (.inr 29), some (.inl n)] [] (zM h I A) Q := by
  unfold scrollS at hQ
  rw [yX11_scroll_0 hm]
  by_cases z : 1 ≤ n ∧ n ≤ 8
  · rw [if_pos z, if_pos z] at hQ
    obtain ⟨k, rfl⟩ : ∃ k : Nat, n = k := ⟨n.toNat, by omega⟩
    have eA : A = mW A 0 c.2.1 := (mW_id hR.2.1).symm
    rw [if_neg (by omega), yX11_scroll_5 hm, if_pos (by omega), eA, yX11_scroll_13 hm]
    refine m_scrolls (s := 0) (n := k) hm (by omega) (by omega) ?_
    simp only [Option.toList_none, List.nil_append]
    rw [yX11_scroll_19 hm]
    rw [Int.toNat_natCast] at hQ
    exact ⟨Or.inr rfl, hQ _ hR.sX⟩
  · rw [if_neg z, if_neg z] at hQ
    by_cases y : n < 1
    · rw [if_pos y, yX11_scroll_11 hm]
      exact ⟨Or.inl rfl, hQ _ hR⟩
    · rw [if_neg y, yX11_scroll_5 hm, if_neg (by omega), yX11_scroll_11 hm]
      exact ⟨Or.inl rfl, hQ _ hR⟩
theorem m_write {s : Int} (hm : mOK h) (hR : RepR I A c l) (hin : s_in c.2.1) (hQ : ∀ A', RepR I A' (writeS c s) l → Q (some (.inl (if (32 ≤ s ∧ s ≤ 126) ∨ s = 13 ∨ s = 8 then 1 else 0))) (zM h I A')) : zE 122 0 [some (.inr 29), some (.inl s)] [] (zM h I A) Q := by
  have i5 : I 646 = c.1 5 := hR.1.1 5 (by omega)
  have eA : A = mW A 0 c.2.1 := (mW_id hR.2.1).symm
  have e38 : ∀ A', RepR I A' (writeS c s) l → zE 122 38 [some (.inr 29), some (.inl s)] [] (zM h I A') Q := by
    intro A' R
    have q := hQ A' R
    rw [yX11_write_38 hm]
    refine m_isLetter ?_
    simp only [Option.toList_some, List.cons_append, List.nil_append]
    rw [yX11_write_42 hm]
    by_cases a : 32 ≤ s ∧ s ≤ 126
    · rw [if_pos (Or.inl a)] at q
      rw [if_pos a, if_pos (by decide), yX11_write_57 hm, yX11_write_62 hm]
      exact ⟨Or.inr rfl, q⟩
    · rw [if_neg a, if_neg (fun y => y rfl), yX11_write_45 hm]
      by_cases b : s = 13
      · rw [if_pos (Or.inr (Or.inl b))] at q
        rw [if_pos b, yX11_write_57 hm, yX11_write_62 hm]
        exact ⟨Or.inr rfl, q⟩
      · rw [if_neg b, yX11_write_51 hm]
        by_cases d : s = 8
        · rw [if_pos (Or.inr (Or.inr d))] at q
          rw [if_neg (fun y => y d), yX11_write_57 hm, yX11_write_62 hm]
          exact ⟨Or.inr rfl, q⟩
        · rw [if_neg (by omega)] at q
          rw [if_pos d, yX11_write_61 hm, yX11_write_62 hm]
          exact ⟨Or.inl rfl, q⟩
  rw [yX11_write_0 hm]
  refine m_isLetter ?_
  simp only [Option.toList_some, List.cons_append, List.nil_append]
  rw [yX11_write_4 hm]
  unfold writeS at e38
  by_cases a : 32 ≤ s ∧ s ≤ 126
  · rw [if_pos a] at e38 ⊢
    rw [if_neg (by decide), yX11_write_7 hm, eA]
    refine m_puts (pen := c.1 5) hm hin (by omega) i5 ?_
    simp only [Option.toList_none, List.nil_append]
    rw [yX11_write_12 hm]
    exact e38 _ hR.sX
  · rw [if_neg a] at e38 ⊢
    rw [if_pos rfl, yX11_write_15 hm]
    by_cases b : s = 13
    · rw [if_pos b] at e38
      rw [if_neg (fun y => y b), yX11_write_21 hm, eA]
      refine m_newLine hm ⟨hin.1, hin.2.1⟩ ?_
      simp only [Option.toList_none, List.nil_append]
      rw [yX11_write_25 hm]
      exact e38 _ hR.sX
    · rw [if_neg b] at e38
      rw [if_pos b, yX11_write_28 hm]
      by_cases d : s = 8
      · rw [if_pos d] at e38
        rw [if_neg (fun y => y d), yX11_write_34 hm, eA]
        refine m_back hm hin ?_
        simp only [Option.toList_none, List.nil_append]
        exact e38 _ hR.sX
      · rw [if_neg d] at e38
        rw [if_pos d]
        exact e38 _ hR
end mRound2
