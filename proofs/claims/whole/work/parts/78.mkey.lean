/-! THE MODEL: a key typed -/
def keyC (c : cg) (k : Int) : cg := (fup c.1 13 (c.1 13 + 1), c.2.1, c.2.2.1, fup c.2.2.2.1 (c.1 13).toNat k, c.2.2.2.2)
def curR (c : cg) : Int := if c.1 21 ≤ 0 then (newN c).1.2.1 else c.2.2.2.2 (c.1 21 - 1).toNat 4
def curC (c : cg) : Int := if c.1 21 ≤ 0 then (newN c).1.2.2 else c.2.2.2.2 (c.1 21 - 1).toNat 5
def foreS (c : cg) (k : Int) : Nat × (Nat → Nat → Int) × Int := fore k (c.1 13 + 1) (curR c) (curC c) (c.1 21).toNat c.2.2.2.2 (c.1 23)
def keyS (c : cg) (k : Int) : cg := if c.1 3 = 2 then vS (keyC c k) 23 (c.1 23 + 1) else vS (setG (keyC c k) ((foreS c k).1 : Nat) (foreS c k).2.1) 23 (foreS c k).2.2
section mKey
variable {h : zH} {I : Nat → Int} {A A' : Nat → Nat → Int} {c : cg} {l : lg} {Q : Option zV → zH → Prop} {B : Int} {k : Int}
theorem RepR.sK {n : Nat} (hR : RepR I A c l) (hn : c.1 13 = n) : RepR (fup I 661 (n + 1)) (zu A 36 n k) (keyC c k) l := by
  obtain ⟨⟨a1, a2, a3⟩, a4, a5, a6, a7, a8, a9⟩ := hR
  have e12 : (keyC c k).1 12 = c.1 12 := rfl
  have e20 : (keyC c k).1 20 = c.1 20 := rfl
  have e21 : (keyC c k).1 21 = c.1 21 := rfl
  have e13 : (keyC c k).1 13 = c.1 13 + 1 := rfl
  refine ⟨⟨fun j hj => ?_, ?_, fun i hi => ?_⟩, mS_zu (by omega) a4, fun i hi => ?_, fun i hi => ?_, fun i hi => ?_, fun i hi q hq => ?_, fun j hj => ⟨(zu_na (by decide)).trans (a9 j hj).1, fun m hm => ?_⟩⟩
  · show fup I 661 (n + 1) (fM j) = fup c.1 13 (c.1 13 + 1) j
    by_cases e : j = 13
    · subst e
      rw [fup_s, hn]
      exact fup_s
    · have ne : fM j ≠ 661 := fun q => e (fM_inj j hj 13 (by omega) q)
      rw [fup_n e, fup_n ne]
      exact a1 j hj
  · show fup I 661 (n + 1) 659 = fup c.1 13 (c.1 13 + 1) 6
    rw [fup_n (by decide), fup_n (by decide)]
    exact a2
  · show zu A 36 n k 37 i = fup c.1 13 (c.1 13 + 1) (24 + i)
    rw [fup_n (by omega), zu_na (by decide)]
    exact a3 i hi
  · rw [e12] at hi
    obtain ⟨b1, b2, b3⟩ := a5 i hi
    exact ⟨mS_zu (by omega) b1, (zu_na (by decide)).trans b2, (zu_na (by decide)).trans b3⟩
  · rw [e20] at hi
    obtain ⟨b1, b2, b3⟩ := a6 i hi
    exact ⟨mS_zu (by omega) b1, (zu_na (by decide)).trans b2, (zu_na (by decide)).trans b3⟩
  · rw [e13] at hi
    show zu A 36 n k 36 i = fup c.2.2.2.1 (c.1 13).toNat k i
    rw [hn, Int.toNat_natCast]
    by_cases e : i = n
    · subst e
      rw [zu_s, fup_s]
    · rw [zu_ni e, fup_n e]
      exact a7 i (by omega)
  · rw [e21] at hi
    exact (zu_na (by omega)).trans (a8 i hi q hq)
  · obtain ⟨b1, b2, b3⟩ := (a9 j hj).2 m hm
    exact ⟨(zu_na (by decide)).trans b1, b2, fun i v hv => (zu_na (by decide)).trans (b3 i v hv)⟩
/-- one more guess -/
theorem m_guess {n : Nat} {ce le ro co : Int} (hm : mOK h) (hR : RepR I A c l) (hn : c.1 21 = n) (hn2 : n ≤ 60)
    (hQ : ∀ I' A', (n < 60 → RepR I' A' (setG c ((n + 1 : Nat) : Int) (fun i => if i = n then gq (c.1 13) (c.1 23) ce le ro co else c.2.2.2.2 i)) l) → (n = 60 → RepR I' A' c l) → Q none (zM h I' A')) :
    zE 155 0 [some (.inr 29), some (.inl ce), some (.inl le), some (.inl ro), some (.inl co)] [] (zM h I A) Q := by
  have i21 : I 677 = n := (hR.1.1 21 (by omega)).trans hn
  have i13 : I 661 = c.1 13 := hR.1.1 13 (by omega)
  have i23 : I 679 = c.1 23 := hR.1.1 23 (by omega)
  rw [yX11_guess_0 hm, i21]
  by_cases h60 : (n : Int) ≠ 60
  · rw [if_pos h60, yX11_guess_10 hm, i21, i13, Int.toNat_natCast, yX11_guess_23 hm, i21, i23, Int.toNat_natCast, yX11_guess_36 hm, i21, Int.toNat_natCast, yX11_guess_46 hm, i21, Int.toNat_natCast, yX11_guess_56 hm, i21, Int.toNat_natCast, yX11_guess_66 hm, i21, Int.toNat_natCast, yX11_guess_77 hm, i21, yX11_guess_87 hm, zw_eq (by omega) (by omega)]
    refine ⟨⟨by omega, by omega⟩, ⟨by omega, by omega⟩, ⟨by omega, by omega⟩, ⟨by omega, by omega⟩, ⟨by omega, by omega⟩, ⟨by omega, by omega⟩, hQ _ _ (fun _ => ?_) (fun z => absurd z (by omega))⟩
    refine hR.sG (fun a i z => ?_) (fun i hi q hq => ?_)
    · rw [zu_na (by omega), zu_na (by omega), zu_na (by omega), zu_na (by omega), zu_na (by omega), zu_na (by omega)]
    · have hG := hR.2.2.2.2.2.1
      by_cases e : i = n
      · subst e
        rw [if_pos rfl]
        have : q = 0 ∨ q = 1 ∨ q = 2 ∨ q = 3 ∨ q = 4 ∨ q = 5 := by omega
        rcases this with rfl | rfl | rfl | rfl | rfl | rfl
        · rw [zu_na (by decide), zu_na (by decide), zu_na (by decide), zu_na (by decide), zu_na (by decide), zu_s]; rfl
        · rw [zu_na (by decide), zu_na (by decide), zu_na (by decide), zu_na (by decide), zu_s]; rfl
        · rw [zu_na (by decide), zu_na (by decide), zu_na (by decide), zu_s]; rfl
        · rw [zu_na (by decide), zu_na (by decide), zu_s]; rfl
        · rw [zu_na (by decide), zu_s]; rfl
        · rw [zu_s]; rfl
      · rw [if_neg e, zu_ni e, zu_ni e, zu_ni e, zu_ni e, zu_ni e, zu_ni e]
        exact hG i (by omega) q hq
  · rw [if_neg h60, yX11_guess_9 hm]
    exact hQ _ _ (fun z => absurd z (by omega)) (fun _ => hR)
theorem cur_ok (hG : Good B c l) : 0 ≤ curR c ∧ curR c < 8 ∧ 0 ≤ curC c ∧ curC c < 24 := by
  have hN := hG.newN.1.1
  have gv := hG.1
  have hV : 0 ≤ c.1 21 ∧ c.1 21 ≤ 60 := by unfold gV at gv; omega
  unfold s_in at hN
  unfold curR curC
  by_cases q : c.1 21 ≤ 0
  · rw [if_pos q, if_pos q]
    exact hN
  · rw [if_neg q, if_neg q]
    have := hG.2.2.2.2.1 (c.1 21 - 1).toNat (by omega)
    unfold gOK at this
    omega
theorem m_key (hm : mOK h) (hR : RepR I A c l) (hG : Good B c l)
    (hQ : ∀ I' A', (keyOK k ∧ c.1 13 < 1000 → RepR I' A' (keyS c k) l → Q (some (.inl (c.1 13 + 1))) (zM h I' A')))
    (hN : ¬ (keyOK k ∧ c.1 13 < 1000) → Q (some (.inl (-1))) (zM h I A)) {l2 l3 l4 l5 l6 : Option zV} :
    zE 156 0 [some (.inr 29), some (.inl k), l2, l3, l4, l5, l6] [] (zM h I A) Q := by
  have gv := hG.1
  have hV : (0 ≤ c.1 13 ∧ c.1 13 ≤ 1000) ∧ (1 ≤ c.1 20 ∧ c.1 20 ≤ 32) ∧ (0 ≤ c.1 21 ∧ c.1 21 ≤ 60) ∧ (1 ≤ c.1 23 ∧ c.1 23 ≤ 3000) := by unfold gV at gv; omega
  have hcur := cur_ok hG
  obtain ⟨n, hn⟩ : ∃ n : Nat, c.1 13 = n := ⟨(c.1 13).toNat, by omega⟩
  obtain ⟨m, hm2⟩ : ∃ n : Nat, c.1 21 = n := ⟨(c.1 21).toNat, by omega⟩
  obtain ⟨w, hw⟩ : ∃ n : Nat, c.1 20 = n := ⟨(c.1 20).toNat, by omega⟩
  have i13 : I 661 = n := (hR.1.1 13 (by omega)).trans hn
  have i3 : I 647 = c.1 3 := hR.1.1 3 (by omega)
  have i23 : I 679 = c.1 23 := hR.1.1 23 (by omega)
  have i21 : I 677 = m := (hR.1.1 21 (by omega)).trans hm2
  have i20 : I 663 = w := (hR.1.1 20 (by omega)).trans hw
  have e34 : keyOK k → zE 156 34 [some (.inr 29), some (.inl k), l2, l3, l4, l5, l6] [.inl 1] (zM h I A) Q := by
    intro ok
    rw [yX11_key_34 hm, if_neg (by decide), yX11_key_39 hm, i13]
    by_cases q : (n : Int) = 1000
    · rw [if_neg (fun z => z q), yX11_key_49 hm]
      exact hN (by omega)
    · have q' := fun I' A' => hQ I' A' ⟨ok, by omega⟩
      unfold keyS at q'
      have R1 : RepR (fup I 661 (n + 1)) (zu A 36 n k) (keyC c k) l := hR.sK hn
      have j3 : fup I 661 ((n : Int) + 1) 647 = c.1 3 := (fup_n (by decide)).trans i3
      have j23 : fup I 661 ((n : Int) + 1) 679 = c.1 23 := (fup_n (by decide)).trans i23
      have j20 : fup I 661 ((n : Int) + 1) 663 = w := (fup_n (by decide)).trans i20
      have j21 : fup I 661 ((n : Int) + 1) 677 = m := (fup_n (by decide)).trans i21
      rw [if_pos q, yX11_key_51 hm, i13, Int.toNat_natCast, yX11_key_61 hm, i13, zw_eq (by omega) (by omega), yX11_key_71 hm, j3]
      refine ⟨⟨by omega, by omega⟩, ?_⟩
      by_cases p2 : c.1 3 = 2
      · rw [if_pos p2] at q'
        have R2 := R1.sI (k := 23) (v := c.1 23 + 1) (by decide) (by decide) (by decide) (by decide) (by decide) (by decide)
        have r13 := R2.1.1 13 (by decide)
        have r13' : fup (fup I 661 ((n : Int) + 1)) 679 (c.1 23 + 1) 661 = c.1 13 + 1 := r13
        rw [if_neg (fun z => z p2), yX11_key_79 hm, j23, zw_eq (by omega) (by omega), yX11_key_89 hm, r13']
        exact q' _ _ R2
      · rw [if_neg p2] at q'
        have e285 : ∀ I' A' l3 l4 l5 l6, RepR I' A' (vS (setG (keyC c k) ((foreS c k).1 : Nat) (foreS c k).2.1) 23 (foreS c k).2.2) l → zE 156 285 [some (.inr 29), some (.inl k), some (.inl 1), l3, l4, l5, l6] [] (zM h I' A') Q := by
          intro I' A' l3 l4 l5 l6 R
          have r13 : I' 661 = c.1 13 + 1 := R.1.1 13 (by decide)
          rw [yX11_key_285 hm, r13]
          exact q' _ _ R
        have hcR : (if c.1 21 ≤ 0 then (newN c).1.2.1 else c.2.2.2.2 (c.1 21 - 1).toNat 4) = curR c := rfl
        have hcC : (if c.1 21 ≤ 0 then (newN c).1.2.2 else c.2.2.2.2 (c.1 21 - 1).toNat 5) = curC c := rfl
        -- from the cursor on
        have e155 : ∀ l3 l5 l6, zE 156 155 [some (.inr 29), some (.inl k), some (.inl 1), l3, some (.inl (curR c)), l5, l6] [.inl (curC c)] (zM h (fup I 661 (n + 1)) (zu A 36 n k)) Q := by
          intro l3 l5 l6
          have eF : foreS c k = fore k (c.1 13 + 1) (curR c) (curC c) m c.2.2.2.2 (c.1 23) := by
            unfold foreS
            rw [hm2, Int.toNat_natCast]
          unfold fore at eF
          have k13 : (keyC c k).1 13 = c.1 13 + 1 := rfl
          have k23 : (keyC c k).1 23 = c.1 23 := rfl
          have kG : (keyC c k).2.2.2.2 = c.2.2.2.2 := rfl
          have k21 : (keyC c k).1 21 = m := hm2
          -- nothing but the age
          have same : ∀ v I' A', RepR I' A' (vS (keyC c k) 23 v) l → RepR I' A' (vS (setG (keyC c k) (m : Int) c.2.2.2.2) 23 v) l := by
            intro v I' A' R
            have := R.ext (V' := fup (fup (keyC c k).1 21 (m : Int)) 23 v) (fun j _ => by
              by_cases y : j = 23
              · subst y
                rw [fup_s]
                exact vS_s.symm
              · rw [fup_n y]
                show _ = fup (keyC c k).1 23 v j
                rw [fup_n y]
                by_cases z : j = 21
                · subst z
                  rw [fup_s]
                  exact k21.symm
                · rw [fup_n z])
            exact this
          have same0 : ∀ I' A', RepR I' A' (keyC c k) l → RepR I' A' (vS (setG (keyC c k) (m : Int) c.2.2.2.2) 23 (c.1 23)) l := by
            intro I' A' R
            refine same (c.1 23) I' A' ?_
            have e : vS (keyC c k) 23 (c.1 23) = keyC c k := by
              show (fup (keyC c k).1 23 (c.1 23), (keyC c k).2) = keyC c k
              rw [fup_id k23]
            rw [e]
            exact R
          rw [yX11_key_155 hm]
          refine m_isLetter ?_
          simp only [Option.toList_some, List.cons_append, List.nil_append]
          rw [yX11_key_161 hm]
          by_cases a : 32 ≤ k ∧ k ≤ 126
          · rw [if_pos a] at eF ⊢
            rw [if_neg (by decide), yX11_key_164 hm, j21]
            by_cases f : 60 ≤ (m : Int)
            · rw [if_pos (by omega)] at eF
              rw [eF] at e285
              rw [if_pos f]
              exact e285 _ _ _ _ _ _ (same0 _ _ R1)
            · rw [if_neg (by omega)] at eF
              rw [eF] at e285
              have hcol : ∀ cc : Int, cc = (if curC c < 23 then curC c + 1 else curC c) → zE 156 201 [some (.inr 29), some (.inl k), some (.inl 1), l3, some (.inl (curR c)), some (.inl (curC c)), l6] [.inl cc, .inl (curR c), .inl k, .inl (24 * curR c + curC c), .inr 29] (zM h (fup I 661 (n + 1)) (zu A 36 n k)) Q := by
                intro cc hcc
                rw [yX11_key_201 hm]
                refine m_guess (n := m) hm R1 k21 (by omega) ?_
                intro I2 A2 hy _
                have R2 := hy (by omega)
                rw [k13, k23, kG, hcc] at R2
                simp only [Option.toList_none, List.nil_append]
                rw [yX11_key_204 hm]
                by_cases z : curC c < 23
                · rw [if_pos z] at R2
                  have e285' := e285
                  rw [if_pos z, if_pos z] at e285'
                  rw [if_pos (by omega)]
                  refine e285' _ _ _ _ _ _ ?_
                  have e : vS (setG (keyC c k) ((m + 1 : Nat) : Int) (fun i => if i = m then gq (c.1 13 + 1) (c.1 23) (24 * curR c + curC c) k (curR c) (curC c + 1) else c.2.2.2.2 i)) 23 (c.1 23) = setG (keyC c k) ((m + 1 : Nat) : Int) (fun i => if i = m then gq (c.1 13 + 1) (c.1 23) (24 * curR c + curC c) k (curR c) (curC c + 1) else c.2.2.2.2 i) := by
                    show (fup _ 23 (c.1 23), _) = _
                    rw [fup_id (show (setG (keyC c k) ((m + 1 : Nat) : Int) _).1 23 = c.1 23 from rfl)]
                  show RepR I2 A2 (vS (setG (keyC c k) ((m + 1 : Nat) : Int) (fun i => if i = m then gq (c.1 13 + 1) (c.1 23) (24 * curR c + curC c) k (curR c) (curC c + 1) else c.2.2.2.2 i)) 23 (c.1 23)) l
                  rw [e]
                  exact R2
                · rw [if_neg z] at R2
                  have e285' := e285
                  rw [if_neg z, if_neg z] at e285'
                  have y23 : I2 679 = c.1 23 := R2.1.1 23 (by decide)
                  rw [if_neg (by omega), yX11_key_211 hm, y23, zw_eq (by omega) (by omega), yX11_key_221 hm]
                  exact e285' _ _ _ _ _ _ (R2.sI (k := 23) (v := c.1 23 + 1) (by decide) (by decide) (by decide) (by decide) (by decide) (by decide))
              rw [if_neg f, yX11_key_173 hm, zw_eq (x := 24 * curR c) (by omega) (by omega), zw_eq (x := 24 * curR c + curC c) (by omega) (by omega)]
              by_cases z : curC c < 23
              · rw [if_neg (by omega), yX11_key_192 hm, zw_eq (by omega) (by omega)]
                exact hcol _ (by rw [if_pos z])
              · rw [if_pos (by omega), yX11_key_199 hm]
                exact hcol _ (by rw [if_neg z]; omega)
          · rw [if_neg a] at eF ⊢
            rw [if_pos rfl, yX11_key_224 hm]
            have e250 : ∀ to : Int, foreS c k = (if (0 ≤ to ∧ to < 24) ∧ m < 60 then (m + 1, fun i => if i = m then gq (c.1 13 + 1) (c.1 23) (-1) (-1) (curR c) to else c.2.2.2.2 i, c.1 23) else (m, c.2.2.2.2, c.1 23)) → zE 156 250 [some (.inr 29), some (.inl k), some (.inl 1), l3, some (.inl (curR c)), some (.inl (curC c)), l6] [.inl to] (zM h (fup I 661 (n + 1)) (zu A 36 n k)) Q := by
              intro to eF
              rw [yX11_key_250 hm]
              refine m_isCell ?_
              simp only [Option.toList_some, List.cons_append, List.nil_append]
              rw [yX11_key_259 hm]
              by_cases y : 0 ≤ to ∧ to < 24
              · rw [if_pos (show 0 ≤ curR c ∧ curR c < 8 ∧ 0 ≤ to ∧ to < 24 from ⟨hcur.1, hcur.2.1, y⟩), if_neg (by decide), yX11_key_262 hm]
                refine m_guess (n := m) hm R1 k21 (by omega) ?_
                intro I2 A2 hy hy2
                simp only [Option.toList_none, List.nil_append]
                rw [yX11_key_272 hm]
                by_cases z : m < 60
                · rw [if_pos ⟨y, z⟩] at eF
                  rw [eF] at e285
                  have R2 := hy z
                  rw [k13, k23, kG] at R2
                  refine e285 _ _ _ _ _ _ ?_
                  show RepR I2 A2 (fup (setG (keyC c k) ((m + 1 : Nat) : Int) (fun i => if i = m then gq (c.1 13 + 1) (c.1 23) (-1) (-1) (curR c) to else c.2.2.2.2 i)).1 23 (c.1 23), (setG (keyC c k) ((m + 1 : Nat) : Int) (fun i => if i = m then gq (c.1 13 + 1) (c.1 23) (-1) (-1) (curR c) to else c.2.2.2.2 i)).2) l
                  rw [fup_id (show (setG (keyC c k) ((m + 1 : Nat) : Int) (fun i => if i = m then gq (c.1 13 + 1) (c.1 23) (-1) (-1) (curR c) to else c.2.2.2.2 i)).1 23 = c.1 23 from rfl)]
                  exact R2
                · rw [if_neg (fun u => z u.2)] at eF
                  rw [eF] at e285
                  exact e285 _ _ _ _ _ _ (same0 _ _ (hy2 (by omega)))
              · rw [if_neg (fun u => y u.1)] at eF
                rw [eF] at e285
                rw [if_neg (show ¬ (0 ≤ curR c ∧ curR c < 8 ∧ 0 ≤ to ∧ to < 24) from fun u => y u.2.2), if_pos rfl, yX11_key_272 hm]
                exact e285 _ _ _ _ _ _ (same0 _ _ R1)
            by_cases k3 : k = 3
            · rw [if_pos k3] at eF ⊢
              rw [yX11_key_234 hm, if_neg (fun z => z k3), yX11_key_239 hm, zw_eq (by omega) (by omega)]
              refine e250 _ ?_
              rw [eF]
              by_cases z : curC c < 23 ∧ m < 60
              · rw [if_pos z, if_pos (by omega)]
              · rw [if_neg z, if_neg (by omega)]
            · rw [if_neg k3] at eF ⊢
              rw [yX11_key_229 hm]
              by_cases k4 : k = 4
              · rw [if_pos k4] at eF
                rw [if_neg (fun z => z k4), yX11_key_234 hm, if_pos k3, yX11_key_246 hm, zw_eq (by omega) (by omega)]
                refine e250 _ ?_
                rw [eF]
                by_cases z : 0 < curC c ∧ m < 60
                · rw [if_pos z, if_pos (by omega)]
                · rw [if_neg z, if_neg (by omega)]
              · rw [if_neg k4] at eF
                rw [eF] at e285
                rw [if_pos k4, yX11_key_275 hm, j23, zw_eq (by omega) (by omega)]
                exact e285 _ _ _ _ _ _ (same _ _ _ (R1.sI (k := 23) (v := c.1 23 + 1) (by decide) (by decide) (by decide) (by decide) (by decide) (by decide)))
        rw [if_pos p2, yX11_key_94 hm]
        refine m_nearNewest hm j20 (by omega) (by omega) ?_
        simp only [Option.toList_some, List.cons_append, List.nil_append]
        rw [yX11_key_98 hm, j21]
        unfold curR curC at e155
        rw [hm2] at e155
        by_cases z : (m : Int) ≤ 0
        · obtain ⟨-, tN⟩ := R1.new34 (n := w) hw (by omega)
          have tN' : mT (zu A 36 n k) (34 + (w - 1)) (newN c) := tN
          rw [if_pos z, if_pos z] at e155
          rw [if_pos z, yX11_key_120 hm, Int.toNat_natCast, tN'.1.2.1, yX11_key_126 hm, j21, if_pos z, yX11_key_149 hm, Int.toNat_natCast, tN'.1.2.2]
          exact ⟨⟨by omega, by omega⟩, ⟨by omega, by omega⟩, e155 _ _ _⟩
        · have g4 : zu A 36 n k 46 ((m : Int) - 1).toNat = c.2.2.2.2 ((m : Int) - 1).toNat 4 := (zu_na (by decide)).trans (hR.2.2.2.2.2.1 _ (by omega) 4 (by omega))
          have g5 : zu A 36 n k 47 ((m : Int) - 1).toNat = c.2.2.2.2 ((m : Int) - 1).toNat 5 := (zu_na (by decide)).trans (hR.2.2.2.2.2.1 _ (by omega) 5 (by omega))
          rw [if_neg z, if_neg z] at e155
          rw [if_neg z, yX11_key_106 hm, j21, zw_eq (by omega) (by omega), g4, yX11_key_126 hm, j21, if_neg z, yX11_key_135 hm, j21, zw_eq (by omega) (by omega), g5]
          exact ⟨⟨by omega, by omega⟩, ⟨by omega, by omega⟩, e155 _ _ _⟩
  have e29 : keyOK k → zE 156 29 [some (.inr 29), some (.inl k), l2, l3, l4, l5, l6] [] (zM h I A) Q := by
    intro ok
    rw [yX11_key_29 hm]
    exact e34 ok
  have e22 : k ≠ 13 → k ≠ 8 → ¬ (1 ≤ k ∧ k ≤ 4) → zE 156 22 [some (.inr 29), some (.inl k), l2, l3, l4, l5, l6] [] (zM h I A) Q := by
    intro a1 a2 a3
    rw [yX11_key_22 hm]
    refine m_isLetter ?_
    simp only [Option.toList_some, List.cons_append, List.nil_append]
    rw [yX11_key_26 hm]
    by_cases z : 32 ≤ k ∧ k ≤ 126
    · rw [if_pos z, if_neg (by decide)]
      exact e29 (Or.inl z)
    · rw [if_neg z, if_pos rfl, yX11_key_33 hm, yX11_key_34 hm, if_pos rfl, yX11_key_49 hm]
      exact hN (fun y => by unfold keyOK at y; omega)
  rw [yX11_key_0 hm]
  by_cases a1 : k = 13
  · rw [if_pos a1]
    exact e29 (by unfold keyOK; omega)
  · rw [if_neg a1, yX11_key_6 hm]
    by_cases a2 : k = 8
    · rw [if_pos a2]
      exact e29 (by unfold keyOK; omega)
    · rw [if_neg a2, yX11_key_12 hm]
      by_cases a3 : k < 1
      · rw [if_pos a3]
        exact e22 a1 a2 (by omega)
      · rw [if_neg a3, yX11_key_17 hm]
        by_cases a4 : k ≤ 4
        · rw [if_pos a4]
          exact e29 (by unfold keyOK; omega)
        · rw [if_neg a4]
          exact e22 a1 a2 (by omega)
end mKey
