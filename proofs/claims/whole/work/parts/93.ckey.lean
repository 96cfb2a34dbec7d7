/-! THE CLASS'S CALLS: a key -/
section cKey
variable {h0 h h' : zH} {N M N' M' : Nat} {w w' : Nat → Nat} {c : cg} {l : lg} {Q : Option zV → zH → Prop} {B : Int} {k : Int}
theorem RepC.mono (R : RepC h0 N M h w c l) (hN : N ≤ N') (hM : M ≤ M') : RepC h0 N' M' h w c l := by
  obtain ⟨hc, v, x1, s0, s1, k1, g1, l0, l1, z1, m1⟩ := R
  exact ⟨hc, v, x1, s0, s1, k1, g1, l0, l1, ⟨z1.1, z1.2.1, Nat.le_trans z1.2.2.1 hN, Nat.le_trans z1.2.2.2 hM⟩, m1⟩
theorem RepC.z48 (R : RepC h0 N M h w c l) : 48 ≤ zn h := R.2.2.2.2.2.2.2.2.2.1.1
theorem RepC.z0 (R : RepC h0 N M h w c l) : ∀ x, zn h ≤ x → (zK h x).1 = 0 := R.2.2.2.2.2.2.2.2.2.1.2.1
theorem x_key (R : RepC h0 N M h w c l) (hG : Good B c l) (hB : B ≤ 100000)
    (hQ : ∀ h', (keyOK k ∧ c.1 13 < 1000 → RepC h0 (N + 1) (M + 7) h' w (keyS c k) l → Q (some (.inl (c.1 13 + 1))) h'))
    (hN : ¬ (keyOK k ∧ c.1 13 < 1000) → Q (some (.inl (-1))) h) : zE 78 0 [some (.inr 2), some (.inl k)] [] h Q := by
  have hc := R.1
  have gv := hG.1
  have hV : (0 ≤ c.1 13 ∧ c.1 13 ≤ 1000) ∧ (1 ≤ c.1 20 ∧ c.1 20 ≤ 32) ∧ (0 ≤ c.1 21 ∧ c.1 21 ≤ 60) ∧ (1 ≤ c.1 23 ∧ c.1 23 ≤ 3000) := by unfold gV at gv; omega
  have hcur := cur_ok hG
  have v3 : zI h 2 14 = c.1 3 := R.v 3 (by decide) (Or.inl (by decide))
  have v13 : zI h 324 3 = c.1 13 := R.v 13 (by decide) (Or.inl (by decide))
  rw [wX10_key_0 hc]
  refine c_isKey fun b hb hb2 => ?_
  simp only [Option.toList_some, List.cons_append, List.nil_append]
  rw [wX10_key_4 hc]
  by_cases hk : keyOK k
  case neg =>
    rw [if_pos (by have : b ≠ 1 := fun z => hk (hb2.1 z); omega), wX10_key_34 hc, wX10_key_35 hc]
    exact hN (fun z => hk z.1)
  have b1 := hb2.2 hk
  have e28 : ∀ s0 : Int, (s0 = 0 ↔ ¬ c.1 3 = 2) → zE 78 28 [some (.inr 2), some (.inl k)] [.inl s0, .inl k, .inr 3] h Q := by
    intro s0 hs0
    rw [wX10_key_28 hc, wX6_type_0 hc, v13, if_neg (by omega), wX6_type_7 hc, v13]
    by_cases hlt : c.1 13 < 1000
    case neg =>
      rw [if_neg hlt, wX6_type_17 hc]
      simp only [Option.toList_some, List.cons_append, List.nil_append]
      rw [wX10_key_31 hc, wX10_key_35 hc]
      exact hN (fun z => hlt z.2)
    obtain ⟨n, hn⟩ : ∃ n : Nat, c.1 13 = n := ⟨(c.1 13).toNat, by omega⟩
    have R1 := R.sK (k := k) hn
    have hc1 := R1.1
    have v13' : zI (zsA h 4 n k) 324 3 = (n : Int) := v13.trans hn
    rw [if_pos hlt, wX6_type_19 hc, v13]
    refine ⟨by omega, ?_⟩
    rw [hn, Int.toNat_natCast, wX6_type_29 (by exact hc), v13', zw_eq (by omega) (by omega)]
    generalize hg1 : zsI (zsA h 4 n k) 324 3 ((n : Int) + 1) = h1
    have e1 : zsI (zsA h 4 n k) 324 3 ((n : Int) + 1) = h1 := hg1
    rw [e1] at R1 hc1
    have u13 : zI h1 324 3 = c.1 13 + 1 := R1.v 13 (by decide) (Or.inl (by decide))
    have u23 : zI h1 130 10 = c.1 23 := R1.v 23 (by decide) (Or.inl (by decide))
    rw [wX6_type_39 hc1]
    unfold keyS at hQ
    by_cases z : s0 = 0
    · have hp : ¬ c.1 3 = 2 := hs0.1 z
      rw [if_neg hp] at hQ
      obtain ⟨t, t1, t2, t3, t4, t5, t6, _⟩ := R1.tN
      rw [if_pos z, wX6_type_59 hc1, t1, t3, u13]
      refine ⟨t2, ?_⟩
      have key := c_Gfore (k := k) (num := c.1 13 + 1) (row := curR c) (col := curC c) (s := t + 1) R1.gG R1.z48 R1.z0 t4.1 (by rw [show zI h1 130 10 = c.1 23 from u23]; omega)
        (by
          rw [t6.1.2.1]
          unfold curR
          show (if c.1 21 ≤ 0 then _ else _) = if (c.1 21).toNat = 0 then _ else c.2.2.2.2 ((c.1 21).toNat - 1) 4
          by_cases y : c.1 21 ≤ 0
          · rw [if_pos y, if_pos (by omega)]; rfl
          · rw [if_neg y, if_neg (by omega), show (c.1 21 - 1).toNat = (c.1 21).toNat - 1 by omega])
        (by
          rw [t6.1.2.2]
          unfold curC
          show (if c.1 21 ≤ 0 then _ else _) = if (c.1 21).toNat = 0 then _ else c.2.2.2.2 ((c.1 21).toNat - 1) 5
          by_cases y : c.1 21 ≤ 0
          · rw [if_pos y, if_pos (by omega)]; rfl
          · rw [if_neg y, if_neg (by omega), show (c.1 21 - 1).toNat = (c.1 21).toNat - 1 by omega])
        hcur (Q := fun r h' => zE 46 81 [some (.inr 3), some (.inl k), some (.inl s0)] (r.toList ++ []) h' (fun r h' => zE 78 31 [some (.inr 2), some (.inl k)] (r.toList ++ []) h' Q)) ?_
      · exact key
      · intro h2 hf hg2 ha hr
        rw [show zI h1 130 10 = c.1 23 from u23] at hg2 ha
        have R2 := R1.sG (V' := fup (fup (keyC c k).1 21 ((foreS c k).1 : Nat)) 23 (foreS c k).2.2) (n := ((foreS c k).1 : Nat)) (G := (foreS c k).2.1) hf hg2
          (fun j _ n21 _ n23 _ _ _ => by rw [fup_n n23, fup_n n21]) (by rw [fup_n (by decide), fup_s]) (by omega)
          (by rw [hr 131 (by decide) (by decide), fup_n (by decide), fup_n (by decide)]; exact R1.v 22 (by decide) (Or.inl (by decide)))
          (by rw [fup_s]; exact ha)
          (by rw [hr 132 (by decide) (by decide), fup_n (by decide), fup_n (by decide)]; exact R1.v 31 (by decide) (Or.inr (by decide)))
          (by rw [hr 133 (by decide) (by decide), fup_n (by decide), fup_n (by decide)]; exact R1.v 32 (by decide) (Or.inr (by decide)))
          (by rw [hr 134 (by decide) (by decide), fup_n (by decide), fup_n (by decide)]; exact R1.v 33 (by decide) (Or.inr (by decide)))
        have w13 : zI h2 324 3 = c.1 13 + 1 := R2.v 13 (by decide) (Or.inl (by decide))
        simp only [Option.toList_none, List.nil_append]
        rw [wX6_type_81 R2.1, w13]
        simp only [Option.toList_some, List.cons_append, List.nil_append]
        rw [wX10_key_31 R2.1, wX10_key_35 R2.1]
        exact hQ h2 ⟨hk, hlt⟩ R2
    · have hp : c.1 3 = 2 := by
        by_cases y : c.1 3 = 2
        · exact y
        · exact absurd (hs0.2 y) z
      rw [if_pos hp] at hQ
      have R2 := R1.sI (k := 23) (v := c.1 23 + 1) (by decide) (Or.inl (by decide)) (by decide) (by decide) (by decide) (by decide)
      rw [if_neg z, wX6_type_43 hc1, u23, zw_eq (by omega) (by omega)]
      generalize hg2 : zsI h1 130 10 (c.1 23 + 1) = h2
      have e2 : zsI h1 (fC 23) (aC 23) (c.1 23 + 1) = h2 := hg2
      rw [e2] at R2
      have w13 : zI h2 324 3 = c.1 13 + 1 := R2.v 13 (by decide) (Or.inl (by decide))
      rw [wX6_type_56 R2.1, wX6_type_81 R2.1, w13]
      simp only [Option.toList_some, List.cons_append, List.nil_append]
      rw [wX10_key_31 R2.1, wX10_key_35 R2.1]
      exact hQ h2 ⟨hk, hlt⟩ (R2.mono (by omega) (by omega))
  rw [if_neg (by omega), wX10_key_7 hc, v3]
  by_cases y : c.1 3 = 2
  · rw [if_neg (fun z => z y), wX10_key_23 hc]
    exact e28 1 (by omega)
  · rw [if_pos y, wX10_key_27 hc]
    exact e28 0 (by omega)
end cKey
