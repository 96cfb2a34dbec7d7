/-! A TICK keeps what must hold -/
section sTick
variable {c : cg} {l : lg} {B : Int}
theorem vS_s {k : Nat} {v : Int} : (vS c k v).1 k = v := fup_s
theorem vS_n {k j : Nat} {v : Int} (h : j ≠ k) : (vS c k v).1 j = c.1 j := fup_n h
theorem Good.mono {B' : Int} (hG : Good B c l) (h : B ≤ B') : Good B' c l := by
  obtain ⟨gv, r⟩ := hG
  refine ⟨?_, r⟩
  unfold gV at *
  omega
theorem keyOK_r {k : Int} (h : keyOK k) : 1 ≤ k ∧ k ≤ 126 := by
  unfold keyOK at h
  omega
theorem Good.newF (hG : Good B c l) : cellsOK (newF c).1 ∧ (newF c).2.1 = c.1 7 + c.1 12 - 1 ∧ 0 ≤ (newF c).2.2 ∧ (newF c).2.2 ≤ c.1 13 := by
  obtain ⟨gv, -, ⟨g1, -, -⟩, -⟩ := hG
  have h12 : 1 ≤ c.1 12 := by unfold gV at gv; omega
  have := g1 (c.1 12 - 1).toNat (by omega)
  have e : (((c.1 12 - 1).toNat : Nat) : Int) = c.1 12 - 1 := by omega
  rw [e] at this
  refine ⟨this.1, ?_, this.2.2⟩
  rw [show c.1 7 + c.1 12 - 1 = c.1 7 + (c.1 12 - 1) by omega]
  exact this.2.1
theorem Good.newN (hG : Good B c l) : cellsOK (newN c).1 ∧ (0 ≤ (newN c).2.1 ∧ (newN c).2.1 < 65536) ∧ 0 ≤ (newN c).2.2 ∧ (newN c).2.2 < 65536 := by
  obtain ⟨gv, -, ⟨-, g2, -⟩, -⟩ := hG
  have h20 : 1 ≤ c.1 20 := by unfold gV at gv; omega
  exact g2 (c.1 20 - 1).toNat (by omega)
theorem Good.ck (hG : Good B c l) : Good (B + 1) (vS c 0 (c.1 0 + 1)) l := by
  obtain ⟨gv, r⟩ := hG
  refine ⟨?_, r⟩
  unfold gV at *
  simp (decide := true) only [vS, fup, if_true, if_false]
  omega
theorem good_farKeep (hG : Good B c l) (hck : c.1 7 + c.1 12 ≤ c.1 0) : Good B (farKeep c) l := by
  have hN := hG.newF
  unfold farKeep
  by_cases q : c.1 12 < 32 ∧ ¬ (likeX c.2.1 (newF c).1 ∧ (newF c).2.2 = c.1 6)
  · rw [pif_pos q]
    obtain ⟨gv, g2, ⟨g3, g4, g5⟩, g6, g7, g8, g9, g10⟩ := hG
    have hV : 1 ≤ c.1 12 ∧ 0 ≤ c.1 6 ∧ c.1 6 ≤ c.1 13 := by unfold gV at gv; omega
    have e20 : fup c.1 12 (c.1 12 + 1) 20 = c.1 20 := fup_n (by decide)
    have e13 : fup c.1 12 (c.1 12 + 1) 13 = c.1 13 := fup_n (by decide)
    have e7 : fup c.1 12 (c.1 12 + 1) 7 = c.1 7 := fup_n (by decide)
    have e12 : fup c.1 12 (c.1 12 + 1) 12 = c.1 12 + 1 := fup_s
    refine ⟨?_, g2, ⟨fun i hi => ?_, fun i hi => ?_, fun i j hij hj => ?_⟩, g6, g7, g8, g9, g10⟩
    · unfold gV at *
      simp (decide := true) only [addS, fup, if_true, if_false]
      omega
    · dsimp only [addS] at hi ⊢
      rw [e12] at hi
      rw [e7, e13]
      by_cases e : i = (c.1 12).toNat
      · rw [if_pos ⟨rfl, e⟩]
        refine ⟨g2, ?_, hV.2.1, hV.2.2⟩
        show (newF c).2.1 + 1 = _
        rw [hN.2.1]
        omega
      · rw [if_neg (fun z => e z.2)]
        exact g3 i (by omega)
    · dsimp only [addS] at hi ⊢
      rw [if_neg (fun z => absurd z.1 (by decide))]
      exact g4 i hi
    · dsimp only [addS] at hj ⊢
      rw [if_neg (fun z => absurd z.1 (by decide)), if_neg (fun z => absurd z.1 (by decide))]
      exact g5 i j hij hj
  · rw [pif_neg q]
    exact hG
theorem farKeep_V (k : Nat) (hk : k ≠ 12) : (farKeep c).1 k = c.1 k := by
  unfold farKeep
  by_cases q : c.1 12 < 32 ∧ ¬ (likeX c.2.1 (newF c).1 ∧ (newF c).2.2 = c.1 6)
  · rw [pif_pos q]
    exact fup_n hk
  · rw [pif_neg q]
theorem sndL_len {j i : Nat} {xs : List Int} (h : ∀ i, i < 2 → (l i).length ≤ 40) (hi : i < 2) (hj : j < 2) : ((sndL l j xs) i).length ≤ 40 := by
  unfold sndL
  by_cases q : (l j).length < 40
  · rw [if_pos q]
    by_cases e : i = j
    · show (if i = j then l j ++ [xs] else l i).length ≤ 40
      rw [if_pos e, List.length_append, List.length_singleton]
      omega
    · show (if i = j then l j ++ [xs] else l i).length ≤ 40
      rw [if_neg e]
      exact h i hi
  · rw [if_neg q]
    exact h i hi
theorem sndL_mem {j i : Nat} {xs ys : List Int} (h : ys ∈ (sndL l j xs) i) : ys ∈ l i ∨ (i = j ∧ ys = xs) := by
  unfold sndL at h
  by_cases q : (l j).length < 40
  · rw [if_pos q] at h
    by_cases e : i = j
    · subst e
      have h' : ys ∈ (if i = i then l i ++ [xs] else l i) := h
      rw [if_pos rfl] at h'
      rcases List.mem_append.mp h' with z | z
      · exact Or.inl z
      · exact Or.inr ⟨rfl, List.mem_singleton.mp z⟩
    · have h' : ys ∈ (if i = j then l j ++ [xs] else l i) := h
      rw [if_neg e] at h'
      exact Or.inl h'
  · rw [if_neg q] at h
    exact Or.inl h
theorem sndC_2 {n len : Nat} : (sndC c n len).2 = c.2 := by
  unfold sndC
  split <;> rfl
theorem sndC_V {n len k : Nat} (hk : k ≠ 24) (h2 : k ≠ 25) (h3 : k ≠ 26) : (sndC c n len).1 k = c.1 k := by
  unfold sndC
  split
  · exact (vS_n h2).trans (vS_n hk)
  · exact (vS_n h3).trans ((vS_n h2).trans (vS_n hk))
theorem sndC_r {n len : Nat} : (sndC c n len).1 24 = c.1 24 + 1 ∧ (sndC c n len).1 25 = c.1 25 + len ∧ (c.1 26 ≤ (sndC c n len).1 26 ∧ (sndC c n len).1 26 ≤ c.1 26 + 1) := by
  unfold sndC
  split
  · exact ⟨(vS_n (by decide)).trans vS_s, vS_s, by rw [show (vS (vS c 24 (c.1 24 + 1)) 25 (c.1 25 + len)).1 26 = c.1 26 from (vS_n (by decide)).trans (vS_n (by decide))]; omega⟩
  · exact ⟨(vS_n (by decide)).trans ((vS_n (by decide)).trans vS_s), (vS_n (by decide)).trans vS_s, by rw [show (vS (vS (vS c 24 (c.1 24 + 1)) 25 (c.1 25 + len)) 26 (c.1 26 + 1)).1 26 = c.1 26 + 1 from vS_s]; omega⟩
/-- what a letter sent changes: counts, and three numbers of the end that sent it -/
theorem gV_snd {W : Nat → Int} {len : Nat} (gv : gV B c.1) (hl : len ≤ 1100) (w24 : W 24 = c.1 24 + 1) (w25 : W 25 = c.1 25 + len) (w26 : c.1 26 ≤ W 26 ∧ W 26 ≤ c.1 26 + 1) (w9 : 0 ≤ W 9 ∧ W 9 ≤ B) (w10 : W 10 = 0 ∨ W 10 = 1) (w16 : 0 ≤ W 16 ∧ W 16 ≤ B) (w17 : W 17 = 0 ∨ W 17 = 1)
    (ho : ∀ k, k < 34 → k ≠ 24 → k ≠ 25 → k ≠ 26 → k ≠ 8 → k ≠ 9 → k ≠ 10 → k ≠ 15 → k ≠ 16 → k ≠ 17 → W k = c.1 k) : gV (B + 1) W := by
  have e0 := ho 0; have e1 := ho 1; have e2 := ho 2; have e3 := ho 3; have e4 := ho 4; have e5 := ho 5; have e6 := ho 6; have e7 := ho 7
  have e11 := ho 11; have e12 := ho 12; have e13 := ho 13; have e14 := ho 14; have e18 := ho 18; have e20 := ho 20; have e21 := ho 21; have e23 := ho 23
  have e27 := ho 27; have e28 := ho 28; have e29 := ho 29; have e30 := ho 30; have e31 := ho 31; have e32 := ho 32; have e33 := ho 33
  simp (decide := true) only [forall_const] at e0 e1 e2 e3 e4 e5 e6 e7 e11 e12 e13 e14 e18 e20 e21 e23 e27 e28 e29 e30 e31 e32 e33
  unfold gV at *
  omega
theorem good_farSend (hG : Good B c l) (hB : B ≤ 1000000) (h0 : c.1 0 ≤ 60000) : Good (B + 1) (farSend c l).1 (farSend c l).2 := by
  have hN := hG.newF
  unfold farSend
  by_cases q : fDue (c.1 0) (c.1 1) (c.1 2) (c.1 9) (newF c).2.1 (c.1 8) (c.1 10) (c.1 7)
  · rw [pif_pos q]
    obtain ⟨gv, g2, g3, g6, g7, g8, g9, g10⟩ := hG
    have hV : (0 ≤ c.1 11 ∧ c.1 11 < 256) ∧ (0 ≤ c.1 7 ∧ c.1 7 + c.1 12 ≤ c.1 0 + 1) ∧ (1 ≤ c.1 12 ∧ c.1 12 ≤ 32) ∧ (0 ≤ c.1 13 ∧ c.1 13 ≤ 1000) ∧ (0 ≤ c.1 0 ∧ c.1 0 ≤ B) ∧ (0 ≤ c.1 16 ∧ c.1 16 ≤ B) ∧ (c.1 17 = 0 ∨ c.1 17 = 1) := by unfold gV at gv; omega
    obtain ⟨n1, n2, n3, n4⟩ := hN
    have hin := n1.1
    unfold s_in at hin
    have hlet : let1 (c.1 13) (seld (farB c)) := far_let (X := (c.2.2.1 1 0).1.1) (Y := (newF c).1.1) (by omega) (by omega) (by omega) (by omega) (by omega) (by omega) (by omega) (by omega) n4 n1.2
    have hlen : (seld (farB c)).length ≤ 1100 := by
      have := hlet.2.2.2.1
      omega
    have w : ∀ k, k ≠ 9 → k ≠ 8 → k ≠ 10 → (vS (vS (vS (sndC c (l 1).length (seld (farB c)).length) 9 (c.1 0)) 8 (newF c).2.1) 10 0).1 k = (sndC c (l 1).length (seld (farB c)).length).1 k := fun k h1 h2 h3 => (vS_n h3).trans ((vS_n h2).trans (vS_n h1))
    have w9 : (vS (vS (vS (sndC c (l 1).length (seld (farB c)).length) 9 (c.1 0)) 8 (newF c).2.1) 10 0).1 9 = c.1 0 := (vS_n (by decide)).trans ((vS_n (by decide)).trans vS_s)
    have w10 : (vS (vS (vS (sndC c (l 1).length (seld (farB c)).length) 9 (c.1 0)) 8 (newF c).2.1) 10 0).1 10 = 0 := vS_s
    have wV : ∀ k, k ≠ 9 → k ≠ 8 → k ≠ 10 → k ≠ 24 → k ≠ 25 → k ≠ 26 → (vS (vS (vS (sndC c (l 1).length (seld (farB c)).length) 9 (c.1 0)) 8 (newF c).2.1) 10 0).1 k = c.1 k := fun k h1 h2 h3 h4 h5 h6 => (w k h1 h2 h3).trans (sndC_V h4 h5 h6)
    have w2 : (vS (vS (vS (sndC c (l 1).length (seld (farB c)).length) 9 (c.1 0)) 8 (newF c).2.1) 10 0).2 = c.2 := sndC_2
    obtain ⟨s1, s2, s3⟩ := sndC_r (c := c) (n := (l 1).length) (len := (seld (farB c)).length)
    refine ⟨gV_snd (c := c) (len := (seld (farB c)).length) gv hlen ((w 24 (by decide) (by decide) (by decide)).trans s1) ((w 25 (by decide) (by decide) (by decide)).trans s2) (by rw [w 26 (by decide) (by decide) (by decide)]; exact s3) (by rw [w9]; omega) (by rw [w10]; exact Or.inl rfl) (by rw [wV 16 (by decide) (by decide) (by decide) (by decide) (by decide) (by decide)]; omega) (by rw [wV 17 (by decide) (by decide) (by decide) (by decide) (by decide) (by decide)]; omega) (fun k _ h1 h2 h3 h4 h5 h6 h7 h8 h9 => wV k h5 h4 h6 h1 h2 h3), ?_⟩
    dsimp only
    unfold gS at *
    rw [w2, wV 12 (by decide) (by decide) (by decide) (by decide) (by decide) (by decide), wV 7 (by decide) (by decide) (by decide) (by decide) (by decide) (by decide), wV 13 (by decide) (by decide) (by decide) (by decide) (by decide) (by decide), wV 20 (by decide) (by decide) (by decide) (by decide) (by decide) (by decide), wV 21 (by decide) (by decide) (by decide) (by decide) (by decide) (by decide)]
    refine ⟨g2, g3, g6, g7, fun j hj => sndL_len g8 hj (by decide), fun xs hx => ?_, fun xs hx => ?_⟩
    · rcases sndL_mem hx with z | z
      · exact g9 xs z
      · exact absurd z.1 (by decide)
    · rcases sndL_mem hx with z | z
      · exact g10 xs z
      · rw [z.2]; exact hlet
  · rw [pif_neg q]
    exact hG.mono (by omega)
theorem nearB_ok (hG : Good B c l) : let0 (c.1 13) (seld (nearB c)) ∧ byteL (nearB c) ∧ (nearB c).length ≤ 1008 := by
  have hN := hG.newN
  obtain ⟨gv, g2, g3, g6, g7, g8, g9, g10⟩ := hG
  have hV : (0 ≤ c.1 18 ∧ c.1 18 < 256) ∧ (0 ≤ c.1 13 ∧ c.1 13 ≤ 1000) ∧ (0 ≤ c.1 14 ∧ c.1 14 ≤ c.1 13) := by unfold gV at gv; omega
  have e1 : (((c.1 14).toNat : Nat) : Int) = c.1 14 := by omega
  have e2 : (((c.1 13).toNat : Nat) : Int) = c.1 13 := by omega
  have e3 : (c.1 13).toNat - (c.1 14).toNat = (c.1 13 - c.1 14).toNat := by omega
  have := near_let (K := c.2.2.2.1) (ad := c.1 18) (nu := (newN c).2.1) (T := c.1 13) (kn := (c.1 14).toNat) (ty := (c.1 13).toNat) (by omega) (by omega) (by omega) (by omega) (by omega) (fun k hk => by
    have := keyOK_r (g6 k (by omega))
    omega)
  rw [e1, e2, e3] at this
  refine ⟨this.1, this.2.1, ?_⟩
  show (kHd (c.1 18) (c.1 14) (c.1 13) (newN c).2.1 ++ kL c.2.2.2.1 (c.1 13 - c.1 14).toNat (c.1 14).toNat).length ≤ 1008
  rw [this.2.2]
  omega
theorem farB_ok (hG : Good B c l) (h0 : c.1 0 ≤ 60000) : byteL (farB c) ∧ (farB c).length ≤ 427 := by
  obtain ⟨n1, n2, n3, n4⟩ := hG.newF
  obtain ⟨gv, g2, g3, g6, g7, g8, g9, g10⟩ := hG
  have hV : (0 ≤ c.1 11 ∧ c.1 11 < 256) ∧ (0 ≤ c.1 7 ∧ c.1 7 + c.1 12 ≤ c.1 0 + 1) ∧ (1 ≤ c.1 12 ∧ c.1 12 ≤ 32) ∧ (0 ≤ c.1 13 ∧ c.1 13 ≤ 1000) ∧ (0 ≤ c.1 0 ∧ c.1 0 ≤ B) := by unfold gV at gv; omega
  have hin := n1.1
  unfold s_in at hin
  refine ⟨byteL.app (sHd_byte (by omega) (by omega) (by omega) (by omega) (by omega) (by omega)) (dDiff_byte n1.2), ?_⟩
  have := dDiff_len (X := (c.2.2.1 1 0).1.1) (Y := (newF c).1.1)
  unfold farB
  rw [List.length_append]
  show 10 + _ ≤ 427
  omega
theorem good_nearSend (hG : Good B c l) : Good (B + 1) (nearSend c l).1 (nearSend c l).2 := by
  have hlet := nearB_ok hG
  unfold nearSend
  by_cases q : nDue (c.1 0) (c.1 1) (c.1 2) (c.1 16) (c.1 13) (c.1 15) (c.1 17) (c.1 14)
  · rw [pif_pos q]
    obtain ⟨gv, g2, g3, g6, g7, g8, g9, g10⟩ := hG
    have hV : (0 ≤ c.1 0 ∧ c.1 0 ≤ B) ∧ (0 ≤ c.1 9 ∧ c.1 9 ≤ B) ∧ (c.1 10 = 0 ∨ c.1 10 = 1) := by unfold gV at gv; omega
    have hlen : (seld (nearB c)).length ≤ 1100 := by
      rw [seld_len]
      have := hlet.2.2
      omega
    have w : ∀ k, k ≠ 16 → k ≠ 15 → k ≠ 17 → (vS (vS (vS (sndC c (l 0).length (seld (nearB c)).length) 16 (c.1 0)) 15 (c.1 13)) 17 0).1 k = (sndC c (l 0).length (seld (nearB c)).length).1 k := fun k h1 h2 h3 => (vS_n h3).trans ((vS_n h2).trans (vS_n h1))
    have w9 : (vS (vS (vS (sndC c (l 0).length (seld (nearB c)).length) 16 (c.1 0)) 15 (c.1 13)) 17 0).1 16 = c.1 0 := (vS_n (by decide)).trans ((vS_n (by decide)).trans vS_s)
    have w10 : (vS (vS (vS (sndC c (l 0).length (seld (nearB c)).length) 16 (c.1 0)) 15 (c.1 13)) 17 0).1 17 = 0 := vS_s
    have wV : ∀ k, k ≠ 16 → k ≠ 15 → k ≠ 17 → k ≠ 24 → k ≠ 25 → k ≠ 26 → (vS (vS (vS (sndC c (l 0).length (seld (nearB c)).length) 16 (c.1 0)) 15 (c.1 13)) 17 0).1 k = c.1 k := fun k h1 h2 h3 h4 h5 h6 => (w k h1 h2 h3).trans (sndC_V h4 h5 h6)
    have w2 : (vS (vS (vS (sndC c (l 0).length (seld (nearB c)).length) 16 (c.1 0)) 15 (c.1 13)) 17 0).2 = c.2 := sndC_2
    obtain ⟨s1, s2, s3⟩ := sndC_r (c := c) (n := (l 0).length) (len := (seld (nearB c)).length)
    refine ⟨gV_snd (c := c) (len := (seld (nearB c)).length) gv hlen ((w 24 (by decide) (by decide) (by decide)).trans s1) ((w 25 (by decide) (by decide) (by decide)).trans s2) (by rw [w 26 (by decide) (by decide) (by decide)]; exact s3) (by rw [wV 9 (by decide) (by decide) (by decide) (by decide) (by decide) (by decide)]; omega) (by rw [wV 10 (by decide) (by decide) (by decide) (by decide) (by decide) (by decide)]; omega) (by rw [w9]; omega) (by rw [w10]; exact Or.inl rfl) (fun k _ h1 h2 h3 h4 h5 h6 h7 h8 h9 => wV k h8 h7 h9 h1 h2 h3), ?_⟩
    dsimp only
    unfold gS at *
    rw [w2, wV 12 (by decide) (by decide) (by decide) (by decide) (by decide) (by decide), wV 7 (by decide) (by decide) (by decide) (by decide) (by decide) (by decide), wV 13 (by decide) (by decide) (by decide) (by decide) (by decide) (by decide), wV 20 (by decide) (by decide) (by decide) (by decide) (by decide) (by decide), wV 21 (by decide) (by decide) (by decide) (by decide) (by decide) (by decide)]
    refine ⟨g2, g3, g6, g7, fun j hj => sndL_len g8 hj (by decide), fun xs hx => ?_, fun xs hx => ?_⟩
    · rcases sndL_mem hx with z | z
      · exact g9 xs z
      · rw [z.2]; exact hlet.1
    · rcases sndL_mem hx with z | z
      · exact g10 xs z
      · exact absurd z.1 (by decide)
  · rw [pif_neg q]
    exact hG.mono (by omega)
end sTick
