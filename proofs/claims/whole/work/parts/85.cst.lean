/-! THE CLASS'S STATES: dropped, kept -/
theorem rotm_lt {g : Nat → Nat} {m n i : Nat} (hi : i < n) (hm : m < n) : rotm g m n i = g (if i + m < n then i + m else i + m - n) := by
  unfold rotm
  rw [if_pos hi]
  by_cases q : i + m < n
  · rw [if_pos q, Nat.mod_eq_of_lt q]
  · rw [if_neg q, Nat.mod_eq_sub_mod (by omega), Nat.mod_eq_of_lt (by omega)]
section cSt
variable {h0 h h' : zH} {N M : Nat} {w w' : Nat → Nat} {c : cg} {l : lg} {so ra n m : Nat} {S : Nat → sT}
theorem tOK_fr {t : Nat} (ht : tOK h w ra t) (hK : ∀ x, x < zn h → zK h' x = zK h x) (hn : zn h ≤ zn h') (hR : ∀ x, x < zn h → zR h' 448 x = zR h 448 x ∧ zR h' 384 x = zR h 384 x) (hw : ∀ x, x < zn h → w' x = w x) : tOK h' w' ra t := by
  obtain ⟨t1, t2, t3, t4, t5, t6, t7, t8, t9⟩ := ht
  exact ⟨by rw [hK _ (by omega)]; exact t1, by rw [(hR _ (by omega)).1]; exact t2, by rw [hK _ (by omega)]; exact t3, by rw [(hR _ (by omega)).2]; exact t4, by rw [hK _ (by omega)]; exact t5, by rw [hw _ (by omega)]; exact t6, by rw [hw _ (by omega)]; exact t7, by omega, t9⟩
theorem cS_drop (hS : cS h w so ra n S) (hm : m < n) : cS (zsI (zBs h ra (rotm (zB h ra) m n)) 514 so ((n - m : Nat) : Int)) w so ra (n - m) (fun i => S (i + m)) := by
  obtain ⟨s1, s2, s3, s4, s5, s6⟩ := hS
  have hB : ∀ i, zB (zsI (zBs h ra (rotm (zB h ra) m n)) 514 so ((n - m : Nat) : Int)) ra i = rotm (zB h ra) m n i := fun i => by
    rw [zB_sI, zB_Bs_s]
  have hge : ∀ i, ¬ i < n → rotm (zB h ra) m n i = zB h ra i := fun i hi => if_neg hi
  refine ⟨fun i hi hz => ?_, fun i j hi hj hz e => ?_, fun i hi => ?_, ?_, by omega, by omega⟩
  · rw [hB] at hz ⊢
    have key : ∀ j, j < 32 → zB h ra j ≠ 0 → tOK (zsI (zBs h ra (rotm (zB h ra) m n)) 514 so ((n - m : Nat) : Int)) w ra (zB h ra j) := fun j hj hz => tOK_fr (h' := zsI (zBs h ra (rotm (zB h ra) m n)) 514 so ((n - m : Nat) : Int)) (s1 j hj hz) (fun _ _ => rfl) (Nat.le_refl _) (fun _ _ => ⟨rfl, rfl⟩) (fun _ _ => rfl)
    by_cases q : i < n
    · rw [rotm_lt q hm] at hz ⊢
      exact key _ (by split <;> omega) hz
    · rw [hge i q] at hz ⊢
      exact key i hi hz
  · rw [hB] at hz e
    rw [hB] at e
    by_cases q : i < n
    · rw [rotm_lt q hm] at hz e
      by_cases y : j < n
      · rw [rotm_lt y hm] at e
        have := s2 _ _ (by split <;> omega) (by split <;> omega) hz e
        revert this
        split <;> split <;> omega
      · rw [hge j y] at e
        have := s2 _ _ (by split <;> omega) hj hz e
        revert this
        split <;> omega
    · rw [hge i q] at hz e
      by_cases y : j < n
      · rw [rotm_lt y hm] at e
        have := s2 _ _ hi (by split <;> omega) hz e
        revert this
        split <;> omega
      · rw [hge j y] at e
        exact s2 _ _ hi hj hz e
  · rw [hB, rotm_lt (by omega) hm, if_pos (by omega)]
    obtain ⟨a1, ⟨b1, b2, b3⟩, b4, b5⟩ := s3 (i + m) (by omega)
    exact ⟨a1, ⟨b1, (zI_ne (by decide)).trans b2, (zI_ne (by decide)).trans b3⟩, (zI_ne (by decide)).trans b4, (zI_ne (by decide)).trans b5⟩
  · rw [hB, rotm_lt (by omega) hm, if_pos (by omega), show n - m - 1 + m = n - 1 by omega]
    exact s4
/-- all but the rows of states -/
theorem RepC.drop0 {v : Int} {g : Nat → Nat} (R : RepC h0 N M h w c l) (hra : ra = 6 ∨ ra = 18) (hso : so = 5 ∨ so = 17) :
    let h' := zsI (zBs h ra g) 514 so v
    cOK h' ∧ (∀ k, k < 34 → vOK k → fC k ≠ 514 ∨ aC k ≠ so → zI h' (fC k) (aC k) = c.1 k) ∧ (∀ i, i < 7 → zA h' 28 i = c.1 (24 + i)) ∧ scIs h' 15 c.2.1 ∧ (∀ i : Nat, (i : Int) < c.1 13 → zA h' 4 i = c.2.2.2.1 i) ∧ rG h' (c.1 21).toNat c.2.2.2.2 ∧ cL h' w 22 23 (l 0) ∧ cL h' w 24 25 (l 1) ∧ cZ N M h' ∧ mEq h0 h' ∧ (∀ so' ra' n' S', so' ≠ so → ra' ≠ ra → cS h w so' ra' n' S' → cS h' w so' ra' n' S') := by
  obtain ⟨hc, ⟨v1, v2⟩, x1, s0, s1, k1, g1, l0, l1, z1, m1⟩ := R
  have hI : ∀ f x, f ≠ 514 → zI (zsI (zBs h ra g) 514 so v) f x = zI h f x := fun f x z => zI_ne z
  have hB : ∀ a, a ≠ ra → zB (zsI (zBs h ra g) 514 so v) a = zB h a := fun a z => funext fun i => by
    rw [zB_sI, zB_Bs, if_neg z]
  refine ⟨hc, fun k hk hv hne => ?_, v2, scIs_fr x1 rfl (fun _ _ => rfl) (hI _ _ (by decide)) (hI _ _ (by decide)), k1, ?_, ?_, ?_, z1, ⟨fun f hf => (zI_na (by omega)).trans (m1.1 f hf), m1.2⟩, fun so' ra' n' S' p1 p2 hS => ?_⟩
  · rw [zI_sI, if_neg (fun z => hne.elim (fun y => y z.1) (fun y => y z.2))]
    exact v1 k hk hv
  · exact rG_fr g1 (fun _ _ => rfl) hc.k0 rfl (fun i => by rw [hB _ (by omega)]) (hI _ _ (by decide)) (fun f x z1 z2 _ => hI _ _ (by omega))
  · exact cL_fr l0 (fun _ _ => rfl) (Nat.le_refl _) (fun i => by rw [hB _ (by omega)]) (fun _ _ => rfl) (hI _ _ (by decide)) (fun q _ => ⟨hI _ _ (by decide), rfl, fun _ => rfl⟩)
  · exact cL_fr l1 (fun _ _ => rfl) (Nat.le_refl _) (fun i => by rw [hB _ (by omega)]) (fun _ _ => rfl) (hI _ _ (by decide)) (fun q _ => ⟨hI _ _ (by decide), rfl, fun _ => rfl⟩)
  · exact cS_fr hS (fun _ _ => rfl) (Nat.le_refl _) (fun i => by rw [hB _ p2]) rfl (fun _ _ => ⟨rfl, rfl⟩) (fun _ _ => rfl) (fun t _ => ⟨hI _ _ (by decide), hI _ _ (by decide), hI _ _ (by decide), hI _ _ (by decide), fun _ _ => rfl⟩)
theorem RepC.dropN (R : RepC h0 N M h w c l) (hn : c.1 20 = n) (hm : m < n) : RepC h0 N M (zsI (zBs h 6 (rotm (zB h 6) m n)) 514 5 ((n - m : Nat) : Int)) w (dropN c m) l := by
  obtain ⟨b1, b2, b3, b4, b5, b6, b7, b8, b9, b10, b11⟩ := R.drop0 (v := ((n - m : Nat) : Int)) (g := rotm (zB h 6) m n) (Or.inl rfl) (Or.inl rfl)
  have s0 := R.2.2.2.1
  have s1 := R.2.2.2.2.1
  rw [hn, Int.toNat_natCast] at s0
  refine ⟨b1, ⟨fun k hk hv => ?_, fun i hi => (b3 i hi).trans (show c.1 (24 + i) = fup c.1 20 (c.1 20 - m) (24 + i) from (fup_n (by omega)).symm)⟩, b4, ?_, b11 _ _ _ _ (by decide) (by decide) s1, b5, b6, b7, b8, b9, b10⟩
  · show _ = fup c.1 20 (c.1 20 - m) k
    by_cases e : k = 20
    · subst e
      rw [fup_s, hn]
      show zI (zsI (zBs h 6 (rotm (zB h 6) m n)) 514 5 ((n - m : Nat) : Int)) 514 5 = _
      rw [zI_sI_s]
      omega
    · rw [fup_n e]
      refine b2 k hk hv ?_
      by_cases z : fC k = 514
      · by_cases y : aC k = 5
        · exact absurd (fC_inj (k := 20) hk (by decide) hv (Or.inl (by decide)) z y) e
        · exact Or.inr y
      · exact Or.inl z
  · show cS _ w 5 6 (fup c.1 20 (c.1 20 - m) 20).toNat (fun i => c.2.2.1 0 (i + m))
    rw [fup_s, hn, show ((n : Int) - m).toNat = n - m by omega]
    exact cS_drop s0 hm
theorem RepC.dropF (R : RepC h0 N M h w c l) (hn : c.1 12 = n) (hm : m < n) : RepC h0 N M (zsI (zBs h 18 (rotm (zB h 18) m n)) 514 17 ((n - m : Nat) : Int)) w (dropF c m) l := by
  obtain ⟨b1, b2, b3, b4, b5, b6, b7, b8, b9, b10, b11⟩ := R.drop0 (v := ((n - m : Nat) : Int)) (g := rotm (zB h 18) m n) (Or.inr rfl) (Or.inr rfl)
  have s0 := R.2.2.2.1
  have s1 := R.2.2.2.2.1
  rw [hn, Int.toNat_natCast] at s1
  refine ⟨b1, ⟨fun k hk hv => ?_, fun i hi => (b3 i hi).trans (show c.1 (24 + i) = fup c.1 12 (c.1 12 - m) (24 + i) from (fup_n (by omega)).symm)⟩, b4, b11 _ _ _ _ (by decide) (by decide) s0, ?_, b5, b6, b7, b8, b9, b10⟩
  · show _ = fup c.1 12 (c.1 12 - m) k
    by_cases e : k = 12
    · subst e
      rw [fup_s, hn]
      show zI (zsI (zBs h 18 (rotm (zB h 18) m n)) 514 17 ((n - m : Nat) : Int)) 514 17 = _
      rw [zI_sI_s]
      omega
    · rw [fup_n e]
      refine b2 k hk hv ?_
      by_cases z : fC k = 514
      · by_cases y : aC k = 17
        · exact absurd (fC_inj (k := 12) hk (by decide) hv (Or.inl (by decide)) z y) e
        · exact Or.inr y
      · exact Or.inl z
  · show cS _ w 17 18 (fup c.1 12 (c.1 12 - m) 12).toNat (fun i => c.2.2.1 1 (i + m))
    rw [fup_s, hn, show ((n : Int) - m).toNat = n - m by omega]
    exact cS_drop s1 hm
/-- the letters' arrays are no state's -/
theorem lt_ne {la q t : Nat} (hq : ltOK h w la q) (ht : tOK h w ra t) : zR h 192 q ≠ t + 2 := by
  intro e
  have h1 := hq.2.2.2.2.2.2
  have h2 := ht.2.2.2.2.2.2.1
  rw [e, h2] at h1
  have h3 := hq.1
  rw [← h1, ht.2.2.1] at h3
  cases h3
/-- keeping a state where the row is there: what changes, what doesn't -/
theorem RepC.keep0 {t o : Nat} {x : sC} {nu tk : Int} {n' : Nat} (R : RepC h0 N M h w c l) (hso : (so = 5 ∧ ra = 6) ∨ (so = 17 ∧ ra = 18)) (ht : tOK h w ra t) (ho : scIs h o x) :
    let h' := zKp h so t o nu tk n'
    cOK h' ∧ (∀ k, k < 34 → vOK k → fC k ≠ 514 ∨ aC k ≠ so → zI h' (fC k) (aC k) = c.1 k) ∧ zI h' 514 so = n' ∧ (∀ i, i < 7 → zA h' 28 i = c.1 (24 + i)) ∧ scIs h' 15 c.2.1 ∧ (∀ i : Nat, (i : Int) < c.1 13 → zA h' 4 i = c.2.2.2.1 i) ∧ rG h' (c.1 21).toNat c.2.2.2.2 ∧ cL h' w 22 23 (l 0) ∧ cL h' w 24 25 (l 1) ∧ cZ N M h' ∧ mEq h0 h' ∧ (∀ so' ra' n' S', so' ≠ so → ra' ≠ ra → cS h w so' ra' n' S' → cS h' w so' ra' n' S') ∧ sIs h' t (x, nu, tk) ∧ zR h' 513 so = t ∧ zB h' = zB h ∧ (∀ t', tOK h w ra t' → tOK h' w ra t') ∧ (∀ t' y, t' ≠ t → tOK h w ra t' → sIs h t' y → sIs h' t' y) := by
  obtain ⟨hc, ⟨v1, v2⟩, x1, s0, s1, k1, g1, l0, l1, z1, m1⟩ := R
  obtain ⟨t1, t2, t3, t4, t5, t6, t7, t8, t9⟩ := id ht
  have hI : ∀ f y, (f ≠ 449 ∨ y ≠ t) → (f ≠ 450 ∨ y ≠ t) → (f ≠ 385 ∨ y ≠ t + 1) → (f ≠ 386 ∨ y ≠ t + 1) → (f ≠ 514 ∨ y ≠ so) → zI (zKp h so t o nu tk n') f y = zI h f y := by
    intro f y p1 p2 p3 p4 p5
    unfold zKp
    rw [zI_sI, if_neg (by omega), zI_sR, t2, zI_Scr, if_neg (by omega), if_neg (by omega), zI_sI, if_neg (by omega), zI_sI, if_neg (by omega)]
  have hA : ∀ a, a ≠ t + 2 → zA (zKp h so t o nu tk n') a = zA h a := by
    intro a p
    funext i
    unfold zKp
    rw [zA_sI, zA_sR, zA_Scr, if_neg (by rw [t2, zR_sI, zR_sI, t4]; exact p)]
    rfl
  have hRr : ∀ f y, f ≠ 513 ∨ y ≠ so → zR (zKp h so t o nu tk n') f y = zR h f y := by
    intro f y p
    unfold zKp
    rw [zR_sI, zR_sR, if_neg (by omega)]
    rfl
  have hra : (ra = 6 ∨ ra = 18) ∧ (so = 5 ∨ so = 17) := by omega
  have hK : zK (zKp h so t o nu tk n') = zK h := rfl
  have hB : zB (zKp h so t o nu tk n') = zB h := rfl
  have hn : zn (zKp h so t o nu tk n') = zn h := rfl
  refine ⟨hc.fr (fun _ _ => rfl) (fun f y _ p => hRr f y (Or.inl p)), fun k hk hv hne => ?_, ?_, fun i hi => ?_, ?_, fun i hi => ?_, ?_, ?_, ?_, z1, ?_, fun so' ra' n' S' p1 p2 hS => ?_, ⟨⟨fun k hk => ?_, ?_, ?_⟩, ?_, ?_⟩, ?_, rfl, fun t' ht' => ?_, fun t' y p ht' hy => ?_⟩
  · have := fC_r k hk hv
    rw [hI _ _ (by omega) (by omega) (by omega) (by omega) hne]
    exact v1 k hk hv
  · unfold zKp
    exact zI_sI_s
  · rw [hA _ (by omega)]; exact v2 i hi
  · have h16 : zR h 384 15 = 16 := hc.r384_15
    exact scIs_fr x1 (hRr _ _ (Or.inl (by decide))) (fun k _ => by rw [h16, hA _ (by omega)]) (hI _ _ (by omega) (by omega) (by omega) (by omega) (by omega)) (hI _ _ (by omega) (by omega) (by omega) (by omega) (by omega))
  · rw [hA _ (by omega)]; exact k1 i hi
  · exact rG_fr g1 (fun _ _ => rfl) hc.k0 (hRr _ _ (Or.inl (by decide))) (fun _ => rfl) (hI _ _ (by omega) (by omega) (by omega) (by omega) (by omega)) (fun f y z1 z2 _ => hI _ _ (by omega) (by omega) (by omega) (by omega) (by omega))
  · exact cL_fr l0 (fun _ _ => rfl) (Nat.le_refl _) (fun _ => rfl) (fun _ _ => rfl) (hI _ _ (by omega) (by omega) (by omega) (by omega) (by omega)) (fun q hq => ⟨hI _ _ (by omega) (by omega) (by omega) (by omega) (by omega), hRr _ _ (Or.inl (by decide)), fun i => by rw [hA _ (lt_ne hq ht)]⟩)
  · exact cL_fr l1 (fun _ _ => rfl) (Nat.le_refl _) (fun _ => rfl) (fun _ _ => rfl) (hI _ _ (by omega) (by omega) (by omega) (by omega) (by omega)) (fun q hq => ⟨hI _ _ (by omega) (by omega) (by omega) (by omega) (by omega), hRr _ _ (Or.inl (by decide)), fun i => by rw [hA _ (lt_ne hq ht)]⟩)
  · obtain ⟨m1, m2, m3, m4, m5, m6⟩ := m1
    exact ⟨fun f hf => (hI _ _ (by omega) (by omega) (by omega) (by omega) (by omega)).trans (m1 f hf), fun a p1 p2 => (hA a (by omega)).trans (m2 a p1 p2), m3, fun f => (hRr f 29 (Or.inr (by omega))).trans (m4 f), m5, (hA 1 (by omega)).trans m6⟩
  · refine cS_fr hS (fun _ _ => rfl) (Nat.le_refl _) (fun _ => rfl) (hRr _ _ (Or.inr p1)) (fun y _ => ⟨hRr _ _ (Or.inl (by decide)), hRr _ _ (Or.inl (by decide))⟩) (fun _ _ => rfl) (fun t' ht' => ?_)
    have ne : t' ≠ t := by
      intro e
      have a := ht'.2.2.2.2.2.1
      rw [e, t6] at a
      exact p2 a.symm
    exact ⟨hI _ _ (by omega) (by omega) (by omega) (by omega) (by omega), hI _ _ (by omega) (by omega) (by omega) (by omega) (by omega), hI _ _ (by omega) (by omega) (by omega) (by omega) (by omega), hI _ _ (by omega) (by omega) (by omega) (by omega) (by omega), fun k _ => by rw [hA _ (by omega)]⟩
  · rw [hRr _ _ (Or.inl (by decide)), t4]
    unfold zKp
    rw [zA_sI, zA_sR, t2, zA_Scr, zR_sI, zR_sI, t4, if_pos rfl, if_pos hk]
    exact ho.1 k hk
  · unfold zKp
    rw [zI_sI, if_neg (by omega), zI_sR, t2, zI_Scr_r]
    exact ho.2.1
  · unfold zKp
    rw [zI_sI, if_neg (by omega), zI_sR, t2, zI_Scr_c]
    exact ho.2.2
  · unfold zKp
    rw [zI_sI, if_neg (by omega), zI_sR, zI_Scr_o (by decide) (by decide), zI_ne (by decide), zI_sI_s]
  · unfold zKp
    rw [zI_sI, if_neg (by omega), zI_sR, zI_Scr_o (by decide) (by decide), zI_sI_s]
  · unfold zKp
    rw [zR_sI, zR_sR, if_pos ⟨rfl, rfl⟩]
  · exact tOK_fr ht' (fun _ _ => rfl) (Nat.le_refl _) (fun y _ => ⟨hRr _ _ (Or.inl (by decide)), hRr _ _ (Or.inl (by decide))⟩) (fun _ _ => rfl)
  · obtain ⟨u1, u2, u3, u4, u5, u6, u7, u8, u9⟩ := ht'
    obtain ⟨⟨y1, y2, y3⟩, y4, y5⟩ := hy
    refine ⟨⟨fun k hk => ?_, ?_, ?_⟩, ?_, ?_⟩
    · have := y1 k hk
      rw [u4] at this
      rw [hRr _ _ (Or.inl (by decide)), u4, hA _ (by omega)]
      exact this
    · rw [hI _ _ (by omega) (by omega) (by omega) (by omega) (by omega)]; exact y2
    · rw [hI _ _ (by omega) (by omega) (by omega) (by omega) (by omega)]; exact y3
    · rw [hI _ _ (by omega) (by omega) (by omega) (by omega) (by omega)]; exact y4
    · rw [hI _ _ (by omega) (by omega) (by omega) (by omega) (by omega)]; exact y5
theorem RepC.keepN {t o : Nat} {x : sC} {nu tk : Int} (R : RepC h0 N M h w c l) (hn : c.1 20 = n) (hn2 : n < 32) (ht : zB h 6 n = t) (ht0 : t ≠ 0) (ho : scIs h o x) : RepC h0 N M (zKp h 5 t o nu tk (n + 1)) w (addS c 0 20 (x, nu, tk)) l := by
  have s0 := R.2.2.2.1
  have s1 := R.2.2.2.2.1
  rw [hn, Int.toNat_natCast] at s0
  have htk : tOK h w 6 t := by
    have := s0.1 n hn2 (by rw [ht]; exact ht0)
    rw [ht] at this
    exact this
  obtain ⟨b1, b2, b3, b4, b5, b6, b7, b8, b9, b10, b11, b12, b13, b14, b15, b16, b17⟩ := R.keep0 (so := 5) (ra := 6) (nu := nu) (tk := tk) (n' := n + 1) (Or.inl ⟨rfl, rfl⟩) htk ho
  refine ⟨b1, ⟨fun k hk hv => ?_, fun i hi => (b4 i hi).trans (show c.1 (24 + i) = fup c.1 20 (c.1 20 + 1) (24 + i) from (fup_n (by omega)).symm)⟩, b5, ?_, b12 _ _ _ _ (by decide) (by decide) s1, b6, b7, b8, b9, b10, b11⟩
  · show _ = fup c.1 20 (c.1 20 + 1) k
    by_cases e : k = 20
    · subst e
      rw [fup_s, hn]
      show zI _ 514 5 = _
      rw [b3]
      omega
    · rw [fup_n e]
      refine b2 k hk hv ?_
      by_cases z : fC k = 514
      · by_cases y : aC k = 5
        · exact absurd (fC_inj (k := 20) hk (by decide) hv (Or.inl (by decide)) z y) e
        · exact Or.inr y
      · exact Or.inl z
  · show cS _ w 5 6 (fup c.1 20 (c.1 20 + 1) 20).toNat (fun i => if 0 = 0 ∧ i = (c.1 20).toNat then (x, nu, tk) else c.2.2.1 0 i)
    rw [fup_s, hn, show ((n : Int) + 1).toNat = n + 1 by omega, Int.toNat_natCast]
    obtain ⟨a1, a2, a3, a4, a5, a6⟩ := s0
    refine ⟨fun i hi hz => b16 _ (a1 i hi hz), a2, fun i hi => ?_, ?_, by omega, by omega⟩
    · by_cases e : i = n
      · subst e
        dsimp only
        rw [if_pos ⟨rfl, rfl⟩, b15, ht]
        exact ⟨ht0, b13⟩
      · dsimp only
        rw [if_neg (fun z => e z.2), b15]
        obtain ⟨q1, q2⟩ := a3 i (by omega)
        refine ⟨q1, b17 _ _ (fun z => e (a2 i n (by omega) hn2 q1 (z.trans ht.symm))) (a1 i (by omega) q1) q2⟩
    · rw [b14, b15, show n + 1 - 1 = n by omega]
      exact ht.symm
theorem RepC.keepF {t o : Nat} {x : sC} {nu tk : Int} (R : RepC h0 N M h w c l) (hn : c.1 12 = n) (hn2 : n < 32) (ht : zB h 18 n = t) (ht0 : t ≠ 0) (ho : scIs h o x) : RepC h0 N M (zKp h 17 t o nu tk (n + 1)) w (addS c 1 12 (x, nu, tk)) l := by
  have s0 := R.2.2.2.1
  have s1 := R.2.2.2.2.1
  rw [hn, Int.toNat_natCast] at s1
  have htk : tOK h w 18 t := by
    have := s1.1 n hn2 (by rw [ht]; exact ht0)
    rw [ht] at this
    exact this
  obtain ⟨b1, b2, b3, b4, b5, b6, b7, b8, b9, b10, b11, b12, b13, b14, b15, b16, b17⟩ := R.keep0 (so := 17) (ra := 18) (nu := nu) (tk := tk) (n' := n + 1) (Or.inr ⟨rfl, rfl⟩) htk ho
  refine ⟨b1, ⟨fun k hk hv => ?_, fun i hi => (b4 i hi).trans (show c.1 (24 + i) = fup c.1 12 (c.1 12 + 1) (24 + i) from (fup_n (by omega)).symm)⟩, b5, b12 _ _ _ _ (by decide) (by decide) s0, ?_, b6, b7, b8, b9, b10, b11⟩
  · show _ = fup c.1 12 (c.1 12 + 1) k
    by_cases e : k = 12
    · subst e
      rw [fup_s, hn]
      show zI _ 514 17 = _
      rw [b3]
      omega
    · rw [fup_n e]
      refine b2 k hk hv ?_
      by_cases z : fC k = 514
      · by_cases y : aC k = 17
        · exact absurd (fC_inj (k := 12) hk (by decide) hv (Or.inl (by decide)) z y) e
        · exact Or.inr y
      · exact Or.inl z
  · show cS _ w 17 18 (fup c.1 12 (c.1 12 + 1) 12).toNat (fun i => if 1 = 1 ∧ i = (c.1 12).toNat then (x, nu, tk) else c.2.2.1 1 i)
    rw [fup_s, hn, show ((n : Int) + 1).toNat = n + 1 by omega, Int.toNat_natCast]
    obtain ⟨a1, a2, a3, a4, a5, a6⟩ := s1
    refine ⟨fun i hi hz => b16 _ (a1 i hi hz), a2, fun i hi => ?_, ?_, by omega, by omega⟩
    · by_cases e : i = n
      · subst e
        dsimp only
        rw [if_pos ⟨rfl, rfl⟩, b15, ht]
        exact ⟨ht0, b13⟩
      · dsimp only
        rw [if_neg (fun z => e z.2), b15]
        obtain ⟨q1, q2⟩ := a3 i (by omega)
        refine ⟨q1, b17 _ _ (fun z => e (a2 i n (by omega) hn2 q1 (z.trans ht.symm))) (a1 i (by omega) q1) q2⟩
    · rw [b14, b15, show n + 1 - 1 = n by omega]
      exact ht.symm
end cSt
