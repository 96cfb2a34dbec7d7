/-! THE CLASS'S GUESSES: foreseen, settled -/
/-- what the methods of guesses leave alone -/
def frG (h h' : zH) : Prop := (zn h ≤ zn h' ∧ zn h' ≤ zn h + 1 ∧ zs h ≤ zs h' ∧ zs h' ≤ zs h + 7) ∧ (∀ x, x < zn h → zK h' x = zK h x) ∧ (∀ x, zn h ≤ x → ((zK h' x).1 = 11 ∧ x < zn h') ∨ ((zK h' x).1 = (zK h x).1 ∧ zn h' ≤ x)) ∧ (∀ f x, x < zn h → zR h' f x = zR h f x) ∧ zA h' = zA h ∧ (∀ a, a ≠ 11 → zB h' a = zB h a) ∧ (∀ f x, x < zn h → ¬ (64 ≤ f ∧ f ≤ 70) → ¬ (129 ≤ f ∧ f ≤ 134 ∧ x = 10) → zI h' f x = zI h f x)
theorem frG.rf {h : zH} : frG h h := by
  refine ⟨by omega, fun _ _ => rfl, fun x hx => Or.inr ⟨rfl, hx⟩, fun _ _ _ => rfl, rfl, fun _ _ => rfl, fun _ _ _ _ _ => rfl⟩
theorem frG.of_sI {h h' : zH} {f x : Nat} {v : Int} (hf : frG h h') (hc : (64 ≤ f ∧ f ≤ 70) ∨ (129 ≤ f ∧ f ≤ 134 ∧ x = 10)) : frG h (zsI h' f x v) := by
  obtain ⟨f1, f2, f3, f4, f5, f6, f7⟩ := hf
  refine ⟨f1, f2, f3, f4, f5, f6, fun f' x' h1 h2 h3 => ?_⟩
  rw [zI_sI, if_neg (by omega)]
  exact f7 f' x' h1 h2 h3
theorem frG.of_G7 {h h' : zH} {o : Nat} {k a r c s rb cb : Int} (hf : frG h h') : frG h (zG7 h' o k a r c s rb cb) := by
  unfold zG7
  exact ((((((hf.of_sI (by omega)).of_sI (by omega)).of_sI (by omega)).of_sI (by omega)).of_sI (by omega)).of_sI (by omega)).of_sI (by omega)
theorem frG.new {h : zH} {n : Nat} : frG h (zsB (znO h 1 7) 11 n (zn h)) := by
  refine ⟨⟨by show zn h ≤ zn h + 1; omega, by show zn h + 1 ≤ zn h + 1; omega, by show zs h ≤ zs h + 7; omega, by show zs h + 7 ≤ zs h + 7; omega⟩, fun x hx => ?_, fun x hx => ?_, fun f x hx => ?_, rfl, fun a ha => ?_, fun f x hx _ _ => ?_⟩
  · rw [zK_sB, zK_nO, if_neg (by omega)]
  · rw [zK_sB, zK_nO]
    by_cases h1 : x = zn h
    · rw [if_pos h1]; exact Or.inl ⟨rfl, by show x < zn h + 1; omega⟩
    · rw [if_neg h1]; exact Or.inr ⟨rfl, by show zn h + 1 ≤ x; omega⟩
  · rw [zR_sB, zR_nO, if_neg (by omega)]
  · funext i
    rw [zB_sB, if_neg (fun q => ha q.1)]
    rfl
  · rw [zI_sB, zI_nO, if_neg (by omega)]
theorem zI_ne {h : zH} {f f' a x : Nat} {v : Int} (hf : f' ≠ f) : zI (zsI h f a v) f' x = zI h f' x := if_neg (fun q => hf q.1)
theorem zI_na {h : zH} {f f' a x : Nat} {v : Int} (hx : x ≠ a) : zI (zsI h f a v) f' x = zI h f' x := if_neg (fun q => hx q.2)
section zGsO
variable {h : zH} {n : Nat} {g : Nat → Nat → Int} {Q : Option zV → zH → Prop}
/-- a guess's words -/
def gq (k a cell l rb cb : Int) : Nat → Int := fun i => if i = 0 then k else if i = 1 then a else if i = 2 then cell else if i = 3 then l else if i = 4 then rb else cb
theorem zI_G7s {hb : zH} {o : Nat} {k a r c s rb cb : Int} : zI (zG7 hb o k a r c s rb cb) 64 o = k ∧ zI (zG7 hb o k a r c s rb cb) 65 o = a ∧ zI (zG7 hb o k a r c s rb cb) 66 o = r ∧ zI (zG7 hb o k a r c s rb cb) 67 o = c ∧ zI (zG7 hb o k a r c s rb cb) 68 o = s ∧ zI (zG7 hb o k a r c s rb cb) 69 o = rb ∧ zI (zG7 hb o k a r c s rb cb) 70 o = cb := by
  unfold zG7
  refine ⟨?_, ?_, ?_, ?_, ?_, ?_, ?_⟩
  · rw [zI_sI, if_neg (by omega), zI_sI, if_neg (by omega), zI_sI, if_neg (by omega), zI_sI, if_neg (by omega), zI_sI, if_neg (by omega), zI_sI, if_neg (by omega), zI_sI_s]
  · rw [zI_sI, if_neg (by omega), zI_sI, if_neg (by omega), zI_sI, if_neg (by omega), zI_sI, if_neg (by omega), zI_sI, if_neg (by omega), zI_sI_s]
  · rw [zI_sI, if_neg (by omega), zI_sI, if_neg (by omega), zI_sI, if_neg (by omega), zI_sI, if_neg (by omega), zI_sI_s]
  · rw [zI_sI, if_neg (by omega), zI_sI, if_neg (by omega), zI_sI, if_neg (by omega), zI_sI_s]
  · rw [zI_sI, if_neg (by omega), zI_sI, if_neg (by omega), zI_sI_s]
  · rw [zI_sI, if_neg (by omega), zI_sI_s]
  · rw [zI_sI_s]
theorem gIs_arrow {hb : zH} {o : Nat} {k a rb cb m : Int} (ho : (zK hb o).1 = 11) : gIs (zsI (zG7 hb o k a (-1) (-1) (-1) rb cb) 129 10 m) o (gq k a (-1) (-1) rb cb) := by
  obtain ⟨z1, z2, z3, z4, z5, z6, z7⟩ := zI_G7s (hb := hb) (o := o) (k := k) (a := a) (r := -1) (c := -1) (s := -1) (rb := rb) (cb := cb)
  refine ⟨ho, ?_, ?_, ?_, ?_, ?_, ?_, ?_⟩
  · rw [zI_sI, if_neg (by omega), z1]; rfl
  · rw [zI_sI, if_neg (by omega), z2]; rfl
  · rw [zI_sI, if_neg (by omega), z3]; rfl
  · rw [zI_sI, if_neg (by omega), z4]; rfl
  · rw [zI_sI, if_neg (by omega), z5]; rfl
  · rw [zI_sI, if_neg (by omega), z6]; rfl
  · rw [zI_sI, if_neg (by omega), z7]; rfl
theorem gIs_sign {hb : zH} {o : Nat} {k a r c l rb cb m : Int} (ho : (zK hb o).1 = 11) (hr : 0 ≤ r ∧ r < 8 ∧ 0 ≤ c ∧ c < 24) : gIs (zsI (zsI (zsI (zsI (zG7 hb o k a (-1) (-1) (-1) rb cb) 129 10 m) 66 o r) 67 o c) 68 o l) o (gq k a (24 * r + c) l rb cb) := by
  obtain ⟨z1, z2, z3, z4, z5, z6, z7⟩ := zI_G7s (hb := hb) (o := o) (k := k) (a := a) (r := -1) (c := -1) (s := -1) (rb := rb) (cb := cb)
  have e1 : (if 24 * r + c < 0 then -1 else (24 * r + c) / 24) = r := by rw [if_neg (by omega)]; omega
  have e2 : (if 24 * r + c < 0 then -1 else (24 * r + c) % 24) = c := by rw [if_neg (by omega)]; omega
  refine ⟨ho, ?_, ?_, ?_, ?_, ?_, ?_, ?_⟩
  · rw [zI_sI, if_neg (by omega), zI_sI, if_neg (by omega), zI_sI, if_neg (by omega), zI_sI, if_neg (by omega), z1]; rfl
  · rw [zI_sI, if_neg (by omega), zI_sI, if_neg (by omega), zI_sI, if_neg (by omega), zI_sI, if_neg (by omega), z2]; rfl
  · rw [show gq k a (24 * r + c) l rb cb 2 = 24 * r + c from rfl, e1, zI_sI, if_neg (by omega), zI_sI, if_neg (by omega), zI_sI_s]
  · rw [show gq k a (24 * r + c) l rb cb 2 = 24 * r + c from rfl, e2, zI_sI, if_neg (by omega), zI_sI_s]
  · rw [zI_sI_s]; rfl
  · rw [zI_sI, if_neg (by omega), zI_sI, if_neg (by omega), zI_sI, if_neg (by omega), zI_sI, if_neg (by omega), z6]; rfl
  · rw [zI_sI, if_neg (by omega), zI_sI, if_neg (by omega), zI_sI, if_neg (by omega), zI_sI, if_neg (by omega), z7]; rfl
/-- behind an append: the guess o is new, whatever else changed in it -/
theorem rG_app {hb h' : zH} {o : Nat} {q : Nat → Int} (hG : rG h n g) (hn : n < 60) (hz : 48 ≤ zn h) (hx0 : ∀ x, zn h ≤ x → (zK h x).1 = 0) (hb0 : (zB h 11 n ≠ 0 ∧ o = zB h 11 n ∧ hb = h) ∨ (zB h 11 n = 0 ∧ o = zn h ∧ hb = zsB (znO h 1 7) 11 n (zn h)))
    (hK : zK h' = zK hb) (hR : zR h' = zR hb) (hB : zB h' = zB hb) (hI : ∀ f x, 64 ≤ f → f ≤ 70 → x ≠ o → zI h' f x = zI hb f x) (hs : zI h' 129 10 = (n + 1 : Nat)) (hq : gIs h' o q) : rG h' (n + 1) (fun i => if i = n then q else g i) := by
  obtain ⟨⟨r1, r2, r3, r4, r5, r6⟩, s1, s2, s3⟩ := id hG
  rcases hb0 with ⟨b1, b2, b3⟩ | ⟨b1, b2, b3⟩
  · subst b3
    refine rG_one hG hn (fun x _ => by rw [hK]) (by rw [hK]; exact r4) (by rw [hR]; exact r2) ?_ (Or.inl b2) (by rw [b2]; exact b1) hq (fun f x h1 h2 h3 _ => hI f x h1 h2 h3) hs
    rw [hB, b2]
    funext i
    unfold nup
    by_cases hi : i = n
    · rw [if_pos hi, hi]
    · rw [if_neg hi]
  · subst b3
    have hlt : ∀ x, (zK h x).1 ≠ 0 → x < zn h := fun x hx => by
      rcases Nat.lt_or_ge x (zn h) with q | q
      · exact q
      · exact absurd (hx0 x q) hx
    refine rG_one hG hn (fun x hx => ?_) ?_ ?_ ?_ (Or.inr (fun i hi e => ?_)) (by omega) hq (fun f x h1 h2 h3 h4 => ?_) hs
    · have := hlt x hx
      rw [hK, zK_sB, zK_nO, if_neg (by omega)]
    · rw [hK, zK_sB, zK_nO, if_neg (by omega)]; exact r4
    · rw [hR, zR_sB, zR_nO, if_neg (by omega)]; exact r2
    · rw [hB, b2, zsB_as]
      rw [zB_Bs_s]
      rfl
    · have : zB h 11 i ≠ 0 := by rw [e, b2]; omega
      have h5 := r5 i hi this
      rw [e, b2, hx0 _ (Nat.le_refl _)] at h5
      cases h5
    · have := hlt x (by rw [h4]; decide)
      rw [hI f x h1 h2 h3, zI_sB, zI_nO, if_neg (by omega)]
/-- the guesses behind a key of a letter or an arrow, and the age -/
def foreK (k : Int) (row col : Int) : Bool := decide (32 ≤ k ∧ k ≤ 126)
theorem gRows_eq {h' : zH} (hg : gRows h) (hK : zK h' = zK h) (hR : zR h' 128 10 = zR h 128 10) (hB : zB h' 11 = zB h 11) : gRows h' := by
  unfold gRows at *
  rw [hK, hR, hB]
  exact hg
theorem gIs_eq {h' : zH} {o : Nat} {q : Nat → Int} (hg : gIs h o q) (hK : zK h' o = zK h o) (hI : ∀ f, 64 ≤ f → f ≤ 70 → zI h' f o = zI h f o) : gIs h' o q := by
  obtain ⟨g1, g2, g3, g4, g5, g6, g7, g8⟩ := hg
  exact ⟨by rw [hK]; exact g1, by rw [hI _ (by decide) (by decide)]; exact g2, by rw [hI _ (by decide) (by decide)]; exact g3, by rw [hI _ (by decide) (by decide)]; exact g4, by rw [hI _ (by decide) (by decide)]; exact g5, by rw [hI _ (by decide) (by decide)]; exact g6, by rw [hI _ (by decide) (by decide)]; exact g7, by rw [hI _ (by decide) (by decide)]; exact g8⟩
theorem rG_sI {f a : Nat} {v : Int} (hG : rG h n g) (h1 : ¬ (64 ≤ f ∧ f ≤ 70)) (h2 : f ≠ 129) : rG (zsI h f a v) n g := by
  obtain ⟨r, s1, s2, s3⟩ := hG
  refine ⟨gRows_eq r rfl rfl rfl, (zI_ne h2.symm).trans s1, s2, fun i hi => gIs_eq (s3 i hi) rfl (fun f' q1 q2 => zI_ne (fun q => h1 ⟨q ▸ q1, q ▸ q2⟩))⟩
/-- from the append on, for the guess o -/
theorem c_GforeEnd {sg num row col ag e5 : Int} {hb : zH} {o : Nat} (hG : rG h n g) (hz : 48 ≤ zn h) (hx0 : ∀ x, zn h ≤ x → (zK h x).1 = 0) (hr : 0 ≤ row ∧ row < 8 ∧ 0 ≤ col ∧ col < 24) (hw : zw (ag + 1) = ag + 1) (he2 : e5 = 0 ↔ col < 23)
    (hbo : (zB h 11 n ≠ 0 ∧ o = zB h 11 n ∧ hb = h) ∨ (zB h 11 n = 0 ∧ o = zn h ∧ hb = zsB (znO h 1 7) 11 n (zn h))) (ho : (zK hb o).1 = 11) (ho0 : o ≠ 0) (ho10 : o ≠ 10) (h10 : (zK hb 10).1 = 12) (hag2 : zI hb 130 10 = ag) (hoth : ∀ f, 131 ≤ f → f ≤ 134 → zI hb f 10 = zI h f 10) (hfr : frG h hb) (hn : n < 60) (cb : Int)
    (hQ : ∀ h', frG h h' → rG h' (n + 1) (fun i => if i = n then gq num ag (24 * row + col) sg row cb else g i) → zI h' 130 10 = (if col < 23 then ag else ag + 1) → (∀ f, 131 ≤ f → f ≤ 134 → zI h' f 10 = zI h f 10) → Q none h') :
    zE 19 34 [some (.inr 10), some (.inl sg), some (.inl num), some (.inl row), some (.inl col), some (.inl e5), none] [.inr o] (zsI (zG7 hb o num ag (-1) (-1) (-1) row cb) 129 10 (n + 1 : Nat)) Q := by
  rw [xX3_foreseeSign_34, if_pos ho0, xX3_foreseeSign_42, xX3_foreseeSign_48, xX3_foreseeSign_55, xX3_foreseeSign_61]
  refine ⟨ho, ho, ho, ?_⟩
  have hq := gIs_sign (hb := hb) (o := o) (k := num) (a := ag) (r := row) (c := col) (l := sg) (rb := row) (cb := cb) (m := (n + 1 : Nat)) ho hr
  have hfr2 : frG h (zsI (zsI (zsI (zsI (zG7 hb o num ag (-1) (-1) (-1) row cb) 129 10 (n + 1 : Nat)) 66 o row) 67 o col) 68 o sg) := (((hfr.of_G7.of_sI (Or.inr ⟨by decide, by decide, rfl⟩)).of_sI (Or.inl ⟨by decide, by decide⟩)).of_sI (Or.inl ⟨by decide, by decide⟩)).of_sI (Or.inl ⟨by decide, by decide⟩)
  have hI : ∀ f x, 64 ≤ f → f ≤ 70 → x ≠ o → zI (zsI (zsI (zsI (zsI (zG7 hb o num ag (-1) (-1) (-1) row cb) 129 10 (n + 1 : Nat)) 66 o row) 67 o col) 68 o sg) f x = zI hb f x := by
    intro f x h1 h2 h3
    rw [zI_na h3, zI_na h3, zI_na h3, zI_ne (by clear hq; omega), zI_G7 (Or.inr h3)]
  have hF : ∀ f, 129 ≤ f → f ≤ 134 → f ≠ 129 → zI (zsI (zsI (zsI (zsI (zG7 hb o num ag (-1) (-1) (-1) row cb) 129 10 (n + 1 : Nat)) 66 o row) 67 o col) 68 o sg) f 10 = zI hb f 10 := by
    intro f h1 h2 h3
    rw [zI_na ho10.symm, zI_na ho10.symm, zI_na ho10.symm, zI_ne h3, zI_G7 (Or.inr ho10.symm)]
  have hs : zI (zsI (zsI (zsI (zsI (zG7 hb o num ag (-1) (-1) (-1) row cb) 129 10 (n + 1 : Nat)) 66 o row) 67 o col) 68 o sg) 129 10 = (n + 1 : Nat) := by
    rw [zI_na ho10.symm, zI_na ho10.symm, zI_na ho10.symm, zI_sI_s]
  have hK : zK (zsI (zsI (zsI (zsI (zG7 hb o num ag (-1) (-1) (-1) row cb) 129 10 (n + 1 : Nat)) 66 o row) 67 o col) 68 o sg) = zK hb := rfl
  have hR : zR (zsI (zsI (zsI (zsI (zG7 hb o num ag (-1) (-1) (-1) row cb) 129 10 (n + 1 : Nat)) 66 o row) 67 o col) 68 o sg) = zR hb := rfl
  have hB : zB (zsI (zsI (zsI (zsI (zG7 hb o num ag (-1) (-1) (-1) row cb) 129 10 (n + 1 : Nat)) 66 o row) 67 o col) 68 o sg) = zB hb := rfl
  have hage := (hF 130 (by decide) (by decide) (by decide)).trans hag2
  generalize zsI (zsI (zsI (zsI (zG7 hb o num ag (-1) (-1) (-1) row cb) 129 10 (n + 1 : Nat)) 66 o row) 67 o col) 68 o sg = H at *
  have h10' : (zK H 10).1 = 12 := by rw [hK]; exact h10
  have hrG := rG_app hG hn hz hx0 hbo hK hR hB hI hs hq
  have hoth2 : ∀ f, 131 ≤ f → f ≤ 134 → zI H f 10 = zI h f 10 := fun f h1 h2 => (hF f (Nat.le_trans (by decide) h1) h2 (fun q => absurd h1 (by rw [q]; decide))).trans (hoth f h1 h2)
  clear hI hF hs hq hK hR hB
  by_cases hc : col < 23
  · rw [if_pos (he2.mpr hc), xX3_foreseeSign_76]
    exact hQ _ hfr2 hrG (by rw [hage, if_pos hc]) hoth2
  · rw [if_neg (fun q => hc (he2.mp q)), xX3_foreseeSign_66, hage, hw, xX3_foreseeSign_76]
    exact ⟨h10', h10', hQ _ (hfr2.of_sI (Or.inr ⟨by decide, by decide, rfl⟩)) (rG_sI hrG (by decide) (by decide)) (by rw [zI_sI_s, if_neg hc]) (fun f h1 h2 => (zI_ne (fun q => absurd h1 (by rw [q]; decide))).trans (hoth2 f h1 h2))⟩
theorem c_GforeSign {sg num row col : Int} (hG : rG h n g) (hz : 48 ≤ zn h) (hx0 : ∀ x, zn h ≤ x → (zK h x).1 = 0) (hr : 0 ≤ row ∧ row < 8 ∧ 0 ≤ col ∧ col < 24) (hag : 0 ≤ zI h 130 10 ∧ zI h 130 10 < 1000000)
    (h60 : n = 60 → Q none h)
    (hQ : n < 60 → ∀ h', frG h h' → rG h' (n + 1) (fun i => if i = n then gq num (zI h 130 10) (24 * row + col) sg row (if col < 23 then col + 1 else col) else g i) → zI h' 130 10 = (if col < 23 then zI h 130 10 else zI h 130 10 + 1) → (∀ f, 131 ≤ f → f ≤ 134 → zI h' f 10 = zI h f 10) → Q none h') :
    zE 19 0 [some (.inr 10), some (.inl sg), some (.inl num), some (.inl row), some (.inl col), none, none] [] h Q := by
  obtain ⟨⟨r1, r2, r3, r4, r5, r6⟩, s1, s2, s3⟩ := id hG
  have hw : zw (zI h 130 10 + 1) = zI h 130 10 + 1 := zw_eq (by omega) (by omega)
  have happ : ∀ (e5 : Int), (e5 = 0 ↔ col < 23) → zE 19 31 [some (.inr 10), some (.inl sg), some (.inl num), some (.inl row), some (.inl col), some (.inl e5), none] [.inl (if col < 23 then col + 1 else col), .inl row, .inl num, .inr 10] h Q := by
    intro e5 he2
    rw [xX3_foreseeSign_31]
    refine ⟨r1, c_Gapp hG hz ?_ ?_ ?_⟩
    · intro hn
      simp only [Option.toList_some, List.cons_append, List.nil_append]
      rw [xX3_foreseeSign_34, if_neg (fun q => q rfl), xX3_foreseeSign_41]
      exact h60 hn
    · intro hn hnz
      simp only [Option.toList_some, List.cons_append, List.nil_append]
      have h11 := r5 n hn hnz
      exact c_GforeEnd hG hz hx0 hr hw he2 (Or.inl ⟨hnz, rfl, rfl⟩) h11 hnz (fun q => by rw [q, r1] at h11; cases h11) r1 rfl (fun _ _ _ => rfl) frG.rf hn _ (hQ hn)
    · intro hn h0
      simp only [Option.toList_some, List.cons_append, List.nil_append]
      refine c_GforeEnd hG hz hx0 hr hw he2 (Or.inr ⟨h0, rfl, rfl⟩) ?_ (by omega) (by omega) ?_ ?_ ?_ frG.new hn _ (hQ hn)
      · rw [zK_sB, zK_nO, if_pos rfl]
      · rw [zK_sB, zK_nO, if_neg (by omega)]; exact r1
      · rw [zI_sB, zI_nO, if_neg (by omega)]
      · intro f _ _
        rw [zI_sB, zI_nO, if_neg (by omega)]
  simp only [xX3_foreseeSign_0, xX3_foreseeSign_7, xX3_foreseeSign_11, xX3_foreseeSign_12, xX3_foreseeSign_22, xX3_foreseeSign_27]
  by_cases hc : col < 23
  · rw [if_pos hc, if_pos trivial]
    have := happ 0 ⟨fun _ => hc, fun _ => rfl⟩
    rw [if_pos hc] at this
    rw [zw_eq (by omega) (by omega)]
    exact this
  · rw [if_neg hc, if_neg (by decide)]
    have := happ 1 ⟨fun q => absurd q (by decide), fun q => absurd q hc⟩
    rw [if_neg hc] at this
    exact this
end zGsO
