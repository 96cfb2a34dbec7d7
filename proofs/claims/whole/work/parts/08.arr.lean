/-! A LAW AN INSTRUCTION: arrays, what is made, copies -/
section zArr
variable {D : va_G} {cA : Nat → ClassId} {B b L : Nat} {xs : Nat → Int32} {M pc : Nat} {ls : zL} {st : List zV} {h : zH} {r : Option zV} {h' : zH}
theorem zrel_lt {φ : Nat → Nat} {H : Heap} (hR : zRel D cA B b L xs φ h H) (a : Nat) : (zK h a).2 < 2147483648 := hR.2.2.1.2.2.2.2.1 a
theorem zS_iaload {a : Nat} {i : Int} (hd : zdec M pc = some .iaload) (hk : ((zK h a).1 = 1 ∨ (zK h a).1 = 5)) (h0 : 0 ≤ i) (hi : i < (zK h a).2) (k : zSnd D cA B b L xs M (pc + 1) ls (.inl (zA h a i.toNat) :: st) h r h') : zSnd D cA B b L xs M pc ls (.inl i :: .inr a :: st) h r h' := by
  refine zSnd.of k ?_
  intro p l e R s m args below meth cc H locs cells slots Q φ lsR hC hR hS hl hst kk
  obtain ⟨hx, hb, -, -, -, hown, -, hts, hK, hX, hbB, hBs, -⟩ := hC
  have hlen := zrel_lt hR a
  obtain ⟨hP, hD, hw, h1, hK1, hsc⟩ := hR
  have h2 := kk lsR hl (zc1 (show zok _ (.inl _) from hw.2.2.2.2.2.2.2.1 a i.toNat) (zst1 (zst1 hst).2).2)
  rw [List.map_cons] at h2
  rcases hk with hk | hk
  · obtain ⟨a2, an⟩ := hw.own hK1 (a := a) (by omega)
    rw [List.map_cons, List.map_cons, ztr_ref φ (show a ≠ 0 by omega)]
    refine va_iald hx hb hK.1 hP (a - 2) 0 (by rw [zws_get a2 an, zce_int hk]) rfl (zvpin h0 hi hlen) (zdec_eq hd rfl (by decide)) ?_
    rw [zclamp h0 (by omega)]
    exact h2
  · have ha : a = 1 := by
      rcases Nat.lt_or_ge a 2 with q | q
      · have : a = 0 ∨ a = 1 := by omega
        rcases this with rfl | rfl
        · rw [hw.2.2.2.1] at hk; cases hk
        · rfl
      · rcases Nat.lt_or_ge a (zn h) with q2 | q2
        · have := hw.2.1 a q q2; omega
        · have := hw.2.2.1 a q2; omega
    subst ha
    rw [hK1] at hi
    rw [List.map_cons, List.map_cons, ztr_ref φ (show 1 ≠ 0 by omega), h1]
    have hL : L < 2147483648 := by rw [hK1] at hlen; exact hlen
    refine va_sld hx hb hX (Nat.lt_of_lt_of_le hbB hBs) (Nat.not_le.mpr hbB) hS (zvpin h0 hi hL) (zdec_eq hd rfl (by decide)) ?_
    rw [zclamp h0 (by omega), ← hsc i.toNat (by have : i < (L : Int) := hi; omega)]
    exact h2
theorem zce_sA {φ : Nat → Nat} {a i x : Nat} {v : Int} (hx : x ≠ a) : zce cA φ (zsA h a i v) x = zce cA φ h x := by
  have e7 : (x = a) = False := eq_false hx
  simp only [zce, zsA, zA, zK, zB, zu, e7, false_and, if_false]
  rfl
theorem zce_sB {φ : Nat → Nat} {a i x : Nat} {v : Nat} (hx : x ≠ a) : zce cA φ (zsB h a i v) x = zce cA φ h x := by
  have e7 : (x = a) = False := eq_false hx
  simp only [zce, zsB, zA, zK, zB, zu, e7, false_and, if_false]
  rfl
theorem zS_iastore {a : Nat} {i x : Int} (hd : zdec M pc = some .iastore) (hk : (zK h a).1 = 1) (h0 : 0 ≤ i) (hi : i < (zK h a).2) (m2 : zn h ≤ zn h') (m4 : zs h ≤ zs h') (k : zSnd D cA B b L xs M (pc + 1) ls st (zsA h a i.toNat x) r h') : zSnd D cA B b L xs M pc ls (.inl x :: .inl i :: .inr a :: st) h r h' := by
  refine zSnd.gen k (Nat.le_refl _) m2 (Nat.le_refl _) m4 ?_
  intro p l e R s m args below meth cc H locs cells slots Q φ lsR hC hR hS hl hst hcs hss kk
  obtain ⟨hx, hb, -, -, -, hown, -, hts, hK, hX, hbB, hBs, -⟩ := hC
  have hlen := zrel_lt hR a
  obtain ⟨hP, hD, hw, h1, hK1, hsc⟩ := hR
  obtain ⟨a2, an⟩ := hw.own hK1 (a := a) (by omega)
  have hx0 : -2147483648 ≤ x ∧ x < 2147483648 := (zst1 hst).1
  have hst' := (zst1 (zst1 (zst1 hst).2).2).2
  have hw2 : zwf (zsA h a i.toNat x) := by
    obtain ⟨w1, w2, w3, w4, w5, w6, w7, w8, w9⟩ := hw
    refine ⟨w1, w2, w3, w4, w5, w6, w7, fun f y => ?_, w9⟩
    show -2147483648 ≤ (if f = a ∧ y = i.toNat then x else zA h f y) ∧ (if f = a ∧ y = i.toNat then x else zA h f y) < 2147483648
    by_cases hfy : f = a ∧ y = i.toNat
    · rw [if_pos hfy]; exact hx0
    · rw [if_neg hfy]; exact w8 f y
  rw [List.map_cons, List.map_cons, List.map_cons, ztr_ref φ (show a ≠ 0 by omega)]
  refine va_iast hx hb hK.1 hP hD hS (a - 2) 0 (by rw [zws_get a2 an, zce_int hk]) rfl (zvpin h0 hi hlen) (zdec_eq hd rfl (by decide)) ?_
  intro H1 locs1 hP1 hD1 hS1
  rw [zclamp h0 (by omega)] at hP1 hD1
  have hset : zws cA φ (zsA h a i.toNat x) = (zws cA φ h).set (a - 2) (φ a, .inl (cA 1, (zK h a).2, .inl (upd (fun j => Int32.ofInt (zA h a j)) i.toNat (Int32.ofInt x)))) := by
    rw [zws_set (h := h) (h2 := zsA h a i.toNat x) rfl a2 an (fun y hy => zce_sA hy), zce_int (h := zsA h a i.toNat x) hk]
    have e8 : (fun j => Int32.ofInt (zA (zsA h a i.toNat x) a j)) = upd (fun j => Int32.ofInt (zA h a j)) i.toNat (Int32.ofInt x) := by
      funext j
      show Int32.ofInt (if a = a ∧ j = i.toNat then x else zA h a j) = if j = i.toNat then Int32.ofInt x else Int32.ofInt (zA h a j)
      by_cases hj : j = i.toNat
      · rw [if_pos ⟨rfl, hj⟩, if_pos hj]
      · rw [if_neg (fun q => hj q.2), if_neg hj]
    rw [e8]
    rfl
  rw [← hset] at hP1 hD1
  have hsc2 : ∀ j, j < L → Int32.ofInt (zA (zsA h a i.toNat x) 1 j) = xs j := by
    intro j hj
    have e9 : zA (zsA h a i.toNat x) 1 j = zA h 1 j := by
      show (if 1 = a ∧ j = i.toNat then x else zA h 1 j) = zA h 1 j
      rw [if_neg (by omega)]
    rw [e9]
    exact hsc j hj
  have hkk := kk φ H1 locs1 lsR zext.rf ⟨hP1, hD1, hw2, h1, hK1, hsc2⟩ hS1 hl hst'
  rw [show cells + (zn (zsA h a i.toNat x) - zn h) = cells from by show cells + (zn h - zn h) = cells; omega, show slots + (zs (zsA h a i.toNat x) - zs h) = slots from by show slots + (zs h - zs h) = slots; omega] at hkk
  exact hkk
theorem ztys_at {t : Nat} (ht : 2 ≤ t ∧ t ≤ 4) : (ztys cA)[t - 1]? = some (cA t, .object (zcw (zel t)).1) := by
  have : t = 2 ∨ t = 3 ∨ t = 4 := by omega
  rcases this with rfl | rfl | rfl <;> rfl
theorem zS_aaload {a : Nat} {i : Int} (hd : zdec M pc = some .aaload) (hk : 2 ≤ (zK h a).1 ∧ (zK h a).1 ≤ 4) (h0 : 0 ≤ i) (hi : i < (zK h a).2) (k : zSnd D cA B b L xs M (pc + 1) ls (.inr (zB h a i.toNat) :: st) h r h') : zSnd D cA B b L xs M pc ls (.inl i :: .inr a :: st) h r h' := by
  refine zSnd.of k ?_
  intro p l e R s m args below meth cc H locs cells slots Q φ lsR hC hR hS hl hst kk
  obtain ⟨hx, hb, -, -, -, hown, -, hts, hK, hX, hbB, hBs, -⟩ := hC
  have hlen := zrel_lt hR a
  obtain ⟨hP, hD, hw, h1, hK1, hsc⟩ := hR
  have h2 := kk lsR hl (zc1 (show zok _ (.inr _) from hw.2.2.2.2.2.2.2.2 a i.toNat) (zst1 (zst1 hst).2).2)
  rw [List.map_cons] at h2
  obtain ⟨a2, an⟩ := hw.own hK1 (a := a) (by omega)
  rw [List.map_cons, List.map_cons, ztr_ref φ (show a ≠ 0 by omega)]
  refine va_aldq hx hb hK.1 hP (a - 2) ((zK h a).1 - 1) (by rw [zws_get a2 an, zce_arr hk]) (ztys_at hk) (zvpin h0 hi hlen) (zdec_eq hd rfl (by decide)) ?_
  rw [zclamp h0 (by omega)]
  exact h2
theorem zel_lt {t : Nat} : zel t < 11 := by unfold zel; split; decide; split <;> decide
theorem zS_aastore {a v : Nat} {i : Int} (hd : zdec M pc = some .aastore) (hk : 2 ≤ (zK h a).1 ∧ (zK h a).1 ≤ 4) (hkv : (zK h v).1 = 10 + zel (zK h a).1) (h0 : 0 ≤ i) (hi : i < (zK h a).2) (m2 : zn h ≤ zn h') (m4 : zs h ≤ zs h') (k : zSnd D cA B b L xs M (pc + 1) ls st (zsB h a i.toNat v) r h') : zSnd D cA B b L xs M pc ls (.inr v :: .inl i :: .inr a :: st) h r h' := by
  refine zSnd.gen k (Nat.le_refl _) m2 (Nat.le_refl _) m4 ?_
  intro p l e R s m args below meth cc H locs cells slots Q φ lsR hC hR hS hl hst hcs hss kk
  obtain ⟨hx, hb, -, -, -, hown, -, hts, hK, hX, hbB, hBs, -⟩ := hC
  have hlen := zrel_lt hR a
  obtain ⟨hP, hD, hw, h1, hK1, hsc⟩ := hR
  obtain ⟨a2, an⟩ := hw.own hK1 (a := a) (by omega)
  obtain ⟨v2, vn⟩ := hw.own hK1 (a := v) (by omega)
  have hst' := (zst1 (zst1 (zst1 hst).2).2).2
  have hw2 : zwf (zsB h a i.toNat v) := by
    obtain ⟨w1, w2, w3, w4, w5, w6, w7, w8, w9⟩ := hw
    refine ⟨w1, w2, w3, w4, w5, w6, w7, w8, fun f y => ?_⟩
    show (if f = a ∧ y = i.toNat then v else zB h f y) < zn h
    by_cases hfy : f = a ∧ y = i.toNat
    · rw [if_pos hfy]; exact vn
    · rw [if_neg hfy]; exact w9 f y
  rw [List.map_cons, List.map_cons, List.map_cons, ztr_ref φ (show a ≠ 0 by omega), ztr_ref φ (show v ≠ 0 by omega)]
  refine va_astq hx hb hK.1 hP hD hS (a - 2) ((zK h a).1 - 1) (v - 2) (zel (zK h a).1) (by rw [zws_get a2 an, zce_arr hk]) (ztys_at hk) (by rw [zws_get v2 vn, zce_obj hkv]) (zcl_at zel_lt) (zvpin h0 hi hlen) (zdec_eq hd rfl (by decide)) ?_
  intro H1 locs1 hP1 hD1 hS1
  rw [zclamp h0 (by omega)] at hP1 hD1
  have hset : zws cA φ (zsB h a i.toNat v) = (zws cA φ h).set (a - 2) (φ a, .inl (cA (zK h a).1, (zK h a).2, .inr (.inr (.inr (.inr (va_up (fun j => zrf φ (zB h a j)) i.toNat (some (φ v)))))))) := by
    rw [zws_set (h := h) (h2 := zsB h a i.toNat v) rfl a2 an (fun y hy => zce_sB hy), zce_arr (h := zsB h a i.toNat v) hk]
    have e8 : (fun j => zrf φ (zB (zsB h a i.toNat v) a j)) = va_up (fun j => zrf φ (zB h a j)) i.toNat (some (φ v)) := by
      funext j
      show zrf φ (if a = a ∧ j = i.toNat then v else zB h a j) = if j = i.toNat then some (φ v) else zrf φ (zB h a j)
      by_cases hj : j = i.toNat
      · rw [if_pos ⟨rfl, hj⟩, if_pos hj]
        unfold zrf
        rw [if_neg (by omega)]
      · rw [if_neg (fun q => hj q.2), if_neg hj]
    rw [e8]
    rfl
  rw [← hset] at hP1 hD1
  have hkk := kk φ H1 locs1 lsR zext.rf ⟨hP1, hD1, hw2, h1, hK1, hsc⟩ hS1 hl hst'
  rw [show cells + (zn (zsB h a i.toNat v) - zn h) = cells from by show cells + (zn h - zn h) = cells; omega, show slots + (zs (zsB h a i.toNat v) - zs h) = slots from by show slots + (zs h - zs h) = slots; omega] at hkk
  exact hkk
theorem zS_alen {a : Nat} (hd : zdec M pc = some .arraylength) (hk : 1 ≤ (zK h a).1 ∧ (zK h a).1 ≤ 5) (k : zSnd D cA B b L xs M (pc + 1) ls (.inl ((zK h a).2 : Int) :: st) h r h') : zSnd D cA B b L xs M pc ls (.inr a :: st) h r h' := by
  refine zSnd.of k ?_
  intro p l e R s m args below meth cc H locs cells slots Q φ lsR hC hR hS hl hst kk
  obtain ⟨hx, hb, -, -, -, hown, -, hts, hK, hX, hbB, hBs, -⟩ := hC
  have hlen := zrel_lt hR a
  obtain ⟨hP, hD, hw, h1, hK1, hsc⟩ := hR
  have h2 := kk lsR hl (zc1 (show zok _ (.inl _) from ⟨by omega, by omega⟩) (zst1 hst).2)
  rw [List.map_cons] at h2
  by_cases h5 : (zK h a).1 = 5
  · have ha : a = 1 := by
      rcases Nat.lt_or_ge a 2 with q | q
      · have : a = 0 ∨ a = 1 := by omega
        rcases this with rfl | rfl
        · rw [hw.2.2.2.1] at h5; cases h5
        · rfl
      · rcases Nat.lt_or_ge a (zn h) with q2 | q2
        · have := hw.2.1 a q q2; omega
        · have := hw.2.2.1 a q2; omega
    subst ha
    rw [List.map_cons, ztr_ref φ (show 1 ≠ 0 by omega), h1]
    refine va_slen hx hb hX (Nat.lt_of_lt_of_le hbB hBs) (Nat.not_le.mpr hbB) hS (zdec_eq hd rfl (by decide)) ?_
    rw [hK1] at h2
    exact h2
  · obtain ⟨a2, an⟩ := hw.own hK1 (a := a) (by omega)
    rw [List.map_cons, ztr_ref φ (show a ≠ 0 by omega)]
    by_cases h11 : (zK h a).1 = 1
    · have he : (zws cA φ h)[a - 2]? = some (φ a, .inl (cA 1, (zK h a).2, .inl (fun j => Int32.ofInt (zA h a j)))) := by rw [zws_get a2 an, zce_int h11]
      exact va_alen hx hb hK.1 hP (a - 2) 0 he (ty := .int) rfl (v := Int32.ofInt ((zK h a).2 : Int)) rfl (zdec_eq hd rfl (by decide)) h2
    · have he : (zws cA φ h)[a - 2]? = some (φ a, .inl (cA (zK h a).1, (zK h a).2, .inr (.inr (.inr (.inr (fun j => zrf φ (zB h a j))))))) := by rw [zws_get a2 an, zce_arr (by omega)]
      exact va_alen hx hb hK.1 hP (a - 2) ((zK h a).1 - 1) he (ztys_at (by omega)) (v := Int32.ofInt ((zK h a).2 : Int)) rfl (zdec_eq hd rfl (by decide)) h2
/-- the world behind a making -/
theorem zws_push {φ φ' : Nat → Nat} {h2 : zH} {q : Nat} {E : va_E} (hw : zwf h) (hn : zn h2 = zn h + 1) (he : zext φ φ' (zn h)) (hq : φ' (zn h) = q) (hE : zce cA φ' h2 (zn h) = E) (ho : ∀ x, x < zn h → zce cA φ' h2 x = zce cA φ h x) : zws cA φ' h2 = zws cA φ h ++ [(q, E)] := by
  have h2le : 2 ≤ zn h := hw.1
  unfold zws
  rw [hn, show zn h + 1 - 2 = (zn h - 2) + 1 by omega, List.range_succ, List.map_append]
  congr 1
  · apply List.map_congr_left
    intro i hi
    have hi2 := List.mem_range.mp hi
    rw [he (i + 2) (by omega), ho (i + 2) (by omega)]
  · simp only [List.map_cons, List.map_nil]
    rw [show zn h - 2 + 2 = zn h by omega, hq, hE]
theorem zrf_ext {φ φ' : Nat → Nat} {n : Nat} (he : zext φ φ' n) {x : Nat} (hx : x < n) : zrf φ' x = zrf φ x := by
  unfold zrf
  rw [he x hx]
theorem zce_ext {φ φ' : Nat → Nat} (hw : zwf h) (he : zext φ φ' (zn h)) (x : Nat) : zce cA φ' h x = zce cA φ h x := by
  obtain ⟨w1, w2, w3, w4, w5, w6, w7, w8, w9⟩ := hw
  have e1 : (fun j => zrf φ' (zB h x j)) = (fun j => zrf φ (zB h x j)) := funext (fun j => zrf_ext he (w9 x j))
  have e2 : ∀ c, zfv φ' h c x = zfv φ h c x := fun c => funext (fun k => by simp only [zfv, zrf_ext he (w7 _ x)])
  simp only [zce, e1, e2]
theorem zce_nA {φ : Nat → Nat} {t N x : Nat} (hx : x < zn h) : zce cA φ (znA h t N) x = zce cA φ h x := by
  have e7 : (x = zn h) = False := eq_false (by omega)
  have f1 : zK (znA h t N) x = zK h x := by simp only [znA, zK, e7, if_false]
  have f2 : ∀ j, zA (znA h t N) x j = zA h x j := fun j => by simp only [znA, zA, e7, if_false]
  have f3 : ∀ j, zB (znA h t N) x j = zB h x j := fun j => by simp only [znA, zB, e7, if_false]
  have f4 : ∀ c, zfv φ (znA h t N) c x = zfv φ h c x := fun c => rfl
  simp only [zce, f1, f2, f3, f4]
theorem zce_nO {φ : Nat → Nat} {c N x : Nat} (hx : x < zn h) : zce cA φ (znO h c N) x = zce cA φ h x := by
  have e7 : (x = zn h) = False := eq_false (by omega)
  have f1 : zK (znO h c N) x = zK h x := by simp only [znO, zK, e7, if_false]
  have f2 : ∀ f, zI (znO h c N) f x = zI h f x := fun j => by simp only [znO, zI, e7, if_false]
  have f3 : ∀ f, zR (znO h c N) f x = zR h f x := fun j => by simp only [znO, zR, e7, if_false]
  have f4 : ∀ c', zfv φ (znO h c N) c' x = zfv φ h c' x := fun c' => funext (fun k => by simp only [zfv, f2, f3])
  simp only [zce, f1, f4]
  rfl
theorem zwf_nA {t N : Nat} (hw : zwf h) (ht : 1 ≤ t ∧ t ≤ 4) (hN : N < 2147483648) : zwf (znA h t N) := by
  obtain ⟨w1, w2, w3, w4, w5, w6, w7, w8, w9⟩ := hw
  refine ⟨by show 2 ≤ zn h + 1; omega, fun a h1 h2 => ?_, fun a h1 => ?_, ?_, fun a => ?_, w6, fun f a => Nat.lt_succ_of_lt (w7 f a), fun a i => ?_, fun a i => ?_⟩
  · show (1 ≤ (if a = zn h then (t, N) else zK h a).1 ∧ (if a = zn h then (t, N) else zK h a).1 ≤ 4) ∨ (10 ≤ (if a = zn h then (t, N) else zK h a).1 ∧ (if a = zn h then (t, N) else zK h a).1 < 21)
    by_cases ha : a = zn h
    · rw [if_pos ha]; exact Or.inl ht
    · rw [if_neg ha]; exact w2 a h1 (by have : a < zn h + 1 := h2; omega)
  · have h1' : zn h + 1 ≤ a := h1
    show (if a = zn h then (t, N) else zK h a).1 = 0
    rw [if_neg (by omega)]; exact w3 a (by omega)
  · show (if 0 = zn h then (t, N) else zK h 0).1 = 0
    rw [if_neg (by omega)]; exact w4
  · show (if a = zn h then (t, N) else zK h a).2 < 2147483648
    by_cases ha : a = zn h
    · rw [if_pos ha]; exact hN
    · rw [if_neg ha]; exact w5 a
  · show -2147483648 ≤ (if a = zn h then 0 else zA h a i) ∧ (if a = zn h then 0 else zA h a i) < 2147483648
    by_cases ha : a = zn h
    · rw [if_pos ha]; omega
    · rw [if_neg ha]; exact w8 a i
  · show (if a = zn h then 0 else zB h a i) < zn h + 1
    by_cases ha : a = zn h
    · rw [if_pos ha]; omega
    · rw [if_neg ha]; have := w9 a i; omega
theorem zwf_nO {c N : Nat} (hw : zwf h) (hc : c < 11) : zwf (znO h c N) := by
  obtain ⟨w1, w2, w3, w4, w5, w6, w7, w8, w9⟩ := hw
  refine ⟨by show 2 ≤ zn h + 1; omega, fun a h1 h2 => ?_, fun a h1 => ?_, ?_, fun a => ?_, fun f a => ?_, fun f a => ?_, w8, fun a i => Nat.lt_succ_of_lt (w9 a i)⟩
  · show (1 ≤ (if a = zn h then (10 + c, 0) else zK h a).1 ∧ (if a = zn h then (10 + c, 0) else zK h a).1 ≤ 4) ∨ (10 ≤ (if a = zn h then (10 + c, 0) else zK h a).1 ∧ (if a = zn h then (10 + c, 0) else zK h a).1 < 21)
    by_cases ha : a = zn h
    · rw [if_pos ha]; exact Or.inr ⟨by show 10 ≤ 10 + c; omega, by show 10 + c < 21; omega⟩
    · rw [if_neg ha]; exact w2 a h1 (by have : a < zn h + 1 := h2; omega)
  · have h1' : zn h + 1 ≤ a := h1
    show (if a = zn h then (10 + c, 0) else zK h a).1 = 0
    rw [if_neg (by omega)]; exact w3 a (by omega)
  · show (if 0 = zn h then (10 + c, 0) else zK h 0).1 = 0
    rw [if_neg (by omega)]; exact w4
  · show (if a = zn h then (10 + c, 0) else zK h a).2 < 2147483648
    by_cases ha : a = zn h
    · rw [if_pos ha]; show 0 < 2147483648; omega
    · rw [if_neg ha]; exact w5 a
  · show -2147483648 ≤ (if a = zn h then 0 else zI h f a) ∧ (if a = zn h then 0 else zI h f a) < 2147483648
    by_cases ha : a = zn h
    · rw [if_pos ha]; omega
    · rw [if_neg ha]; exact w6 f a
  · show (if a = zn h then 0 else zR h f a) < zn h + 1
    by_cases ha : a = zn h
    · rw [if_pos ha]; omega
    · rw [if_neg ha]; have := w7 f a; omega
theorem zext_new (φ : Nat → Nat) (n q : Nat) : zext φ (fun a => if a = n then q else φ a) n := fun a ha => if_neg (by omega)
theorem zS_newarray {n : Int} (hd : zdec M pc = some (.newarray .int)) (h0 : 0 ≤ n) (hn : n ≤ 100000) (m2 : zn h + 1 ≤ zn h') (m4 : zs h + n.toNat ≤ zs h') (k : zSnd D cA B b L xs M (pc + 2) ls (.inr (zn h) :: st) (znA h 1 n.toNat) r h') : zSnd D cA B b L xs M pc ls (.inl n :: st) h r h' := by
  refine zSnd.gen k (Nat.le_succ _) m2 (Nat.le_add_right _ _) m4 ?_
  intro p l e R s m args below meth cc H locs cells slots Q φ lsR hC hR hS hl hst hcs hss kk
  have e1 : zn (znA h 1 n.toNat) - zn h = 1 := by show zn h + 1 - zn h = 1; omega
  have e2 : zs (znA h 1 n.toNat) - zs h = n.toNat := by show zs h + n.toNat - zs h = n.toNat; omega
  rw [e1] at hcs kk
  rw [e2] at hss kk
  obtain ⟨hx, hb, -, -, -, hown, -, hts, hK, hX, hbB, hBs, -⟩ := hC
  obtain ⟨hP, hD, hw, h1, hK1, hsc⟩ := hR
  have h2le : 2 ≤ zn h := hw.1
  have harr : (Cond.arrayClass .int).before args s = true := hts _ (zW_0 List.mem_cons_self)
  have hneg : ¬ Int32.ofInt n < 0 := by rw [z0I, zltI (by omega) (by omega)]; omega
  rw [List.map_cons]
  have hby : n.toNat * componentBytes .int ≤ 536870912 := by
    have e4 : componentBytes .int = 4 := rfl
    rw [e4]; omega
  have hcell : ∀ c9 : ClassId, vp_cell c9 (n.toNat, .inl (fun _ => 0)) = arrV c9 n.toNat (fun _ => defaultValue .int) := fun _ => rfl
  have hcl : (Int32.ofInt n).toNatClampNeg = n.toNat := zclamp h0 (by omega)
  have hdd := zdec_eq hd rfl (by decide)
  refine va_newa (ty := .int) (N' := n.toNat) (a0 := (n.toNat, .inl (fun _ => 0))) (n := Int32.ofInt n) (atype := .int) hx hb harr rfl hK.1 hP hD hS ?_ ?_ ?_ ?_ ?_ ?_ ?_ ?_ ?_
  · exact (fun q hq => Nat.le_trans hBs hq)
  · exact hcell
  · exact hneg
  · exact hcl
  · exact hby
  · exact hcs
  · exact hss
  · exact hdd
  intro q cA' H1 hK2 hP1 hD1 hS1
  have hcc : cA' = cA 1 := by
    have a1 : va_RA s cA' .int := (hK2.2 4 (cA', .int) rfl).2
    have a2 : va_RA s (cA 1) .int := (hK.1.2 0 (cA 1, .int) rfl).2
    have b1 : s.vm.findClass ("[" ++ FieldType.int.toString) = some cA' := by unfold va_RA at a1; exact a1
    have b2 : s.vm.findClass ("[" ++ FieldType.int.toString) = some (cA 1) := by unfold va_RA at a2; exact a2
    rw [b1] at b2
    exact Option.some.inj b2
  subst hcc
  have hpu : zws cA (fun a => if a = zn h then q else φ a) (znA h 1 n.toNat) = zws cA φ h ++ [(q, .inl (cA 1, n.toNat, .inl (fun _ => 0)))] := by
    refine zws_push hw rfl (zext_new φ (zn h) q) (if_pos rfl) ?_ (fun x hx2 => (zce_nA hx2).trans (zce_ext hw (zext_new φ (zn h) q) x))
    have f1 : zK (znA h 1 n.toNat) (zn h) = (1, n.toNat) := if_pos rfl
    rw [zce_int (by rw [f1])]
    rw [f1]
    have f2 : (fun j => Int32.ofInt (zA (znA h 1 n.toNat) (zn h) j)) = (fun _ => 0) := funext (fun j => by
      have g2 : zA (znA h 1 n.toNat) (zn h) j = 0 := if_pos rfl
      rw [g2]; exact z0I.symm)
    rw [f2]
  rw [← hpu] at hP1 hD1
  have hkk := kk (fun a => if a = zn h then q else φ a) H1 locs lsR (zext_new φ (zn h) q) ⟨hP1, hD1, zwf_nA hw (by omega) (by omega), (if_neg (by omega)).trans h1, (if_neg (by omega)).trans hK1, fun j hj => by
    have e9 : zA (znA h 1 n.toNat) 1 j = zA h 1 j := if_neg (by omega)
    rw [e9]; exact hsc j hj⟩ hS1 (hl.ext (zext_new φ (zn h) q) (Nat.le_succ _)) (zc1 (show zok _ (.inr _) from Nat.lt_succ_self _) (fun v hv => ((zst1 hst).2 v hv).mono (Nat.le_succ _)))
  rw [List.map_cons, zst_ext (zext_new φ (zn h) q) (zst1 hst).2, ztr_ref _ (by omega), if_pos rfl] at hkk
  exact hkk
theorem zcc_ok : ∀ e ∈ zcc, e.2.2 < 11 := by decide +kernel
theorem zdef_ok : ∀ c, c < 11 → ∀ j, j < (zcw c).2.2 → defaultValue (zty c j) = (if zir c j = true then Value.null else Value.int 0) := by decide +kernel
theorem zS_new {ix c : Nat} (hd : zdec M pc = some (.new ix)) (hq : zlkc (zown M) ix = some c) (m2 : zn h + 1 ≤ zn h') (m4 : zs h + (zcw c).2.2 ≤ zs h') (k : zSnd D cA B b L xs M (pc + 3) ls (.inr (zn h) :: st) (znO h c (zcw c).2.2) r h') : zSnd D cA B b L xs M pc ls st h r h' := by
  refine zSnd.gen k (Nat.le_succ _) m2 (Nat.le_add_right _ _) m4 ?_
  intro p l e R s m args below meth cc H locs cells slots Q φ lsR hC hR hS hl hst hcs hss kk
  have e1 : zn (znO h c (zcw c).2.2) - zn h = 1 := by show zn h + 1 - zn h = 1; omega
  have e2 : zs (znO h c (zcw c).2.2) - zs h = (zcw c).2.2 := by show zs h + (zcw c).2.2 - zs h = (zcw c).2.2; omega
  rw [e1] at hcs kk
  rw [e2] at hss kk
  obtain ⟨hx, hb, -, -, -, hown, -, hts, hK, hX, hbB, hBs, -⟩ := hC
  obtain ⟨hP, hD, hw, h1, hK1, hsc⟩ := hR
  have h2le : 2 ≤ zn h := hw.1
  have hmem := zlkc_mem hq
  have hc : c < 11 := zcc_ok _ hmem
  have hlink : Cond.classLink (zon (zown M)) ix (zcw c).1 ∈ zW := zW_6 (List.mem_map.mpr ⟨_, hmem, rfl⟩)
  have hinst : Cond.instantiable (zcw c).1 (zcw c).2.2 ∈ zW := zW_3 (List.mem_flatMap.mpr ⟨zcw c, List.mem_of_getElem? (zcl_at hc), List.mem_cons_self⟩)
  have hini : Cond.initialized (zcw c).1 ∈ zW := by
    have : (zcw c).1 ∈ zO := by
      have g : ∀ c, c < 11 → (zcw c).1 ∈ zO := by decide +kernel
      exact g c hc
    exact zW_1 (List.mem_map.mpr ⟨_, this, rfl⟩)
  have hfs : ∀ j, j < (zcw c).2.2 → defaultValue (zty c j) = vp_V ((List.range (zcw c).2.2).map (fun j => if zir c j = true then Value.null else Value.int 0)) j := by
    intro j hj
    rw [zdef_ok c hc j hj]
    unfold vp_V
    rw [List.getD_eq_getElem?_getD, List.getElem?_map, List.getElem?_range hj]
    rfl
  refine va_new (ci := c) hx hb hts (zcl_in hc) (zty c) (zty_ok c hc) hown (hts _ hlink) (hts _ hinst) (hts _ hini) hK.1 hP hD hS (fun q hq => Nat.le_trans hBs hq) (zcl_at hc) hfs hcs hss (zdec_eq hd rfl (by decide)) ?_
  intro q H1 hP1 hD1 hS1
  have hpu : zws cA (fun a => if a = zn h then q else φ a) (znO h c (zcw c).2.2) = zws cA φ h ++ [(q, .inr (c, (List.range (zcw c).2.2).map (fun j => if zir c j = true then Value.null else Value.int 0)))] := by
    refine zws_push hw rfl (zext_new φ (zn h) q) (if_pos rfl) ?_ (fun x hx2 => (zce_nO hx2).trans (zce_ext hw (zext_new φ (zn h) q) x))
    have f1 : zK (znO h c (zcw c).2.2) (zn h) = (10 + c, 0) := if_pos rfl
    rw [zce_obj (c := c) (by rw [f1])]
    have f2 : zfv (fun a => if a = zn h then q else φ a) (znO h c (zcw c).2.2) c (zn h) = (fun j => if zir c j = true then Value.null else Value.int 0) := by
      funext j
      have g1 : zI (znO h c (zcw c).2.2) (64 * c + j) (zn h) = 0 := if_pos rfl
      have g2 : zR (znO h c (zcw c).2.2) (64 * c + j) (zn h) = 0 := if_pos rfl
      simp only [zfv, g1, g2]
      rfl
    rw [f2]
  rw [← hpu] at hP1 hD1
  have hkk := kk (fun a => if a = zn h then q else φ a) H1 locs lsR (zext_new φ (zn h) q) ⟨hP1, hD1, zwf_nO hw hc, (if_neg (by omega)).trans h1, (if_neg (by omega)).trans hK1, hsc⟩ hS1 (hl.ext (zext_new φ (zn h) q) (Nat.le_succ _)) (zc1 (show zok _ (.inr _) from Nat.lt_succ_self _) (fun v hv => (hst v hv).mono (Nat.le_succ _)))
  rw [List.map_cons, zst_ext (zext_new φ (zn h) q) hst, ztr_ref _ (by omega), if_pos rfl] at hkk
  exact hkk
theorem zat_ok : ∀ c, c < 11 → zat c ≠ 0 → (2 ≤ zat c ∧ zat c ≤ 4) ∧ zel (zat c) = c ∧ ((zcw c).1 = RX8 ∨ (zcw c).1 = RX4 ∨ (zcw c).1 = RX2) := by decide +kernel
theorem zS_anewarray {ix c : Nat} {n : Int} (hd : zdec M pc = some (.anewarray ix)) (hq : zlkc (zown M) ix = some c) (hc0 : zat c ≠ 0) (h0 : 0 ≤ n) (hn : n ≤ 100000) (m2 : zn h + 1 ≤ zn h') (m4 : zs h + n.toNat ≤ zs h') (k : zSnd D cA B b L xs M (pc + 3) ls (.inr (zn h) :: st) (znA h (zat c) n.toNat) r h') : zSnd D cA B b L xs M pc ls (.inl n :: st) h r h' := by
  refine zSnd.gen k (Nat.le_succ _) m2 (Nat.le_add_right _ _) m4 ?_
  intro p l e R s m args below meth cc H locs cells slots Q φ lsR hC hR hS hl hst hcs hss kk
  have e1 : zn (znA h (zat c) n.toNat) - zn h = 1 := by show zn h + 1 - zn h = 1; omega
  have e2 : zs (znA h (zat c) n.toNat) - zs h = n.toNat := by show zs h + n.toNat - zs h = n.toNat; omega
  rw [e1] at hcs kk
  rw [e2] at hss kk
  obtain ⟨hx, hb, -, -, -, hown, -, hts, hK, hX, hbB, hBs, -⟩ := hC
  obtain ⟨hP, hD, hw, h1, hK1, hsc⟩ := hR
  have h2le : 2 ≤ zn h := hw.1
  have hmem := zlkc_mem hq
  have hc : c < 11 := zcc_ok _ hmem
  obtain ⟨ht, hel, hnm⟩ := zat_ok c hc hc0
  have hlink : Cond.classLink (zon (zown M)) ix (zcw c).1 ∈ zW := zW_6 (List.mem_map.mpr ⟨_, hmem, rfl⟩)
  have hAO : va_AO (zcw c).1 s := by
    rcases hnm with e | e | e
    · rw [e]; exact hK.2.1.1
    · rw [e]; exact hK.2.1.2.1
    · rw [e]; exact hK.2.1.2.2
  have hneg : ¬ Int32.ofInt n < 0 := by rw [z0I, zltI (by omega) (by omega)]; omega
  rw [List.map_cons]
  refine va_newq hx hb hown (hts _ hlink) hAO hK.1 hP hD hS (fun q hq => Nat.le_trans hBs hq) hneg (zclamp h0 (by omega)) (by omega) hcs hss (zdec_eq hd rfl (by decide)) ?_
  intro q cA' H1 hK2 hP1 hD1 hS1
  have hcc : cA' = cA (zat c) := by
    obtain ⟨k1, k2, k3, k4, k5, k6⟩ := (hK2.2 4 (cA', .object (zcw c).1) rfl).2
    have hz := ztys_at (cA := cA) ht
    rw [hel] at hz
    obtain ⟨j1, j2, j3, j4, j5, j6⟩ := (hK.1.2 _ _ hz).2
    exact Option.some.inj (k6.symm.trans j6)
  subst hcc
  have hpu : zws cA (fun a => if a = zn h then q else φ a) (znA h (zat c) n.toNat) = zws cA φ h ++ [(q, .inl (cA (zat c), n.toNat, .inr (.inr (.inr (.inr (fun _ => none))))))] := by
    refine zws_push hw rfl (zext_new φ (zn h) q) (if_pos rfl) ?_ (fun x hx2 => (zce_nA hx2).trans (zce_ext hw (zext_new φ (zn h) q) x))
    have f1 : zK (znA h (zat c) n.toNat) (zn h) = (zat c, n.toNat) := if_pos rfl
    rw [zce_arr (by rw [f1]; exact ht)]
    rw [f1]
    have f2 : (fun j => zrf (fun a => if a = zn h then q else φ a) (zB (znA h (zat c) n.toNat) (zn h) j)) = (fun _ => none) := funext (fun j => by
      have g2 : zB (znA h (zat c) n.toNat) (zn h) j = 0 := if_pos rfl
      rw [g2]; rfl)
    rw [f2]
  rw [← hpu] at hP1 hD1
  have hkk := kk (fun a => if a = zn h then q else φ a) H1 locs lsR (zext_new φ (zn h) q) ⟨hP1, hD1, zwf_nA hw (by omega) (by omega), (if_neg (by omega)).trans h1, (if_neg (by omega)).trans hK1, fun j hj => by
    have e9 : zA (znA h (zat c) n.toNat) 1 j = zA h 1 j := if_neg (by omega)
    rw [e9]; exact hsc j hj⟩ hS1 (hl.ext (zext_new φ (zn h) q) (Nat.le_succ _)) (zc1 (show zok _ (.inr _) from Nat.lt_succ_self _) (fun v hv => ((zst1 hst).2 v hv).mono (Nat.le_succ _)))
  rw [List.map_cons, zst_ext (zext_new φ (zn h) q) (zst1 hst).2, ztr_ref _ (by omega), if_pos rfl] at hkk
  exact hkk
end zArr
