/-! A LAW AN INSTRUCTION: the heap -/
section zHeap
variable {D : va_G} {cA : Nat → ClassId} {B b L : Nat} {xs : Nat → Int32} {M pc : Nat} {ls : zL} {st : List zV} {h : zH} {r : Option zV} {h' : zH}
/-- a step of any kind -/
theorem zSnd.gen {pc2 : Nat} {ls2 : zL} {st2 : List zV} {h2 : zH} (k : zSnd D cA B b L xs M pc2 ls2 st2 h2 r h') (m1 : zn h ≤ zn h2) (m2 : zn h2 ≤ zn h') (m3 : zs h ≤ zs h2) (m4 : zs h2 ≤ zs h')
    (g : ∀ (p : Program) (l : Launch) (e : Env) (R : Room) (s : State) (m : MethodId) (args : Array Value) (below : List Frame) (meth : Method) (c : Code) (H : Heap) (locs : List Loc) (cells slots : Nat) (Q : State → Prop) (φ : Nat → Nat) (lsR : Array Slot),
      zC D cA B b L xs p R s m args meth c M → zRel D cA B b L xs φ h H → va_S (fun q => B ≤ q) s.heap H locs → zlr φ (zn h) (zml M) lsR ls → (∀ v ∈ st, zok (zn h) v) →
      cells + (zn h2 - zn h) ≤ R.cells → slots + (zs h2 - zs h) ≤ R.slots →
      (∀ (φ' : Nat → Nat) (H' : Heap) (locs' : List Loc) (lsR2 : Array Slot), zext φ φ' (zn h) → zRel D cA B b L xs φ' h2 H' → va_S (fun q => B ≤ q) s.heap H' locs' → zlr φ' (zn h2) (zml M) lsR2 ls2 → (∀ v ∈ st2, zok (zn h2) v) → W p l e R s m args below meth c H' locs' (cells + (zn h2 - zn h)) (slots + (zs h2 - zs h)) Q (F0 m pc2 lsR2 (st2.map (ztr φ')))) →
      W p l e R s m args below meth c H locs cells slots Q (F0 m pc lsR (st.map (ztr φ)))) : zSnd D cA B b L xs M pc ls st h r h' := by
  intro p l e R s m args below meth c H locs cells slots Q φ lsR hC hR hS hl hst hc hs HR
  refine g p l e R s m args below meth c H locs cells slots Q φ lsR hC hR hS hl hst (by omega) (by omega) (fun φ' H' locs' lsR2 he hR2 hS2 hl2 hst2 => ?_)
  refine k p l e R s m args below meth c H' locs' _ _ Q φ' lsR2 hC hR2 hS2 hl2 hst2 (by omega) (by omega) (fun φ'' H'' locs'' lsR'' pc'' he2 hR3 hS3 hE => ?_)
  rw [show cells + (zn h2 - zn h) + (zn h' - zn h2) = cells + (zn h' - zn h) by omega, show slots + (zs h2 - zs h) + (zs h' - zs h2) = slots + (zs h' - zs h) by omega]
  exact HR φ'' H'' locs'' lsR'' pc'' (fun a ha => (he2 a (by omega)).trans (he a ha)) hR3 hS3 hE
theorem zws_get {φ : Nat → Nat} {h : zH} {a : Nat} (h1 : 2 ≤ a) (h2 : a < zn h) : (zws cA φ h)[a - 2]? = some (φ a, zce cA φ h a) := by
  have h3 : a - 2 < zn h - 2 := by omega
  have h4 : a - 2 + 2 = a := by omega
  simp only [zws, List.getElem?_map, List.getElem?_range h3, Option.map_some, h4]
theorem zwf.own {h : zH} (hw : zwf h) {L : Nat} (h1 : zK h 1 = (5, L)) {a : Nat} (hk : ((zK h a).1 ≠ 0 ∧ (zK h a).1 ≠ 5)) : 2 ≤ a ∧ a < zn h := by
  obtain ⟨w1, w2, w3, w4, -⟩ := hw
  refine ⟨?_, ?_⟩
  · rcases Nat.lt_or_ge a 2 with q | q
    · have : a = 0 ∨ a = 1 := by omega
      rcases this with rfl | rfl
      · exact absurd w4 hk.1
      · exact absurd (by rw [h1]) hk.2
    · exact q
  · rcases Nat.lt_or_ge a (zn h) with q | q
    · exact q
    · exact absurd (w3 a q) hk.1
theorem zce_obj {φ : Nat → Nat} {h : zH} {a c : Nat} (hk : (zK h a).1 = 10 + c) : zce cA φ h a = .inr (c, (List.range (zcw c).2.2).map (zfv φ h c a)) := by
  unfold zce
  rw [if_neg (by omega), if_neg (by omega), hk, show 10 + c - 10 = c by omega]
theorem zce_int {φ : Nat → Nat} {h : zH} {a : Nat} (hk : (zK h a).1 = 1) : zce cA φ h a = .inl (cA 1, (zK h a).2, .inl (fun j => Int32.ofInt (zA h a j))) := by
  unfold zce
  rw [if_pos hk]
theorem zce_arr {φ : Nat → Nat} {h : zH} {a : Nat} (hk : 2 ≤ (zK h a).1 ∧ (zK h a).1 ≤ 4) : zce cA φ h a = .inl (cA (zK h a).1, (zK h a).2, .inr (.inr (.inr (.inr (fun j => zrf φ (zB h a j)))))) := by
  unfold zce
  rw [if_neg (by omega), if_pos (by omega)]
theorem zcf_ok : ∀ e ∈ zcf, e.2.2.1 < 11 ∧ e.2.2.2 < (zcw e.2.2.1).2.2 := by decide +kernel
theorem zcl_at {c : Nat} (hc : c < 11) : vwCl[c]? = some (zcw c) := by
  have : vwCl.length = 11 := rfl
  unfold zcw
  rw [List.getD_eq_getElem?_getD]
  rw [List.getElem?_eq_getElem (by omega)]
  rfl
theorem zcl_in {c : Nat} (hc : c < 11) : ∀ w ∈ u_ws (zcw c).1 (zcw c).2.1 (zcw c).2.2, w ∈ zW := fun w hw =>
  zW_3 (List.mem_flatMap.mpr ⟨zcw c, List.mem_of_getElem? (zcl_at hc), List.mem_cons_of_mem _ hw⟩)
theorem zfv_tr (φ : Nat → Nat) (h : zH) (c a k : Nat) : zfv φ h c a k = ztr φ (if zir c k = true then .inr (zR h (64 * c + k) a) else .inl (zI h (64 * c + k) a)) := by
  unfold zfv
  by_cases hz : zir c k = true
  · rw [if_pos hz, if_pos hz]; rfl
  · rw [if_neg hz, if_neg hz]; rfl
theorem zS_getfield {ix c k0 a : Nat} (hd : zdec M pc = some (.getfield ix)) (hq : zlk2 zcf (zown M) ix = some (c, k0)) (hk : (zK h a).1 = 10 + c)
    (k : zSnd D cA B b L xs M (pc + 3) ls ((if zir c k0 = true then .inr (zR h (64 * c + k0) a) else .inl (zI h (64 * c + k0) a)) :: st) h r h') : zSnd D cA B b L xs M pc ls (.inr a :: st) h r h' := by
  refine zSnd.of k ?_
  intro p l e R s m args below meth cc H locs cells slots Q φ lsR hC hR hS hl hst kk
  obtain ⟨hx, hb, -, -, -, hown, -, hts, hK, -⟩ := hC
  obtain ⟨hP, hD, hw, h1, hK1, -⟩ := hR
  obtain ⟨a2, an⟩ := hw.own hK1 (a := a) (by omega)
  have hmem := zlk2_mem hq
  obtain ⟨hc, hkN⟩ : c < 11 ∧ k0 < (zcw c).2.2 := zcf_ok _ hmem
  have hlink : Cond.fieldLink (zon (zown M)) ix ((zcw c).2.1 k0).1 ((zcw c).2.1 k0).2.1 ((zcw c).2.1 k0).2.2.1 ∈ zW := zW_5 (List.mem_map.mpr ⟨_, hmem, rfl⟩)
  have he : (zws cA φ h)[a - 2]? = some (φ a, .inr (c, (List.range (zcw c).2.2).map (zfv φ h c a))) := by rw [zws_get a2 an, zce_obj hk]
  have hv : ((List.range (zcw c).2.2).map (zfv φ h c a))[k0]? = some (zfv φ h c a k0) := by rw [List.getElem?_map, List.getElem?_range hkN]; rfl
  rw [List.map_cons, ztr_ref φ (by omega)]
  refine va_get hx hb hts (zcl_in hc) hown hK.1 hP (a - 2) he (zcl_at hc) k0 hkN (hts _ hlink) (fun _ h9 => h9) hv (zdec_eq hd rfl (by decide)) ?_
  rw [zfv_tr]
  refine kk lsR hl (zc1 ?_ (zst1 hst).2)
  by_cases hz : zir c k0 = true
  · rw [if_pos hz]; exact hw.2.2.2.2.2.2.1 _ _
  · rw [if_neg hz]; exact hw.2.2.2.2.2.1 _ _
theorem zws_set {φ : Nat → Nat} {h h2 : zH} {a : Nat} (hn : zn h2 = zn h) (h1 : 2 ≤ a) (ha : a < zn h) (ho : ∀ x, x ≠ a → zce cA φ h2 x = zce cA φ h x) : zws cA φ h2 = (zws cA φ h).set (a - 2) (φ a, zce cA φ h2 a) := by
  apply List.ext_getElem?
  intro i
  by_cases hi : i = a - 2
  · subst hi
    rw [zws_get h1 (by omega), List.getElem?_set_self (by simp [zws]; omega)]
  · rw [List.getElem?_set_ne (Ne.symm hi)]
    simp only [zws, List.getElem?_map, hn]
    by_cases hl : i < zn h - 2
    · rw [List.getElem?_range hl]
      simp only [Option.map_some]
      rw [ho (i + 2) (by omega)]
    · rw [List.getElem?_eq_none (by simp; omega)]
      rfl
theorem zty_ok : ∀ c, c < 11 → (∀ k, k < (zcw c).2.2 → parseFieldDescriptor ((zcw c).2.1 k).2.2.1 = some (zty c k)) := by decide +kernel
theorem znm_ok : ∀ c, c < 11 → (∀ a, a < (zcw c).2.2 → ∀ b, b < (zcw c).2.2 → a ≠ b → ((zcw c).2.1 a).2.1 ≠ ((zcw c).2.1 b).2.1) := by decide +kernel
theorem zty_kind : ∀ c, c < 11 → ∀ k, k < (zcw c).2.2 → (zty c k = .int ∨ zty c k = .boolean) ∨ (zir c k = true ∧ ((zty c k = .array .int ∨ zty c k = .array (.object RX8) ∨ zty c k = .array (.object RX4) ∨ zty c k = .array (.object RX2)) ∨ zty c k = .object (zcw 0).1 ∨ zty c k = .object (zcw 1).1 ∨ zty c k = .object (zcw 2).1 ∨ zty c k = .object (zcw 3).1 ∨ zty c k = .object (zcw 4).1 ∨ zty c k = .object (zcw 5).1 ∨ zty c k = .object (zcw 6).1 ∨ zty c k = .object (zcw 7).1 ∨ zty c k = .object (zcw 8).1)) := by decide +kernel
theorem zdecl_ok : ∀ c, c < 11 → ∀ k, k < (zcw c).2.2 → ((zcw c).2.1 k).1 = zon c := by decide +kernel
theorem znarI {c k : Nat} (hc : c < 11) (hk : k < (zcw c).2.2) (hz : ¬ zir c k = true) {x : Int} (hx : zbk c k = true → x = 0 ∨ x = 1) : narrow (zty c k) (.int (Int32.ofInt x)) = .int (Int32.ofInt x) ∧ fits (zty c k) (.int (Int32.ofInt x)) = true := by
  rcases zty_kind c hc k hk with (h1 | h1) | ⟨h1, -⟩
  · rw [h1]; exact ⟨rfl, rfl⟩
  · have hb : zbk c k = true := by unfold zbk; rw [h1]
    rw [h1]
    rcases hx hb with rfl | rfl
    · exact ⟨by decide +kernel, by decide +kernel⟩
    · exact ⟨by decide +kernel, by decide +kernel⟩
  · exact absurd h1 hz
theorem znarR {c k : Nat} (hc : c < 11) (hk : k < (zcw c).2.2) (hz : zir c k = true) (φ : Nat → Nat) (v : Nat) : narrow (zty c k) (ztr φ (.inr v)) = ztr φ (.inr v) ∧ fits (zty c k) (ztr φ (.inr v)) = true := by
  have key : ∀ ty : FieldType, (∃ t, ty = .array t) ∨ (∃ n, ty = .object n) → narrow ty (ztr φ (.inr v)) = ztr φ (.inr v) ∧ fits ty (ztr φ (.inr v)) = true := by
    intro ty ht
    by_cases h0 : v = 0
    · subst h0
      rcases ht with ⟨t, rfl⟩ | ⟨n, rfl⟩ <;> exact ⟨rfl, rfl⟩
    · rw [ztr_ref φ h0]
      rcases ht with ⟨t, rfl⟩ | ⟨n, rfl⟩ <;> exact ⟨rfl, rfl⟩
  rcases zty_kind c hc k hk with (h1 | h1) | ⟨-, (h1 | h1 | h1 | h1) | h1 | h1 | h1 | h1 | h1 | h1 | h1 | h1 | h1⟩
  · unfold zir at hz; rw [h1] at hz; cases hz
  · unfold zir at hz; rw [h1] at hz; cases hz
  all_goals first | exact key _ (Or.inl ⟨_, h1⟩) | exact key _ (Or.inr ⟨_, h1⟩)
theorem zce_sI {φ : Nat → Nat} {h : zH} {f a x : Nat} {v : Int} (hx : x ≠ a) : zce cA φ (zsI h f a v) x = zce cA φ h x := by
  have h1 : ∀ c k, zfv φ (zsI h f a v) c x k = zfv φ h c x k := by
    intro c k
    have e7 : (x = a) = False := eq_false hx
    simp only [zfv, zsI, zI, zR, zu, e7, and_false, if_false]
  simp only [zce, show ∀ c, zfv φ (zsI h f a v) c x = zfv φ h c x from fun c => funext (h1 c)]
  rfl
theorem zce_sR {φ : Nat → Nat} {h : zH} {f a x : Nat} {v : Nat} (hx : x ≠ a) : zce cA φ (zsR h f a v) x = zce cA φ h x := by
  have h1 : ∀ c k, zfv φ (zsR h f a v) c x k = zfv φ h c x k := by
    intro c k
    have e7 : (x = a) = False := eq_false hx
    simp only [zfv, zsR, zI, zR, zu, e7, and_false, if_false]
  simp only [zce, show ∀ c, zfv φ (zsR h f a v) c x = zfv φ h c x from fun c => funext (h1 c)]
  rfl
theorem zmap_set {α : Type} {f g : Nat → α} {N k : Nat} (hk : k < N) (ho : ∀ j, j ≠ k → g j = f j) : (List.range N).map g = ((List.range N).map f).set k (g k) := by
  apply List.ext_getElem?
  intro i
  by_cases hi : i = k
  · subst hi
    rw [List.getElem?_set_self (by simp; exact hk), List.getElem?_map, List.getElem?_range hk]
    rfl
  · rw [List.getElem?_set_ne (Ne.symm hi), List.getElem?_map, List.getElem?_map]
    by_cases hl : i < N
    · rw [List.getElem?_range hl]
      simp only [Option.map_some]
      rw [ho i hi]
    · rw [List.getElem?_eq_none (by simp; omega)]
      rfl
theorem zS_putI {ix c k0 a : Nat} {x : Int} (hd : zdec M pc = some (.putfield ix)) (hq : zlk2 zcf (zown M) ix = some (c, k0)) (hf : zfok M c k0 = true) (hz : ¬ zir c k0 = true) (hk : (zK h a).1 = 10 + c) (hx01 : zbk c k0 = true → x = 0 ∨ x = 1) (m2 : zn h ≤ zn h') (m4 : zs h ≤ zs h')
    (k : zSnd D cA B b L xs M (pc + 3) ls st (zsI h (64 * c + k0) a x) r h') : zSnd D cA B b L xs M pc ls (.inl x :: .inr a :: st) h r h' := by
  refine zSnd.gen k (Nat.le_refl _) m2 (Nat.le_refl _) m4 ?_
  intro p l e R s m args below meth cc H locs cells slots Q φ lsR hC hR hS hl hst hcs hss kk
  obtain ⟨hx, hb, -, -, -, hown, hnm, hts, hK, -⟩ := hC
  obtain ⟨hP, hD, hw, h1, hK1, hsc⟩ := hR
  obtain ⟨a2, an⟩ := hw.own hK1 (a := a) (by omega)
  have hmem := zlk2_mem hq
  obtain ⟨hc, hkN⟩ : c < 11 ∧ k0 < (zcw c).2.2 := zcf_ok _ hmem
  have hlink : Cond.fieldLink (zon (zown M)) ix ((zcw c).2.1 k0).1 ((zcw c).2.1 k0).2.1 ((zcw c).2.1 k0).2.2.1 ∈ zW := zW_5 (List.mem_map.mpr ⟨_, hmem, rfl⟩)
  have he : (zws cA φ h)[a - 2]? = some (φ a, .inr (c, (List.range (zcw c).2.2).map (zfv φ h c a))) := by rw [zws_get a2 an, zce_obj hk]
  obtain ⟨hnar, hfit⟩ := znarI hc hkN hz hx01
  have hx0 : -2147483648 ≤ x ∧ x < 2147483648 := (zst1 hst).1
  have hst' := (zst1 (zst1 hst).2).2
  have hfs : (List.range (zcw c).2.2).map (zfv φ (zsI h (64 * c + k0) a x) c a) = ((List.range (zcw c).2.2).map (zfv φ h c a)).set k0 (.int (Int32.ofInt x)) := by
    have h7 : zfv φ (zsI h (64 * c + k0) a x) c a k0 = .int (Int32.ofInt x) := by
      simp only [zfv, hz, zsI, zI, zu]
      simp
    rw [← h7]
    refine zmap_set hkN (fun j hj => ?_)
    have e7 : (64 * c + j = 64 * c + k0) = False := eq_false (by omega)
    simp only [zfv, zsI, zI, zR, zu, e7, false_and, if_false]
  have hset : zws cA φ (zsI h (64 * c + k0) a x) = (zws cA φ h).set (a - 2) (φ a, .inr (c, ((List.range (zcw c).2.2).map (zfv φ h c a)).set k0 (.int (Int32.ofInt x)))) := by
    rw [zws_set (h := h) (h2 := zsI h (64 * c + k0) a x) rfl a2 an (fun y hy => zce_sI hy), zce_obj (h := zsI h (64 * c + k0) a x) hk, hfs]
  have hw2 : zwf (zsI h (64 * c + k0) a x) := by
    obtain ⟨w1, w2, w3, w4, w5, w6, w7⟩ := hw
    refine ⟨w1, w2, w3, w4, w5, fun f y => ?_, w7⟩
    show -2147483648 ≤ (if f = 64 * c + k0 ∧ y = a then x else zI h f y) ∧ (if f = 64 * c + k0 ∧ y = a then x else zI h f y) < 2147483648
    by_cases hfy : f = 64 * c + k0 ∧ y = a
    · rw [if_pos hfy]; exact hx0
    · rw [if_neg hfy]; exact w6 f y
  have hgo : ∀ (H1 : Heap) (locs1 : List Loc), va_P D vwCl ((zws cA φ h).set (a - 2) (φ a, .inr (c, ((List.range (zcw c).2.2).map (zfv φ h c a)).set k0 (.int (Int32.ofInt x))))) H1 → va_D (fun q => B ≤ q) ((zws cA φ h).set (a - 2) (φ a, .inr (c, ((List.range (zcw c).2.2).map (zfv φ h c a)).set k0 (.int (Int32.ofInt x))))) → va_S (fun q => B ≤ q) s.heap H1 locs1 →
      W p l e R s m args below meth cc H1 locs1 cells slots Q (F0 m (pc + 3) lsR (st.map (ztr φ))) := by
    intro H1 locs1 hP1 hD1 hS1
    rw [← hset] at hP1 hD1
    have hkk := kk φ H1 locs1 lsR zext.rf ⟨hP1, hD1, hw2, h1, hK1, hsc⟩ hS1 hl hst'
    rw [show cells + (zn (zsI h (64 * c + k0) a x) - zn h) = cells from by show cells + (zn h - zn h) = cells; omega, show slots + (zs (zsI h (64 * c + k0) a x) - zs h) = slots from by show slots + (zs h - zs h) = slots; omega] at hkk
    exact hkk
  rw [List.map_cons, List.map_cons, ztr_ref φ (show a ≠ 0 by omega)]
  by_cases hfin : ((zcw c).2.1 k0).2.2.2 = true
  · have hown2 : (zy M).name = "<init>" ∧ zown M = c := by
      unfold zfok at hf
      rw [hfin] at hf
      simpa using hf
    refine va_putF hx hb hts (zcl_in hc) (zty c) (zty_ok c hc) (znm_ok c hc) hown hK.1 hP hD hS (a - 2) he (zcl_at hc) k0 hkN (hts _ hlink) (fun _ h9 => h9) hfin ((hnm (fun h0 => by subst h0; exact absurd hown2.1 (by decide +kernel))).trans hown2.1) ?_ (zty_ok c hc k0 hkN) hnar hfit (by simp; exact hkN) (zdec_eq hd rfl (by decide)) hgo
    rw [hown2.2]
    exact zdecl_ok c hc k0 hkN
  · exact va_put hx hb hts (zcl_in hc) (zty c) (zty_ok c hc) (znm_ok c hc) hown hK.1 hP hD hS (a - 2) he (zcl_at hc) k0 hkN (hts _ hlink) (fun _ h9 => h9) (by simpa using hfin) (zty_ok c hc k0 hkN) hnar hfit (by simp; exact hkN) (zdec_eq hd rfl (by decide)) hgo
theorem zS_putR {ix c k0 a v : Nat} (hd : zdec M pc = some (.putfield ix)) (hq : zlk2 zcf (zown M) ix = some (c, k0)) (hf : zfok M c k0 = true) (hz : zir c k0 = true) (hk : (zK h a).1 = 10 + c) (m2 : zn h ≤ zn h') (m4 : zs h ≤ zs h')
    (k : zSnd D cA B b L xs M (pc + 3) ls st (zsR h (64 * c + k0) a v) r h') : zSnd D cA B b L xs M pc ls (.inr v :: .inr a :: st) h r h' := by
  refine zSnd.gen k (Nat.le_refl _) m2 (Nat.le_refl _) m4 ?_
  intro p l e R s m args below meth cc H locs cells slots Q φ lsR hC hR hS hl hst hcs hss kk
  obtain ⟨hx, hb, -, -, -, hown, hnm, hts, hK, -⟩ := hC
  obtain ⟨hP, hD, hw, h1, hK1, hsc⟩ := hR
  obtain ⟨a2, an⟩ := hw.own hK1 (a := a) (by omega)
  have hmem := zlk2_mem hq
  obtain ⟨hc, hkN⟩ : c < 11 ∧ k0 < (zcw c).2.2 := zcf_ok _ hmem
  have hlink : Cond.fieldLink (zon (zown M)) ix ((zcw c).2.1 k0).1 ((zcw c).2.1 k0).2.1 ((zcw c).2.1 k0).2.2.1 ∈ zW := zW_5 (List.mem_map.mpr ⟨_, hmem, rfl⟩)
  have he : (zws cA φ h)[a - 2]? = some (φ a, .inr (c, (List.range (zcw c).2.2).map (zfv φ h c a))) := by rw [zws_get a2 an, zce_obj hk]
  obtain ⟨hnar, hfit⟩ := znarR hc hkN hz φ v
  have hx0 : v < zn h := (zst1 hst).1
  have hst' := (zst1 (zst1 hst).2).2
  have hfs : (List.range (zcw c).2.2).map (zfv φ (zsR h (64 * c + k0) a v) c a) = ((List.range (zcw c).2.2).map (zfv φ h c a)).set k0 (ztr φ (.inr v)) := by
    have h7 : zfv φ (zsR h (64 * c + k0) a v) c a k0 = ztr φ (.inr v) := by
      simp only [zfv, hz, zsR, zR, zu]
      simp [ztr]
    rw [← h7]
    refine zmap_set hkN (fun j hj => ?_)
    have e7 : (64 * c + j = 64 * c + k0) = False := eq_false (by omega)
    simp only [zfv, zsR, zI, zR, zu, e7, false_and, if_false]
  have hset : zws cA φ (zsR h (64 * c + k0) a v) = (zws cA φ h).set (a - 2) (φ a, .inr (c, ((List.range (zcw c).2.2).map (zfv φ h c a)).set k0 (ztr φ (.inr v)))) := by
    rw [zws_set (h := h) (h2 := zsR h (64 * c + k0) a v) rfl a2 an (fun y hy => zce_sR hy), zce_obj (h := zsR h (64 * c + k0) a v) hk, hfs]
  have hw2 : zwf (zsR h (64 * c + k0) a v) := by
    obtain ⟨w1, w2, w3, w4, w5, w6, w7, w8⟩ := hw
    refine ⟨w1, w2, w3, w4, w5, w6, fun f y => ?_, w8⟩
    show (if f = 64 * c + k0 ∧ y = a then v else zR h f y) < zn h
    by_cases hfy : f = 64 * c + k0 ∧ y = a
    · rw [if_pos hfy]; exact hx0
    · rw [if_neg hfy]; exact w7 f y
  have hgo : ∀ (H1 : Heap) (locs1 : List Loc), va_P D vwCl ((zws cA φ h).set (a - 2) (φ a, .inr (c, ((List.range (zcw c).2.2).map (zfv φ h c a)).set k0 (ztr φ (.inr v))))) H1 → va_D (fun q => B ≤ q) ((zws cA φ h).set (a - 2) (φ a, .inr (c, ((List.range (zcw c).2.2).map (zfv φ h c a)).set k0 (ztr φ (.inr v))))) → va_S (fun q => B ≤ q) s.heap H1 locs1 →
      W p l e R s m args below meth cc H1 locs1 cells slots Q (F0 m (pc + 3) lsR (st.map (ztr φ))) := by
    intro H1 locs1 hP1 hD1 hS1
    rw [← hset] at hP1 hD1
    have hkk := kk φ H1 locs1 lsR zext.rf ⟨hP1, hD1, hw2, h1, hK1, hsc⟩ hS1 hl hst'
    rw [show cells + (zn (zsR h (64 * c + k0) a v) - zn h) = cells from by show cells + (zn h - zn h) = cells; omega, show slots + (zs (zsR h (64 * c + k0) a v) - zs h) = slots from by show slots + (zs h - zs h) = slots; omega] at hkk
    exact hkk
  rw [List.map_cons, List.map_cons, ztr_ref φ (show a ≠ 0 by omega)]
  by_cases hfin : ((zcw c).2.1 k0).2.2.2 = true
  · have hown2 : (zy M).name = "<init>" ∧ zown M = c := by
      unfold zfok at hf
      rw [hfin] at hf
      simpa using hf
    refine va_putF hx hb hts (zcl_in hc) (zty c) (zty_ok c hc) (znm_ok c hc) hown hK.1 hP hD hS (a - 2) he (zcl_at hc) k0 hkN (hts _ hlink) (fun _ h9 => h9) hfin ((hnm (fun h0 => by subst h0; exact absurd hown2.1 (by decide +kernel))).trans hown2.1) ?_ (zty_ok c hc k0 hkN) hnar hfit (by simp; exact hkN) (zdec_eq hd rfl (by decide)) hgo
    rw [hown2.2]
    exact zdecl_ok c hc k0 hkN
  · exact va_put hx hb hts (zcl_in hc) (zty c) (zty_ok c hc) (znm_ok c hc) hown hK.1 hP hD hS (a - 2) he (zcl_at hc) k0 hkN (hts _ hlink) (fun _ h9 => h9) (by simpa using hfin) (zty_ok c hc k0 hkN) hnar hfit (by simp; exact hkN) (zdec_eq hd rfl (by decide)) hgo
end zHeap
