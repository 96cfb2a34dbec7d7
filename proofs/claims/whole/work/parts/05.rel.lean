/-! HOW THE SMALL MACHINE'S STATES STAND FOR THE MACHINE'S -/
def zrf (φ : Nat → Nat) (r : Nat) : Option Nat := if r = 0 then none else some (φ r)
def ztr (φ : Nat → Nat) (v : zV) : Value := match v with
  | .inl z => .int (Int32.ofInt z)
  | .inr r => va_rf (zrf φ r)
def zok (n : Nat) (v : zV) : Prop := match v with
  | .inl z => -2147483648 ≤ z ∧ z < 2147483648
  | .inr r => r < n
def zfv (φ : Nat → Nat) (h : zH) (c a k : Nat) : Value := if zir c k = true then va_rf (zrf φ (zR h (64 * c + k) a)) else .int (Int32.ofInt (zI h (64 * c + k) a))
def zce (cA : Nat → ClassId) (φ : Nat → Nat) (h : zH) (a : Nat) : va_E :=
  if (zK h a).1 = 1 then .inl (cA 1, (zK h a).2, .inl (fun j => Int32.ofInt (zA h a j)))
  else if (zK h a).1 < 10 then .inl (cA (zK h a).1, (zK h a).2, .inr (.inr (.inr (.inr (fun j => zrf φ (zB h a j))))))
  else .inr ((zK h a).1 - 10, (List.range (zcw ((zK h a).1 - 10)).2.2).map (zfv φ h ((zK h a).1 - 10) a))
def zws (cA : Nat → ClassId) (φ : Nat → Nat) (h : zH) : va_W := (List.range (zn h - 2)).map (fun i => (φ (i + 2), zce cA φ h (i + 2)))
def zwf (h : zH) : Prop := 2 ≤ zn h ∧ (∀ a, 2 ≤ a → a < zn h → (1 ≤ (zK h a).1 ∧ (zK h a).1 ≤ 4) ∨ (10 ≤ (zK h a).1 ∧ (zK h a).1 < 21)) ∧ (∀ a, zn h ≤ a → (zK h a).1 = 0) ∧ (zK h 0).1 = 0 ∧ (∀ a, (zK h a).2 < 2147483648) ∧
  (∀ f a, -2147483648 ≤ zI h f a ∧ zI h f a < 2147483648) ∧ (∀ f a, zR h f a < zn h) ∧ (∀ a i, -2147483648 ≤ zA h a i ∧ zA h a i < 2147483648) ∧ (∀ a i, zB h a i < zn h)
def zRel (D : va_G) (cA : Nat → ClassId) (B b L : Nat) (xs : Nat → Int32) (φ : Nat → Nat) (h : zH) (H : Heap) : Prop :=
  va_P D vwCl (zws cA φ h) H ∧ va_D (fun q => B ≤ q) (zws cA φ h) ∧ zwf h ∧ φ 1 = b ∧ zK h 1 = (5, L) ∧ ∀ j, j < L → Int32.ofInt (zA h 1 j) = xs j
def ztys (cA : Nat → ClassId) : List (ClassId × FieldType) := [(cA 1, .int), (cA 2, .object RX8), (cA 3, .object RX4), (cA 4, .object RX2)]
def zKx (D : va_G) (cA : Nat → ClassId) (U : State) : Prop := va_K D vwCl (ztys cA) U ∧ (va_AO RX8 U ∧ va_AO RX4 U ∧ va_AO RX2 U) ∧ ∀ e ∈ zcm, e.2.2.1 = 1 → va_Nw (.methodLinkNest (zon e.1) e.2.1 (zy e.2.2.2) "FarTypewriter") U
theorem zKx.moved {D : va_G} {cA : Nat → ClassId} {s U : State} (hW : s.WarmedH U.vm) (h : zKx D cA s) : zKx D cA U :=
  ⟨va_K.moved hW.alike h.1, ⟨va_AO.moved hW.alike h.2.1.1, va_AO.moved hW.alike h.2.1.2.1, va_AO.moved hW.alike h.2.1.2.2⟩, fun e he h1 => va_Nw.warmM hW (h.2.2 e he h1)⟩
def zas (φ : Nat → Nat) (ls : zL) : List (Nat × Value) := (List.range ls.length).filterMap (fun i => match ls[i]? with
  | some (some v) => some (i, ztr φ v)
  | _ => none)
def zlr (φ : Nat → Nat) (n nL : Nat) (lsR : Array Slot) (ls : zL) : Prop := ls.length = nL ∧ lv_has lsR nL (zas φ ls) ∧ ∀ (i : Nat) (v : zV), ls[i]? = some (some v) → zok n v
theorem zas_mem {φ : Nat → Nat} {ls : zL} {i : Nat} {v : zV} (h : ls[i]? = some (some v)) : (i, ztr φ v) ∈ zas φ ls := by
  refine List.mem_filterMap.mpr ⟨i, List.mem_range.mpr ?_, by rw [h]⟩
  exact (List.getElem?_eq_some_iff.mp h).1
theorem zas_of {φ : Nat → Nat} {ls : zL} {q : Nat × Value} (h : q ∈ zas φ ls) : ∃ i v, ls[i]? = some (some v) ∧ q = (i, ztr φ v) := by
  obtain ⟨i, -, hi⟩ := List.mem_filterMap.mp h
  cases hl : ls[i]? with
  | none => rw [hl] at hi; cases hi
  | some o =>
    cases o with
    | none => rw [hl] at hi; cases hi
    | some v => rw [hl] at hi; cases hi; exact ⟨i, v, hl, rfl⟩
theorem zlr.at {φ : Nat → Nat} {n nL : Nat} {lsR : Array Slot} {ls : zL} (h : zlr φ n nL lsR ls) {i : Nat} {v : zV} (hi : ls[i]? = some (some v)) : lsR[i]? = some (.val (ztr φ v)) := h.2.1.2.2 _ (zas_mem hi)
theorem ztr_cat (φ : Nat → Nat) (v : zV) : (ztr φ v).category = 1 := by
  cases v with
  | inl z => rfl
  | inr r =>
    show (va_rf (zrf φ r)).category = 1
    unfold zrf
    by_cases hr : r = 0
    · rw [if_pos hr]; rfl
    · rw [if_neg hr]; rfl
theorem zlr.set {φ : Nat → Nat} {n nL : Nat} {lsR lsR' : Array Slot} {ls : zL} {i : Nat} {v : zV} (h : zlr φ n nL lsR ls) (hv : zok n v)
    (h' : lv_has lsR' nL ((i, ztr φ v) :: (zas φ ls).filter (fun q => !(q.1 == i) && !(q.1 + 1 == i && q.2.category == 2)))) (hi : i < ls.length) : zlr φ n nL lsR' (ls.set i (some v)) := by
  refine ⟨by rw [List.length_set]; exact h.1, ⟨h'.1, h'.2.1, ?_⟩, ?_⟩
  · intro q hq
    obtain ⟨j, w, hj, rfl⟩ := zas_of hq
    by_cases hji : j = i
    · subst hji
      rw [List.getElem?_set_self hi] at hj
      cases hj
      exact h'.2.2 _ List.mem_cons_self
    · rw [List.getElem?_set_ne (Ne.symm hji)] at hj
      refine h'.2.2 _ (List.mem_cons_of_mem _ (List.mem_filter.mpr ⟨zas_mem hj, ?_⟩))
      have := ztr_cat φ w
      simp [hji, this]
  · intro j w hj
    by_cases hji : j = i
    · subst hji
      rw [List.getElem?_set_self hi] at hj
      cases hj
      exact hv
    · rw [List.getElem?_set_ne (Ne.symm hji)] at hj
      exact h.2.2 j w hj
/-- the map of addresses grows -/
def zext (φ φ' : Nat → Nat) (n : Nat) : Prop := ∀ a, a < n → φ' a = φ a
theorem zext.rf {φ : Nat → Nat} {n : Nat} : zext φ φ n := fun _ _ => rfl
theorem zext.tr {φ φ' : Nat → Nat} {n : Nat} (h : zext φ φ' n) {v : zV} (hv : zok n v) : ztr φ' v = ztr φ v := by
  cases v with
  | inl z => rfl
  | inr r => simp only [ztr, zrf, h r hv]
theorem zok.mono {n m : Nat} (h : n ≤ m) {v : zV} (hv : zok n v) : zok m v := by
  cases v with
  | inl z => exact hv
  | inr r => exact Nat.lt_of_lt_of_le hv h
theorem zlr.ext {φ φ' : Nat → Nat} {n m nL : Nat} {lsR : Array Slot} {ls : zL} (h : zlr φ n nL lsR ls) (he : zext φ φ' n) (hm : n ≤ m) : zlr φ' m nL lsR ls := by
  refine ⟨h.1, ⟨h.2.1.1, h.2.1.2.1, ?_⟩, fun i v hi => (h.2.2 i v hi).mono hm⟩
  intro q hq
  obtain ⟨j, w, hj, rfl⟩ := zas_of hq
  show lsR[j]? = some (.val (ztr φ' w))
  rw [he.tr (h.2.2 j w hj)]
  exact h.at hj
theorem zst_ext {φ φ' : Nat → Nat} {n : Nat} {st : List zV} (he : zext φ φ' n) (hst : ∀ v ∈ st, zok n v) : st.map (ztr φ') = st.map (ztr φ) := List.map_congr_left (fun v hv => he.tr (hst v hv))
/-- what stays the same for a method's whole walk -/
def zC (D : va_G) (cA : Nat → ClassId) (B b L : Nat) (xs : Nat → Int32) (p : Program) (R : Room) (s : State) (m : MethodId) (args : Array Value) (meth : Method) (c : Code) (M : Nat) : Prop :=
  p.tables.exec = Jvm.exec ∧ c.code = zby M ∧ meth.sig.returnType = zrt M ∧ meth.locks = false ∧ c.maxLocals = zml M ∧ s.vm.findClass (zon (zown M)) = some m.cls ∧ (M ≠ 0 → meth.name = (zy M).name) ∧ (∀ w ∈ zW, w.before args s = true) ∧ zKx D cA s ∧ va_X b L xs s s.heap ∧ b < B ∧ B ≤ s.heap.size ∧ zrk M ≤ R.frames ∧ zlo M ≤ R.locals
/-- the end of a method: its instruction, and its answer -/
def zEnd (M pc : Nat) (r : Option zV) (n : Nat) : Prop :=
  (∃ x, r = some (.inl x) ∧ decode (zby M) pc = .ok (.ireturn, 1) ∧ (-2147483648 ≤ x ∧ x < 2147483648) ∧ (zrt M = some .int ∨ (zrt M = some .boolean ∧ (x = 0 ∨ x = 1)))) ∨
  (∃ a, r = some (.inr a) ∧ decode (zby M) pc = .ok (.areturn, 1) ∧ a < n ∧ ∃ C, zrt M = some (.object C)) ∨ (r = none ∧ decode (zby M) pc = .ok (.return_, 1) ∧ zrt M = none)
def zrs (φ : Nat → Nat) (r : Option zV) : Option Value := r.map (ztr φ)
def zSnd (D : va_G) (cA : Nat → ClassId) (B b L : Nat) (xs : Nat → Int32) (M pc : Nat) (ls : zL) (st : List zV) (h : zH) (r : Option zV) (h' : zH) : Prop :=
  ∀ (p : Program) (l : Launch) (e : Env) (R : Room) (s : State) (m : MethodId) (args : Array Value) (below : List Frame) (meth : Method) (c : Code) (H : Heap) (locs : List Loc) (cells slots : Nat) (Q : State → Prop) (φ : Nat → Nat) (lsR : Array Slot),
    zC D cA B b L xs p R s m args meth c M → zRel D cA B b L xs φ h H → va_S (fun q => B ≤ q) s.heap H locs → zlr φ (zn h) (zml M) lsR ls → (∀ v ∈ st, zok (zn h) v) →
    cells + (zn h' - zn h) ≤ R.cells → slots + (zs h' - zs h) ≤ R.slots →
    (∀ (φ' : Nat → Nat) (H' : Heap) (locs' : List Loc) (lsR' : Array Slot) (pc' : Nat), zext φ φ' (zn h) → zRel D cA B b L xs φ' h' H' → va_S (fun q => B ≤ q) s.heap H' locs' → zEnd M pc' r (zn h') →
      W p l e R s m args below meth c H' locs' (cells + (zn h' - zn h)) (slots + (zs h' - zs h)) Q (F0 m pc' lsR' (zrs φ' r).toList)) →
    W p l e R s m args below meth c H locs cells slots Q (F0 m pc lsR (st.map (ztr φ)))
/-- a step that changes neither heap nor counts -/
theorem zSnd.of {D : va_G} {cA : Nat → ClassId} {B b L : Nat} {xs : Nat → Int32} {M pc pc2 : Nat} {ls ls2 : zL} {st st2 : List zV} {h : zH} {r : Option zV} {h' : zH}
    (k : zSnd D cA B b L xs M pc2 ls2 st2 h r h')
    (g : ∀ (p : Program) (l : Launch) (e : Env) (R : Room) (s : State) (m : MethodId) (args : Array Value) (below : List Frame) (meth : Method) (c : Code) (H : Heap) (locs : List Loc) (cells slots : Nat) (Q : State → Prop) (φ : Nat → Nat) (lsR : Array Slot),
      zC D cA B b L xs p R s m args meth c M → zRel D cA B b L xs φ h H → va_S (fun q => B ≤ q) s.heap H locs → zlr φ (zn h) (zml M) lsR ls → (∀ v ∈ st, zok (zn h) v) →
      (∀ lsR2 : Array Slot, zlr φ (zn h) (zml M) lsR2 ls2 → (∀ v ∈ st2, zok (zn h) v) → W p l e R s m args below meth c H locs cells slots Q (F0 m pc2 lsR2 (st2.map (ztr φ)))) →
      W p l e R s m args below meth c H locs cells slots Q (F0 m pc lsR (st.map (ztr φ)))) : zSnd D cA B b L xs M pc ls st h r h' := by
  intro p l e R s m args below meth c H locs cells slots Q φ lsR hC hR hS hl hst hc hs HR
  exact g p l e R s m args below meth c H locs cells slots Q φ lsR hC hR hS hl hst (fun lsR2 h1 h2 => k p l e R s m args below meth c H locs cells slots Q φ lsR2 hC hR hS h1 h2 hc hs HR)
theorem zdec_eq {M pc : Nat} {i : Instr} {n : Nat} (h : zdec M pc = some i) (hn : zlen i = n) (h0 : n ≠ 0) : decode (zby M) pc = .ok (i, n) := by
  unfold zdec at h
  split at h
  · rename_i q hq
    split at h
    · rename_i hl
      cases h
      rw [hq]
      obtain ⟨i, k⟩ := q
      rcases hl with hl | hl
      · have : k = n := by rw [← hn]; exact hl.symm
        subst this; rfl
      · exact absurd (hn.symm.trans hl) h0
    · cases h
  · cases h
theorem zdec_any {M pc : Nat} {i : Instr} (h : zdec M pc = some i) : ∃ n, decode (zby M) pc = .ok (i, n) := by
  unfold zdec at h
  split at h
  · rename_i q hq
    split at h
    · cases h
      exact ⟨q.2, hq⟩
    · cases h
  · cases h
-- numbers
theorem zofI (x : Int) : Int32.ofInt (zw x) = Int32.ofInt x := by unfold zw; exact Int32.ofInt_toInt _
theorem z32 (x : Int32) : -2147483648 ≤ x.toInt ∧ x.toInt < 2147483648 := ⟨Int32.le_toInt x, Int32.toInt_lt x⟩
theorem zw_in (x : Int) : -2147483648 ≤ zw x ∧ zw x < 2147483648 := z32 _
theorem ztoI {x : Int} (h : -2147483648 ≤ x ∧ x < 2147483648) : (Int32.ofInt x).toInt = x := Int32.toInt_ofInt_of_le h.1 h.2
theorem zw_eq {x : Int} (h1 : -2147483648 ≤ x) (h2 : x < 2147483648) : zw x = x := ztoI ⟨h1, h2⟩
theorem zeqI {x y : Int} (hx : -2147483648 ≤ x ∧ x < 2147483648) (hy : -2147483648 ≤ y ∧ y < 2147483648) : Int32.ofInt x = Int32.ofInt y ↔ x = y := by
  constructor
  · intro h
    rw [← ztoI hx, ← ztoI hy, h]
  · intro h
    rw [h]
theorem zltI {x y : Int} (hx : -2147483648 ≤ x ∧ x < 2147483648) (hy : -2147483648 ≤ y ∧ y < 2147483648) : Int32.ofInt x < Int32.ofInt y ↔ x < y := by
  rw [Int32.lt_iff_toInt_lt, ztoI hx, ztoI hy]
theorem zleI {x y : Int} (hx : -2147483648 ≤ x ∧ x < 2147483648) (hy : -2147483648 ≤ y ∧ y < 2147483648) : Int32.ofInt x ≤ Int32.ofInt y ↔ x ≤ y := by
  rw [Int32.le_iff_toInt_le, ztoI hx, ztoI hy]
theorem z0I : (0 : Int32) = Int32.ofInt 0 := rfl
theorem zvpin {i : Int} {n : Nat} (h0 : 0 ≤ i) (hi : i < n) (hn : n < 2147483648) : vp_in (Int32.ofInt i) n := by
  rw [vp_in_iff, ztoI ⟨by omega, by omega⟩]
  exact ⟨h0, hi⟩
theorem zclamp {i : Int} (h0 : 0 ≤ i) (hi : i < 2147483648) : (Int32.ofInt i).toNatClampNeg = i.toNat := by
  show (Int32.ofInt i).toInt.toNat = i.toNat
  rw [ztoI ⟨by omega, hi⟩]
