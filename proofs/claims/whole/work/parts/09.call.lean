/-! CALLS AND ENDS -/
section zCalls
variable {D : va_G} {cA : Nat → ClassId} {B b L : Nat} {xs : Nat → Int32} {M pc : Nat} {ls : zL} {st : List zV} {h : zH} {r : Option zV} {h' : zH}
theorem zcats (φ : Nat → Nat) (st : List zV) : ((st.map (ztr φ)).map fun v => v.category).sum = st.length := by
  induction st with
  | nil => rfl
  | cons v t ih => simp only [List.map_cons, List.sum_cons, ztr_cat, ih, List.length_cons]; omega
theorem zS_copy {ix a d M1 : Nat} {n : Int} (hd : zdec M pc = some (.invokestatic ix)) (hq : zlk2 zcm (zown M) ix = some (5, M1)) (hrk : 1 ≤ zrk M) (hlo : 40 ≤ zlo M) (h0 : 0 ≤ n) (hka : (zK h a).1 = 1) (hkd : (zK h d).1 = 1) (hna : n ≤ (zK h a).2) (hnd : n ≤ (zK h d).2) (hst8 : st.length ≤ 8) (m2 : zn h ≤ zn h') (m4 : zs h ≤ zs h')
    (k : zSnd D cA B b L xs M (pc + 3) ls st (zcp h a d n.toNat) r h') : zSnd D cA B b L xs M pc ls (.inl n :: .inl 0 :: .inr d :: .inl 0 :: .inr a :: st) h r h' := by
  refine zSnd.gen k (Nat.le_refl _) m2 (Nat.le_refl _) m4 ?_
  intro p l e R s m args below meth cc H locs cells slots Q φ lsR hC hR hS hl hst hcs hss kk
  obtain ⟨hx, hb, -, -, hml, hown, -, hts, hK, hX, hbB, hBs, hfr, hlc⟩ := hC
  have hla := zrel_lt hR a
  have hld := zrel_lt hR d
  obtain ⟨hP, hD, hw, h1, hK1, hsc⟩ := hR
  obtain ⟨a2, an⟩ := hw.own hK1 (a := a) (by omega)
  obtain ⟨d2, dn⟩ := hw.own hK1 (a := d) (by omega)
  have hst' := (zst1 (zst1 (zst1 (zst1 (zst1 hst).2).2).2).2).2
  have hlink : Cond.methodLink (zon (zown M)) ix arraycopyName ∈ zW := zW_4 (List.mem_flatMap.mpr ⟨_, zlk2_mem hq, List.mem_cons_self⟩)
  have hnat : Cond.native arraycopyName ∈ zW := zW_0 (by unfold zW0; simp)
  have hsta : Cond.static arraycopyName ∈ zW := zW_0 (by unfold zW0; simp)
  have hini : Cond.initialized "java/lang/System" ∈ zW := zW_0 (by unfold zW0; simp)
  have ha0 : (zws cA φ h)[a - 2]? = some (φ a, .inl (cA 1, (zK h a).2, .inl (fun j => Int32.ofInt (zA h a j)))) := by rw [zws_get a2 an, zce_int hka]
  have ha1 : (zws cA φ h)[d - 2]? = some (φ d, .inl (cA 1, (zK h d).2, .inl (fun j => Int32.ofInt (zA h d j)))) := by rw [zws_get d2 dn, zce_int hkd]
  have hneg : ¬ Int32.ofInt n < 0 := by rw [z0I, zltI (by omega) (by omega)]; omega
  have hneg0 : ¬ Int32.ofInt 0 < 0 := by decide
  have hc0 : (Int32.ofInt 0).toNatClampNeg = 0 := by decide
  have hcn : (Int32.ofInt n).toNatClampNeg = n.toNat := zclamp h0 (by omega)
  have hw2 : zwf (zcp h a d n.toNat) := by
    obtain ⟨w1, w2, w3, w4, w5, w6, w7, w8, w9⟩ := hw
    refine ⟨w1, w2, w3, w4, w5, w6, w7, fun f y => ?_, w9⟩
    show -2147483648 ≤ (if f = d ∧ y < n.toNat then zA h a y else zA h f y) ∧ (if f = d ∧ y < n.toNat then zA h a y else zA h f y) < 2147483648
    by_cases hfy : f = d ∧ y < n.toNat
    · rw [if_pos hfy]; exact w8 a y
    · rw [if_neg hfy]; exact w8 f y
  have hset : zws cA φ (zcp h a d n.toNat) = (zws cA φ h).set (d - 2) (φ d, .inl (cA 1, (zK h d).2, .inl (va_cpy (fun j => Int32.ofInt (zA h a j)) (fun j => Int32.ofInt (zA h d j)) 0 0 n.toNat))) := by
    rw [zws_set (h := h) (h2 := zcp h a d n.toNat) rfl d2 dn (fun y hy => by
      have e7 : (y = d) = False := eq_false hy
      simp only [zce, zcp, zA, zK, zB, e7, false_and, if_false]
      rfl), zce_int (h := zcp h a d n.toNat) hkd]
    have e8 : (fun j => Int32.ofInt (zA (zcp h a d n.toNat) d j)) = va_cpy (fun j => Int32.ofInt (zA h a j)) (fun j => Int32.ofInt (zA h d j)) 0 0 n.toNat := by
      funext j
      show Int32.ofInt (if d = d ∧ j < n.toNat then zA h a j else zA h d j) = if 0 ≤ j ∧ j < 0 + n.toNat then Int32.ofInt (zA h a (0 + (j - 0))) else Int32.ofInt (zA h d j)
      by_cases hj : j < n.toNat
      · rw [if_pos ⟨rfl, hj⟩, if_pos ⟨Nat.zero_le _, by omega⟩, show 0 + (j - 0) = j by omega]
      · rw [if_neg (fun q => hj q.2), if_neg (fun q => hj (by omega))]
    rw [e8]
    rfl
  have hsize : cc.maxLocals = lsR.size := hml.trans hl.2.1.1.symm
  rw [List.map_cons, List.map_cons, List.map_cons, List.map_cons, List.map_cons, ztr_ref φ (show a ≠ 0 by omega), ztr_ref φ (show d ≠ 0 by omega)]
  refine va_copyi (sp := Int32.ofInt 0) (dp := Int32.ofInt 0) (n := Int32.ofInt n) (ty := .int) hx hb hsize hown (hts _ hlink) (hts _ hnat) (hts _ hsta) (hts _ hini) hK.1 hP hD hS (a - 2) (d - 2) 0 0 ha0 ha1 rfl rfl rfl hneg0 hneg0 hneg ?_ ?_ (fun _ _ => rfl) (by omega) ?_ (zdec_eq hd rfl (by decide)) ?_
  · rw [hc0, hcn]; omega
  · rw [hc0, hcn]; omega
  · rw [zcats]
    have e5 : nativeFrameWords "java/lang/System" "arraycopy" 5 = 7 := by decide
    rw [e5]; omega
  · intro H1 locs1 hP1 hD1 hS1
    rw [hc0, hcn, ← hset] at hP1 hD1
    have hsc2 : ∀ j, j < L → Int32.ofInt (zA (zcp h a d n.toNat) 1 j) = xs j := by
      intro j hj
      have e9 : zA (zcp h a d n.toNat) 1 j = zA h 1 j := by
        show (if 1 = d ∧ j < n.toNat then zA h a j else zA h 1 j) = zA h 1 j
        rw [if_neg (by omega)]
      rw [e9]
      exact hsc j hj
    have hkk := kk φ H1 locs1 lsR zext.rf ⟨hP1, hD1, hw2, h1, hK1, hsc2⟩ hS1 hl hst'
    rw [show cells + (zn (zcp h a d n.toNat) - zn h) = cells from by show cells + (zn h - zn h) = cells; omega, show slots + (zs (zcp h a d n.toNat) - zs h) = slots from by show slots + (zs h - zs h) = slots; omega] at hkk
    exact hkk
theorem zS_max {ix M1 : Nat} {x y : Int} (hd : zdec M pc = some (.invokestatic ix)) (hq : zlk2 zcm (zown M) ix = some (6, M1)) (hrk : 1 ≤ zrk M) (hlo : 40 ≤ zlo M) (hst8 : st.length ≤ 8) (m2 : zn h ≤ zn h') (m4 : zs h ≤ zs h') (k : zSnd D cA B b L xs M (pc + 3) ls (.inl (max x y) :: st) h r h') : zSnd D cA B b L xs M pc ls (.inl y :: .inl x :: st) h r h' := by
  refine zSnd.gen k (Nat.le_refl _) m2 (Nat.le_refl _) m4 ?_
  intro p l e R s m args below meth cc H locs cells slots Q φ lsR hC hR hS hl hst hcs hss kk
  obtain ⟨hx, hb, -, -, hml, hown, -, hts, hK, hX, hbB, hBs, hfr, hlc⟩ := hC
  obtain ⟨gx, gy, gs⟩ := zst2 hst
  have hlink : Cond.methodLink (zon (zown M)) ix Lib.Math.max.name ∈ zW := zW_4 (List.mem_flatMap.mpr ⟨_, zlk2_mem hq, List.mem_cons_self⟩)
  have hsta : Cond.static Lib.Math.max.name ∈ zW := zW_0 (by unfold zW0; simp)
  have hcod : Cond.code Lib.Math.max.name Lib.Math.max.code 2 (some .int) ∈ zW := zW_0 (by unfold zW0; simp)
  have hini : Cond.initialized "java/lang/Math" ∈ zW := zW_0 (by unfold zW0; simp)
  have hkk := kk φ H locs lsR zext.rf hR hS hl (zc1 (show zok _ (.inl _) from (by show _ ∧ _; omega)) gs)
  rw [show cells + (zn h - zn h) = cells by omega, show slots + (zs h - zs h) = slots by omega] at hkk
  rw [List.map_cons, List.map_cons]
  refine va_mmax (x := Int32.ofInt x) (y := Int32.ofInt y) hx hb (hml.trans hl.2.1.1.symm) hown (hts _ hlink) (hts _ hsta) (hts _ hini) (hts _ hcod) (by omega) (by rw [zcats]; omega) (by omega) (by omega) (zdec_eq hd rfl (by decide)) ?_
  have e : (if Int32.ofInt x < Int32.ofInt y then Int32.ofInt y else Int32.ofInt x) = Int32.ofInt (max x y) := by
    by_cases hxy : x < y
    · rw [if_pos ((zltI gx gy).mpr hxy), show max x y = y by omega]
    · rw [if_neg (fun q => hxy ((zltI gx gy).mp q)), show max x y = x by omega]
  rw [e]
  exact hkk
theorem zS_min {ix M1 : Nat} {x y : Int} (hd : zdec M pc = some (.invokestatic ix)) (hq : zlk2 zcm (zown M) ix = some (7, M1)) (hrk : 1 ≤ zrk M) (hlo : 40 ≤ zlo M) (hst8 : st.length ≤ 8) (m2 : zn h ≤ zn h') (m4 : zs h ≤ zs h') (k : zSnd D cA B b L xs M (pc + 3) ls (.inl (min x y) :: st) h r h') : zSnd D cA B b L xs M pc ls (.inl y :: .inl x :: st) h r h' := by
  refine zSnd.gen k (Nat.le_refl _) m2 (Nat.le_refl _) m4 ?_
  intro p l e R s m args below meth cc H locs cells slots Q φ lsR hC hR hS hl hst hcs hss kk
  obtain ⟨hx, hb, -, -, hml, hown, -, hts, hK, hX, hbB, hBs, hfr, hlc⟩ := hC
  obtain ⟨gx, gy, gs⟩ := zst2 hst
  have hlink : Cond.methodLink (zon (zown M)) ix Lib.Math.min.name ∈ zW := zW_4 (List.mem_flatMap.mpr ⟨_, zlk2_mem hq, List.mem_cons_self⟩)
  have hsta : Cond.static Lib.Math.min.name ∈ zW := zW_0 (by unfold zW0; simp)
  have hcod : Cond.code Lib.Math.min.name Lib.Math.min.code 2 (some .int) ∈ zW := zW_0 (by unfold zW0; simp)
  have hini : Cond.initialized "java/lang/Math" ∈ zW := zW_0 (by unfold zW0; simp)
  have hkk := kk φ H locs lsR zext.rf hR hS hl (zc1 (show zok _ (.inl _) from (by show _ ∧ _; omega)) gs)
  rw [show cells + (zn h - zn h) = cells by omega, show slots + (zs h - zs h) = slots by omega] at hkk
  rw [List.map_cons, List.map_cons]
  refine va_mmin (x := Int32.ofInt x) (y := Int32.ofInt y) hx hb (hml.trans hl.2.1.1.symm) hown (hts _ hlink) (hts _ hsta) (hts _ hini) (hts _ hcod) (by omega) (by rw [zcats]; omega) (by omega) (by omega) (zdec_eq hd rfl (by decide)) ?_
  have e : (if Int32.ofInt y < Int32.ofInt x then Int32.ofInt y else Int32.ofInt x) = Int32.ofInt (min x y) := by
    by_cases hxy : y < x
    · rw [if_pos ((zltI gy gx).mpr hxy), show min x y = y by omega]
    · rw [if_neg (fun q => hxy ((zltI gy gx).mp q)), show min x y = x by omega]
  rw [e]
  exact hkk
theorem zS_objInit {ix a M1 : Nat} (hd : zdec M pc = some (.invokespecial ix)) (hq : zlk2 zcm (zown M) ix = some (4, M1)) (hrk : 1 ≤ zrk M) (hlo : 20 ≤ zlo M) (ha : a ≠ 0) (hst8 : st.length ≤ 8) (k : zSnd D cA B b L xs M (pc + 3) ls st h r h') : zSnd D cA B b L xs M pc ls (.inr a :: st) h r h' := by
  refine zSnd.of k ?_
  intro p l e R s m args below meth cc H locs cells slots Q φ lsR hC hR hS hl hst kk
  obtain ⟨hx, hb, -, -, hml, hown, -, hts, hK, hX, hbB, hBs, hfr, hlc⟩ := hC
  have hlink : Cond.methodLink (zon (zown M)) ix objectInit ∈ zW := zW_4 (List.mem_flatMap.mpr ⟨_, zlk2_mem hq, List.mem_cons_self⟩)
  have hins : Cond.instanceMethod objectInit ∈ zW := zW_0 (by unfold zW0; simp)
  have hcod : Cond.code objectInit ⟨#[0xb1]⟩ 1 none ∈ zW := zW_0 (by unfold zW0; simp)
  rw [List.map_cons, ztr_ref φ ha]
  refine W.objInit (g := F0 m pc lsR (.ref (φ a) :: st.map (ztr φ))) hx hb hown (hts _ hlink) (hts _ hins) (hts _ hcod) rfl (hl.2.1.1.trans hml.symm) rfl (zdec_eq hd rfl (by decide)) (by omega) ?_ (kk lsR hl (zst1 hst).2)
  show 2 * 0 + ((st.map (ztr φ)).map fun v => v.category).sum + 12 ≤ R.locals
  rw [zcats]; omega
/-- behind a call, whatever it answers -/
theorem z_call {p : Program} {l : Launch} {e : Env} {R : Room} {s : State} {m : MethodId} {args : Array Value} {below : List Frame} {meth : Method} {c : Code} {H : Heap} {locs : List Loc} {cells slots : Nat} {Q : State → Prop} {lsA : Array Slot} {rest st0 : List Value} {A : Nat → Prop} {H0 : Heap} {mc ms : Nat} {Qa : State → Outcome → State → Prop} {X : Option Value → State → Prop}
    (hr : va_Run p l e R s m args below meth c H locs cells slots mc ms (F0 m pc lsA st0) rest Qa A) (hS : va_S A H0 H locs) (hQ : ∀ st1 v t, Qa st1 (.returned v) t → X v t ∧ va_F A st1 t)
    (kk : ∀ (v : Option Value) (t : State) (locs1 : List Loc), X v t → va_S A H0 t.heap locs1 → W p l e R s m args below meth c t.heap locs1 (cells + mc) (slots + ms) Q (F0 m (pc + 3) lsA (v.toList ++ rest))) : W p l e R s m args below meth c H locs cells slots Q (F0 m pc lsA st0) := by
  intro T hT X'
  obtain ⟨v, st₀, t, T', L', h0, X2, hL, e1, e2, hq, st⟩ := hr T hT X'
  obtain ⟨hX, hz, hk⟩ := hQ st₀ v t hq
  rw [h0] at hz hk
  obtain ⟨t2, a1, b1⟩ := kk v t (locs ++ L') hX ⟨Nat.le_trans hS.1 hz, fun q h1 h2 => by rw [hk q (Nat.lt_of_lt_of_le h1 hS.1) h2]; exact hS.2.1 q h1 h2, fun q hq => by
      rcases List.mem_append.mp hq with h | h
      · exact hS.2.2 q h
      · exact hL q h⟩ T' e1 X2
  exact ⟨t2, st t2 a1, b1⟩
def zPc (D : va_G) (cA : Nat → ClassId) (B b L : Nat) (xs : Nat → Int32) (φ : Nat → Nat) (as : List zV) (h : zH) : Array Value → State → Prop := fun a U =>
  a = (as.map (ztr φ)).toArray ∧ zKx D cA U ∧ zRel D cA B b L xs φ h U.heap ∧ va_X b L xs U U.heap ∧ b < B ∧ B ≤ U.heap.size
def zQc (D : va_G) (cA : Nat → ClassId) (B b L : Nat) (xs : Nat → Int32) (φ : Nat → Nat) (h : zH) (r : Option zV) (h' : zH) : Array Value → State → Outcome → State → Prop := fun _ st1 o t =>
  (∃ φ' : Nat → Nat, zext φ φ' (zn h) ∧ o = .returned (zrs φ' r) ∧ zRel D cA B b L xs φ' h' t.heap ∧ ∀ v, r = some v → zok (zn h') v) ∧ va_F (fun q => B ≤ q) st1 t
theorem zargs_mem {φ : Nat → Nat} : ∀ (as : List zV) (k i : Nat) (v : zV), as[i]? = some v → (k + i, ztr φ v) ∈ lv_args k (as.map (ztr φ))
  | [], _, _, _, h => by simp at h
  | w :: t, k, i, v, h => by
    cases i with
    | zero =>
      rw [List.getElem?_cons_zero] at h
      cases h
      exact List.mem_cons_self
    | succ i =>
      rw [List.getElem?_cons_succ] at h
      have := zargs_mem (φ := φ) t (k + 1) i v h
      rw [show k + 1 + i = k + (i + 1) by omega] at this
      rw [List.map_cons]
      simp only [lv_args, ztr_cat]
      exact List.mem_cons_of_mem _ this
theorem zsl_len (φ : Nat → Nat) (as : List zV) : (lg_sl (as.map (ztr φ))).length = as.length := by
  induction as with
  | nil => rfl
  | cons v t ih =>
    simp only [lg_sl, List.map_cons, List.flatMap_cons, List.length_append, List.length_cons] at ih ⊢
    rw [if_neg (by rw [ztr_cat]; decide), ih]
    simp; omega
theorem zlr_ent {φ : Nat → Nat} {as : List zV} {n : Nat} (hn : as.length ≤ zml M) (hok : ∀ v ∈ as, zok n v) : zlr φ n (zml M) ((lg_sl (as.map (ztr φ)) ++ List.replicate (zml M - (lg_sl (as.map (ztr φ))).length) Slot.unset).toArray) (zent M as) := by
  have he := lv_entry (as.map (ztr φ)) (n := zml M) (by rw [zsl_len]; exact hn)
  have key : ∀ (i : Nat) (v : zV), (zent M as)[i]? = some (some v) → as[i]? = some v := by
    intro i v hi
    unfold zent at hi
    by_cases hl : i < as.length
    · rw [List.getElem?_append_left (by simpa using hl), List.getElem?_map] at hi
      cases ha : as[i]? with
      | none => rw [ha] at hi; cases hi
      | some w => rw [ha] at hi; cases hi; rfl
    · rw [List.getElem?_append_right (by simpa using hl), List.getElem?_replicate] at hi
      split at hi <;> cases hi
  refine ⟨by simp [zent]; omega, ⟨he.1, he.2.1, fun q hq => ?_⟩, fun i v hi => hok v (List.mem_of_getElem? (key i v hi))⟩
  obtain ⟨i, v, hi, rfl⟩ := zas_of hq
  have := zargs_mem (φ := φ) as 0 i v (key i v hi)
  rw [Nat.zero_add] at this
  exact he.2.2 _ this
theorem zplain : ∀ M, M < 177 → plainName (zy M).cls = true := by decide +kernel
theorem zcls_ok : ∀ M, M < 177 → (zy M).cls = zon (zown M) ∧ zon (zown M) ∈ zO := by decide +kernel
theorem zmh_ok : ∀ M, M < 177 → (zy M).cls ≠ "java/lang/invoke/MethodHandle" ∧ (zy M).cls ≠ "java/lang/invoke/VarHandle" := by decide +kernel
theorem znp_ok : ∀ M, M < 177 → (parseMethodDescriptor (zy M).desc).map (fun d => d.parameters.length) = some (znp M) := by decide +kernel
theorem zcode_in {M' : Nat} (h1 : 1 ≤ M') (h2 : M' < 177) : Cond.code (zy M') (zby M') (zml M') (zrt M') ∈ zW := by
  have hlen : zmt.length = 177 := rfl
  have hg : zmt[M']? = some zmt[M'] := List.getElem?_eq_getElem (by omega)
  have he : Cond.code (zy M') (zby M') (zml M') (zrt M') = zmtW zmt[M'] := by
    unfold zy zby zml zrt
    rw [hg]
    rfl
  rw [he]
  refine zW_2 (List.mem_map.mpr ⟨_, ?_, rfl⟩)
  have hd : (zmt.drop 1)[M' - 1]? = some zmt[M'] := by rw [List.getElem?_drop, show 1 + (M' - 1) = M' by omega]; exact hg
  exact List.mem_of_getElem? hd
theorem zMet {M' : Nat} {as : List zV} (l : Launch) (φ : Nat → Nat) (IH : zSnd D cA B b L xs M' 0 (zent M' as) [] h r h') (hM : M' < 177) (hok : ∀ v ∈ as, zok (zn h) v) (hn : as.length ≤ zml M') :
    Met l (zy M') (Cond.code (zy M') (zby M') (zml M') (zrt M') :: zW) { frames := zrk M', cells := zn h' - zn h, slots := zs h' - zs h, locals := zlo M' } (zPc D cA B b L xs φ as h) (zQc D cA B b L xs φ h r h') (zn h' - zn h) (zs h' - zs h) (fun q => B ≤ q) := by
  refine Met.ofW (cc := zby M') (maxL := zml M') (ret := zrt M') (zplain M' hM) rfl ?_
  intro p e s m args below meth c s₁ B' hml hv
  obtain ⟨rfl, hK, hR, hX, hbB, hBs⟩ := hv
  have hts := atoms_spec (ws := Cond.code (zy M') (zby M') (zml M') (zrt M') :: zW) B'.pre
  have hown : s.vm.findClass (zy M').cls = some m.cls := findClass_of_methodNamed B'.named
  rw [(zcls_ok M' hM).1] at hown
  have hlocks := B'.notSynchronized
  have hC : zC D cA B b L xs p { frames := zrk M', cells := zn h' - zn h, slots := zs h' - zs h, locals := zlo M' } s m (as.map (ztr φ)).toArray meth c M' :=
    ⟨B'.exec, B'.bytes, B'.returns, hlocks, hml, hown, fun _ => (name_of_methodNamed B'.named B'.method).1, fun w hw => hts w (List.mem_cons_of_mem _ hw), hK, hX, hbB, hBs, Nat.le_refl _, Nat.le_refl _⟩
  rw [lg_entry_eq]
  refine IH p l e _ s m _ below meth c s.heap [] 0 0 _ φ _ hC hR va_S.rf (zlr_ent hn hok) (fun v hv => by cases hv) (by show 0 + (zn h' - zn h) ≤ zn h' - zn h; omega) (by show 0 + (zs h' - zs h) ≤ zs h' - zs h; omega) ?_
  intro φ' H' locs' lsR' pc' he hR' hS' hE
  rw [Nat.zero_add, Nat.zero_add]
  have hfin : ∀ t : State, t.heap = H' → (∀ v, r = some v → zok (zn h') v) → zQc D cA B b L xs φ h r h' (as.map (ztr φ)).toArray s (.returned (zrs φ' r)) t := by
    intro t ht hv
    refine ⟨⟨φ', he, rfl, by rw [ht]; exact hR', hv⟩, hS'.F ht⟩
  rcases hE with ⟨x, rfl, hdec, hx, hrt⟩ | ⟨a, rfl, hdec, ha, C, hrt⟩ | ⟨rfl, hdec, hrt⟩
  · have hvv : ∀ v, some (Sum.inl x : zV) = some v → zok (zn h') v := fun v hv => by cases hv; exact hx
    rcases hrt with hrt | ⟨hrt, hx01⟩
    · exact W.iret B'.exec B'.bytes (B'.returns.trans hrt) (fun t ht _ => hfin t ht hvv) hS'.2.2 hdec
    · refine W.zret B'.exec B'.bytes (B'.returns.trans hrt) ?_ (fun t ht _ => hfin t ht hvv) hS'.2.2 hdec
      rcases hx01 with rfl | rfl
      · decide +kernel
      · decide +kernel
  · have hvv : ∀ v, some (Sum.inr a : zV) = some v → zok (zn h') v := fun v hv => by cases hv; exact ha
    refine W.aret B'.exec B'.bytes (B'.returns.trans hrt) (Or.inl ⟨C, rfl⟩) ?_ (fun t ht _ => hfin t ht hvv) hS'.2.2 hdec
    by_cases h0 : a = 0
    · subst h0; exact Or.inl rfl
    · exact Or.inr ⟨φ' a, ztr_ref φ' h0⟩
  · exact W.vret B'.exec B'.bytes (B'.returns.trans hrt) (fun t ht _ => hfin t ht (fun v hv => by cases hv)) hS'.2.2 hdec
end zCalls
