/-! THE SMALL MACHINE IS SOUND -/
section zSound
variable {D : va_G} {cA : Nat → ClassId} {B b L : Nat} {xs : Nat → Int32} {M pc : Nat} {ls : zL} {st : List zV} {h : zH} {r : Option zV} {h' : zH}
theorem zif_inv {c : Prop} [Decidable c] {k : Option zSR} {o : zSR} (q : zif c k = some o) : c ∧ k = some o := by
  unfold zif at q
  split at q
  · exact ⟨by assumption, q⟩
  · cases q
theorem zopt_inv {α : Type} {a : Option α} {k : α → Option zSR} {o : zSR} (q : zopt a k = some o) : ∃ x, a = some x ∧ k x = some o := by
  cases a with
  | none => cases q
  | some x => exact ⟨x, rfl, q⟩
theorem zjmp_inv {off : Int} {k : Nat → Option zSR} {o : zSR} (q : zjmp pc off k = some o) : 0 ≤ (pc : Int) + off ∧ k ((pc : Int) + off).toNat = some o := by
  unfold zjmp at q
  split at q
  · exact ⟨by assumption, q⟩
  · cases q
theorem zgo_inv {pc2 : Nat} {ls2 : zL} {st2 : List zV} {h2 : zH} {o : zSR} (q : zgo pc2 ls2 st2 h2 = some o) : o = .inl (pc2, ls2, st2, h2) := (Option.some.inj q).symm
theorem zldI_inv {k0 : Nat} {f : Int → Option zSR} {o : zSR} (q : zldI ls k0 f = some o) : ∃ x, ls[k0]? = some (some (.inl x)) ∧ f x = some o := by
  unfold zldI at q
  split at q
  · exact ⟨_, by assumption, q⟩
  · cases q
theorem zldR_inv {k0 : Nat} {f : Nat → Option zSR} {o : zSR} (q : zldR ls k0 f = some o) : ∃ x, ls[k0]? = some (some (.inr x)) ∧ f x = some o := by
  unfold zldR at q
  split at q
  · exact ⟨_, by assumption, q⟩
  · cases q
theorem zb1_inv {k : Int → List zV → Option zSR} {o : zSR} (q : zb1 st k = some o) : ∃ x r, st = .inl x :: r ∧ k x r = some o := by
  unfold zb1 at q
  split at q
  · exact ⟨_, _, rfl, q⟩
  · cases q
theorem zb2_inv {k : Int → Int → List zV → Option zSR} {o : zSR} (q : zb2 st k = some o) : ∃ x y r, st = .inl y :: .inl x :: r ∧ k x y r = some o := by
  unfold zb2 at q
  split at q
  · exact ⟨_, _, _, rfl, q⟩
  · cases q
theorem zr1_inv {k : Nat → List zV → Option zSR} {o : zSR} (q : zr1 st k = some o) : ∃ a r, st = .inr a :: r ∧ k a r = some o := by
  unfold zr1 at q
  split at q
  · exact ⟨_, _, rfl, q⟩
  · cases q
theorem zir1_inv {k : Int → Nat → List zV → Option zSR} {o : zSR} (q : zir1 st k = some o) : ∃ i a r, st = .inl i :: .inr a :: r ∧ k i a r = some o := by
  unfold zir1 at q
  split at q
  · exact ⟨_, _, _, rfl, q⟩
  · cases q
theorem ziir_inv {k : Int → Int → Nat → List zV → Option zSR} {o : zSR} (q : ziir st k = some o) : ∃ x i a r, st = .inl x :: .inl i :: .inr a :: r ∧ k x i a r = some o := by
  unfold ziir at q
  split at q
  · exact ⟨_, _, _, _, rfl, q⟩
  · cases q
theorem zrir_inv {k : Nat → Int → Nat → List zV → Option zSR} {o : zSR} (q : zrir st k = some o) : ∃ v i a r, st = .inr v :: .inl i :: .inr a :: r ∧ k v i a r = some o := by
  unfold zrir at q
  split at q
  · exact ⟨_, _, _, _, rfl, q⟩
  · cases q
theorem zrr_inv {k : Nat → Nat → List zV → Option zSR} {o : zSR} (q : zrr st k = some o) : ∃ v a r, st = .inr v :: .inr a :: r ∧ k v a r = some o := by
  unfold zrr at q
  split at q
  · exact ⟨_, _, _, rfl, q⟩
  · cases q
theorem zv1_inv {k : zV → List zV → Option zSR} {o : zSR} (q : zv1 st k = some o) : ∃ v r, st = v :: r ∧ k v r = some o := by
  unfold zv1 at q
  split at q
  · exact ⟨_, _, rfl, q⟩
  · cases q
theorem zv2_inv {k : zV → zV → List zV → Option zSR} {o : zSR} (q : zv2 st k = some o) : ∃ v w r, st = v :: w :: r ∧ k v w r = some o := by
  unfold zv2 at q
  split at q
  · exact ⟨_, _, _, rfl, q⟩
  · cases q
theorem zS_ireturn {x : Int} (hd : zdec M pc = some .ireturn) (hrt : zrt M = some .int ∨ (zrt M = some .boolean ∧ (x = 0 ∨ x = 1))) : zSnd D cA B b L xs M pc ls [.inl x] h (some (.inl x)) h := by
  intro p l e R s m args below meth c H locs cells slots Q φ lsR hC hR hS hl hst hc hs HR
  have hx : -2147483648 ≤ x ∧ x < 2147483648 := (zst1 hst).1
  have := HR φ H locs lsR pc zext.rf hR hS (Or.inl ⟨x, rfl, zdec_eq hd rfl (by decide), hx, hrt⟩)
  rw [Nat.sub_self, Nat.sub_self] at this
  exact this
theorem zS_areturn {a : Nat} {C : String} (hd : zdec M pc = some .areturn) (hrt : zrt M = some (.object C)) : zSnd D cA B b L xs M pc ls [.inr a] h (some (.inr a)) h := by
  intro p l e R s m args below meth c H locs cells slots Q φ lsR hC hR hS hl hst hc hs HR
  have hx : a < zn h := (zst1 hst).1
  have := HR φ H locs lsR pc zext.rf hR hS (Or.inr (Or.inl ⟨a, rfl, zdec_eq hd rfl (by decide), hx, C, hrt⟩))
  rw [Nat.sub_self, Nat.sub_self] at this
  exact this
theorem zS_return (hd : zdec M pc = some .return_) (hrt : zrt M = none) : zSnd D cA B b L xs M pc ls [] h none h := by
  intro p l e R s m args below meth c H locs cells slots Q φ lsR hC hR hS hl hst hc hs HR
  have := HR φ H locs lsR pc zext.rf hR hS (Or.inr (Or.inr ⟨rfl, zdec_eq hd rfl (by decide), hrt⟩))
  rw [Nat.sub_self, Nat.sub_self] at this
  exact this
theorem zblind {φ : Nat → Nat} {as : List zV} : FrameBlind (zPc D cA B b L xs φ as h) := by
  intro a U g mk q
  obtain ⟨q1, ⟨qk, ⟨qa, qb, qc⟩, qn⟩, q3, q4, q5, q6⟩ := q
  exact ⟨q1, ⟨va_K.moved (u := U) (U := U.calling g mk a) (Vm.Alike.refl U.vm) qk, ⟨va_AO.moved (u := U) (U := U.calling g mk a) (Vm.Alike.refl U.vm) qa, va_AO.moved (u := U) (U := U.calling g mk a) (Vm.Alike.refl U.vm) qb, va_AO.moved (u := U) (U := U.calling g mk a) (Vm.Alike.refl U.vm) qc⟩, fun e he h1 => va_tabs rfl (rfl : U.vm = (U.calling g mk a).vm) (qn e he h1)⟩, q3, va_X.moved (u := U) (U := U.calling g mk a) (Vm.Alike.refl U.vm) q4, q5, q6⟩
theorem zwarm {args : Array Value} {s : State} {M' : Nat} (h1 : 1 ≤ M') (h2 : M' < 177) (hts : ∀ w ∈ zW, w.before args s = true) : ∀ w ∈ Cond.code (zy M') (zby M') (zml M') (zrt M') :: zW, ∀ (a' : Array Value) (U : State), s.WarmedH U.vm → w.before a' U = true := by
  intro w hw a' U hW
  have hw2 : w ∈ zW := by
    rcases List.mem_cons.mp hw with rfl | hw
    · exact zcode_in h1 h2
    · exact hw
  exact word_at hW (good_of_word (List.all_eq_true.mp zW_good w hw2)) (hts w hw2)
theorem zlen_ok {M' : Nat} (h2 : M' < 177) : ∀ sig, parseMethodDescriptor (zy M').desc = some sig → znp M' = sig.parameters.length := by
  intro sig hs
  have := znp_ok M' h2
  rw [hs] at this
  exact (Option.some.inj this).symm
theorem zini {args : Array Value} {s : State} {M' : Nat} (h2 : M' < 177) (hts : ∀ w ∈ zW, w.before args s = true) : (Cond.initialized (zy M').cls).before args s = true := by
  refine hts _ (zW_1 (List.mem_map.mpr ⟨(zy M').cls, ?_, rfl⟩))
  rw [(zcls_ok M' h2).1]
  exact (zcls_ok M' h2).2
/-- what every call needs, and what comes behind it -/
theorem zS_callG {as rest : List zV} {r1 : Option zV} {h1 : zH} (m1 : zn h ≤ zn h1) (m2 : zn h1 ≤ zn h') (m3 : zs h ≤ zs h1) (m4 : zs h1 ≤ zs h') (hst0 : st = as.reverse ++ rest)
    (k : zSnd D cA B b L xs M (pc + 3) ls (r1.toList ++ rest) h1 r h')
    (g : ∀ (p : Program) (l : Launch) (e : Env) (R : Room) (s : State) (m : MethodId) (args : Array Value) (below : List Frame) (meth : Method) (c : Code) (H : Heap) (locs : List Loc) (cells slots : Nat) (φ : Nat → Nat) (lsR : Array Slot),
      zC D cA B b L xs p R s m args meth c M → zRel D cA B b L xs φ h H → lsR.size = zml M → (∀ v ∈ as, zok (zn h) v) → (∀ U : State, U.heap = H → s.WarmedH U.vm → zPc D cA B b L xs φ as h (as.map (ztr φ)).toArray U) →
      cells + (zn h1 - zn h) ≤ R.cells ∧ slots + (zs h1 - zs h) ≤ R.slots →
      va_Run p l e R s m args below meth c H locs cells slots (zn h1 - zn h) (zs h1 - zs h) (F0 m pc lsR (st.map (ztr φ))) (rest.map (ztr φ)) (zQc D cA B b L xs φ h r1 h1 (as.map (ztr φ)).toArray) (fun q => B ≤ q)) : zSnd D cA B b L xs M pc ls st h r h' := by
  refine zSnd.gen k m1 m2 m3 m4 ?_
  intro p l e R s m args below meth c H locs cells slots Q φ lsR hC hR hS hl hst hcs hss kk
  have hC0 := hC
  obtain ⟨hx, hb, -, -, hml, hown, -, hts, hK, hX, hbB, hBs, hfr, hlc⟩ := hC
  have hokA : ∀ v ∈ as, zok (zn h) v := fun v hv => hst v (by rw [hst0]; exact List.mem_append_left _ (List.mem_reverse.mpr hv))
  have hokR : ∀ v ∈ rest, zok (zn h) v := fun v hv => hst v (by rw [hst0]; exact List.mem_append_right _ hv)
  have hpre : ∀ U : State, U.heap = H → s.WarmedH U.vm → zPc D cA B b L xs φ as h (as.map (ztr φ)).toArray U := by
    intro U hU hW
    have hXH : va_X b L xs s H := hX.kept (hS.2.1 b (Nat.lt_of_lt_of_le hbB hBs) (Nat.not_le.mpr hbB))
    exact ⟨rfl, hK.moved hW, by rw [hU]; exact hR, by rw [hU]; exact hXH.moved hW.alike, hbB, by rw [hU]; exact Nat.le_trans hBs hS.1⟩
  have hrun := g p l e R s m args below meth c H locs cells slots φ lsR hC0 hR hl.2.1.1 hokA hpre ⟨hcs, hss⟩
  refine z_call (X := fun v t => ∃ φ' : Nat → Nat, zext φ φ' (zn h) ∧ v = zrs φ' r1 ∧ zRel D cA B b L xs φ' h1 t.heap ∧ ∀ w, r1 = some w → zok (zn h1) w) hrun hS ?_ ?_
  · intro st1 v t hq
    obtain ⟨⟨φ', q1, q2, q3, q4⟩, q5⟩ := hq
    cases q2
    exact ⟨⟨φ', q1, rfl, q3, q4⟩, q5⟩
  · intro v t locs1 hX1 hS1
    obtain ⟨φ', he, rfl, hR1, hok1⟩ := hX1
    have hkk := kk φ' t.heap locs1 lsR he hR1 hS1 (hl.ext he m1) (by
      intro w hw
      rcases List.mem_append.mp hw with hw | hw
      · exact hok1 w (by simpa using hw)
      · exact (hokR w hw).mono m1)
    have e1 : (r1.toList ++ rest).map (ztr φ') = (zrs φ' r1).toList ++ rest.map (ztr φ) := by
      rw [List.map_append, zst_ext he hokR]
      cases r1 <;> rfl
    rw [e1] at hkk
    exact hkk
theorem zS_static {ix M' : Nat} {as rest : List zV} {r1 : Option zV} {h1 : zH} (hd : zdec M pc = some (.invokestatic ix)) (hq : zlk2 zcm (zown M) ix = some (0, M') ∨ zlk2 zcm (zown M) ix = some (1, M')) (hst0 : st = as.reverse ++ rest) (hn : as.length = znp M') (hr8 : rest.length ≤ 8) (hrk : zrk M' + 1 ≤ zrk M) (hlo : 19 + zml M' + zlo M' ≤ zlo M) (hnl : as.length ≤ zml M') (hM1 : 1 ≤ M') (hM2 : M' < 177)
    (m1 : zn h ≤ zn h1) (m2 : zn h1 ≤ zn h') (m3 : zs h ≤ zs h1) (m4 : zs h1 ≤ zs h') (IH : zSnd D cA B b L xs M' 0 (zent M' as) [] h r1 h1) (k : zSnd D cA B b L xs M (pc + 3) ls (r1.toList ++ rest) h1 r h') : zSnd D cA B b L xs M pc ls st h r h' := by
  refine zS_callG m1 m2 m3 m4 hst0 k ?_
  intro p l e R s m args below meth c H locs cells slots φ lsR hC hR hsz hokA hpre hroom
  obtain ⟨hx, hb, -, -, hml, hown, -, hts, hK, hX, hbB, hBs, hfr, hlc⟩ := hC
  have hM := zMet l φ IH hM2 hokA hnl
  have hstk : (F0 m pc lsR (st.map (ztr φ))).stack = (as.map (ztr φ)).reverse ++ rest.map (ztr φ) := by
    show st.map (ztr φ) = _
    rw [hst0, List.map_append, List.map_reverse]
  have hw8 : 2 * (F0 m pc lsR (st.map (ztr φ))).monitorRoom + ((rest.map (ztr φ)).map fun v => v.category).sum ≤ 8 := by
    rw [zcats]; show 2 * 0 + rest.length ≤ 8; omega
  have hbase : (zn h1 - zn h = zn h1 - zn h) ∧ (zs h1 - zs h = zs h1 - zs h) ∧ zrk M' + 1 ≤ R.frames ∧ 8 + (zml M' + 11) + zlo M' ≤ R.locals := ⟨rfl, rfl, by omega, by omega⟩
  rcases hq with hq | hq
  · have hsub : ∀ w ∈ zcmW (zown M, ix, 0, M'), w ∈ zW := fun w hw => zW_4 (List.mem_flatMap.mpr ⟨_, zlk2_mem hq, hw⟩)
    have hlink : Cond.methodLink (zon (zown M)) ix (zy M') ∈ zW := hsub _ List.mem_cons_self
    have hsta : Cond.static (zy M') ∈ zW := hsub _ (List.mem_cons_of_mem _ List.mem_cons_self)
    exact va_runS (As := as.map (ztr φ)) (rest := rest.map (ztr φ)) (index := ix) (n := znp M') (nL := zml M) (Ts := zW) (own := zon (zown M)) (bytes := zby M') (maxL := zml M') (ret := zrt M') ⟨hx, hb, hml, hown, hts⟩ hM
      ⟨⟨rfl, rfl, hbase.2.2.1, hbase.2.2.2, zwarm hM1 hM2 hts, List.mem_cons_self, hts _ (zcode_in hM1 hM2), zini hM2 hts, zmh_ok M' hM2, zlen_ok hM2, hts _ hlink⟩, hts _ hsta⟩ ⟨zblind, hpre⟩ rfl (by rw [List.length_map]; exact hn) hsz hstk hw8 (zdec_eq hd rfl (by decide)) hroom
  · have hsub : ∀ w ∈ zcmW (zown M, ix, 1, M'), w ∈ zW := fun w hw => zW_4 (List.mem_flatMap.mpr ⟨_, zlk2_mem hq, hw⟩)
    have hsta : Cond.static (zy M') ∈ zW := hsub _ List.mem_cons_self
    have hnest : va_Nw (.methodLinkNest (zon (zown M)) ix (zy M') "FarTypewriter") s := hK.2.2 (zown M, ix, 1, M') (zlk2_mem hq) rfl
    exact va_runSN (As := as.map (ztr φ)) (rest := rest.map (ztr φ)) (index := ix) (n := znp M') (nL := zml M) (Ts := zW) (own := zon (zown M)) (host := "FarTypewriter") (bytes := zby M') (maxL := zml M') (ret := zrt M') ⟨hx, hb, hml, hown, hts⟩ hM
      ⟨⟨⟨rfl, rfl, hbase.2.2.1, hbase.2.2.2, zwarm hM1 hM2 hts, List.mem_cons_self⟩, hts _ (zcode_in hM1 hM2), zini hM2 hts, zmh_ok M' hM2, zlen_ok hM2, va_Nw.use rfl hnest⟩, hts _ hsta, trivial⟩ ⟨zblind, hpre⟩ rfl (by rw [List.length_map]; exact hn) hsz hstk hw8 (zdec_eq hd rfl (by decide)) hroom
theorem zS_virtual {ix M' a : Nat} {as rest : List zV} {r1 : Option zV} {h1 : zH} (hd : zdec M pc = some (.invokevirtual ix)) (hq : zlk2 zcm (zown M) ix = some (2, M')) (hst0 : st = (.inr a :: as).reverse ++ rest) (hn : as.length = znp M') (hr8 : rest.length ≤ 8) (hrk : zrk M' + 1 ≤ zrk M) (hlo : 19 + zml M' + zlo M' ≤ zlo M) (hnl : as.length + 1 ≤ zml M') (hM1 : 1 ≤ M') (hM2 : M' < 177) (hk : (zK h a).1 = 10 + zown M') (ho : zown M' < 11)
    (m1 : zn h ≤ zn h1) (m2 : zn h1 ≤ zn h') (m3 : zs h ≤ zs h1) (m4 : zs h1 ≤ zs h') (IH : zSnd D cA B b L xs M' 0 (zent M' (.inr a :: as)) [] h r1 h1) (k : zSnd D cA B b L xs M (pc + 3) ls (r1.toList ++ rest) h1 r h') : zSnd D cA B b L xs M pc ls st h r h' := by
  refine zS_callG m1 m2 m3 m4 hst0 k ?_
  intro p l e R s m args below meth c H locs cells slots φ lsR hC hR hsz hokA hpre hroom
  obtain ⟨hx, hb, -, -, hml, hown, -, hts, hK, hX, hbB, hBs, hfr, hlc⟩ := hC
  have hM := zMet l φ IH hM2 hokA hnl
  obtain ⟨hP, hD, hw, hf1, hK1, hsc⟩ := hR
  obtain ⟨a2, an⟩ := hw.own hK1 (a := a) (by omega)
  have e0 : ((.inr a :: as : List zV).map (ztr φ)) = .ref (φ a) :: as.map (ztr φ) := by rw [List.map_cons, ztr_ref φ (by omega)]
  have hstk : (F0 m pc lsR (st.map (ztr φ))).stack = (as.map (ztr φ)).reverse ++ .ref (φ a) :: rest.map (ztr φ) := by
    show st.map (ztr φ) = _
    rw [hst0, List.map_append, List.map_reverse, e0, List.reverse_cons, List.append_assoc]
    rfl
  have hw8 : 2 * (F0 m pc lsR (st.map (ztr φ))).monitorRoom + ((rest.map (ztr φ)).map fun v => v.category).sum ≤ 8 := by
    rw [zcats]; show 2 * 0 + rest.length ≤ 8; omega
  have hsub : ∀ w ∈ zcmW (zown M, ix, 2, M'), w ∈ zW := fun w hw => zW_4 (List.mem_flatMap.mpr ⟨_, zlk2_mem hq, hw⟩)
  have hlink : Cond.methodLink (zon (zown M)) ix (zy M') ∈ zW := hsub _ List.mem_cons_self
  have hins : Cond.instanceMethod (zy M') ∈ zW := hsub _ (List.mem_cons_of_mem _ List.mem_cons_self)
  have hsel : Cond.selects (zy M').cls (zy M') (zy M') ∈ zW := hsub _ (List.mem_cons_of_mem _ (List.mem_cons_of_mem _ List.mem_cons_self))
  have hrecv := va_recv hK.1 hP (zcl_at ho) (q0 := a - 2) (a := φ a) (by rw [zws_get a2 an, zce_obj hk])
  have hcn : (zcw (zown M')).1 = (zy M').cls := by
    have g : ∀ c, c < 11 → (zcw c).1 = zon c := by decide +kernel
    rw [g _ ho, (zcls_ok M' hM2).1]
  rw [hcn] at hrecv
  rw [e0] at hpre ⊢
  exact va_runV (As := as.map (ztr φ)) (rest := rest.map (ztr φ)) (index := ix) (n := znp M') (nL := zml M) (Ts := zW) (own := zon (zown M)) (C := (zy M').cls) (b := φ a) (bytes := zby M') (maxL := zml M') (ret := zrt M') ⟨hx, hb, hml, hown, hts⟩ hM
    ⟨⟨rfl, rfl, Nat.le_trans hrk hfr, (by show 8 + (zml M' + 11) + zlo M' ≤ R.locals; omega), zwarm hM1 hM2 hts, List.mem_cons_self, hts _ (zcode_in hM1 hM2), zini hM2 hts, zmh_ok M' hM2, zlen_ok hM2, hts _ hlink⟩, hts _ hins, hts _ hsel⟩ ⟨zblind, hrecv, hpre⟩ rfl (by rw [List.length_map]; exact hn) hsz hstk hw8 (zdec_eq hd rfl (by decide)) hroom
theorem zret_init : ∀ e ∈ zcm, e.2.2.1 = 3 → (zy e.2.2.2).name = "<init>" ∧ zrt e.2.2.2 = none := by decide +kernel
theorem zS_special {ix M' a : Nat} {as rest : List zV} {r1 : Option zV} {h1 : zH} (hd : zdec M pc = some (.invokespecial ix)) (hq : zlk2 zcm (zown M) ix = some (3, M')) (hst0 : st = (.inr a :: as).reverse ++ rest) (hn : as.length = znp M') (hr8 : rest.length ≤ 8) (hrk : zrk M' + 1 ≤ zrk M) (hlo : 19 + zml M' + zlo M' ≤ zlo M) (hnl : as.length + 1 ≤ zml M') (hM1 : 1 ≤ M') (hM2 : M' < 177) (ha0 : a ≠ 0)
    (m1 : zn h ≤ zn h1) (m2 : zn h1 ≤ zn h') (m3 : zs h ≤ zs h1) (m4 : zs h1 ≤ zs h') (IH : zSnd D cA B b L xs M' 0 (zent M' (.inr a :: as)) [] h r1 h1) (k : zSnd D cA B b L xs M (pc + 3) ls (r1.toList ++ rest) h1 r h') : zSnd D cA B b L xs M pc ls st h r h' := by
  refine zS_callG m1 m2 m3 m4 hst0 k ?_
  intro p l e R s m args below meth c H locs cells slots φ lsR hC hR hsz hokA hpre hroom
  obtain ⟨hx, hb, -, -, hml, hown, -, hts, hK, hX, hbB, hBs, hfr, hlc⟩ := hC
  have hM := zMet l φ IH hM2 hokA hnl
  have e0 : ((.inr a :: as : List zV).map (ztr φ)) = .ref (φ a) :: as.map (ztr φ) := by rw [List.map_cons, ztr_ref φ ha0]
  have hstk : (F0 m pc lsR (st.map (ztr φ))).stack = (as.map (ztr φ)).reverse ++ .ref (φ a) :: rest.map (ztr φ) := by
    show st.map (ztr φ) = _
    rw [hst0, List.map_append, List.map_reverse, e0, List.reverse_cons, List.append_assoc]
    rfl
  have hw8 : 2 * (F0 m pc lsR (st.map (ztr φ))).monitorRoom + ((rest.map (ztr φ)).map fun v => v.category).sum ≤ 8 := by
    rw [zcats]; show 2 * 0 + rest.length ≤ 8; omega
  have hsub : ∀ w ∈ zcmW (zown M, ix, 3, M'), w ∈ zW := fun w hw => zW_4 (List.mem_flatMap.mpr ⟨_, zlk2_mem hq, hw⟩)
  have hlink : Cond.methodLink (zon (zown M)) ix (zy M') ∈ zW := hsub _ List.mem_cons_self
  have hins : Cond.instanceMethod (zy M') ∈ zW := hsub _ (List.mem_cons_of_mem _ List.mem_cons_self)
  obtain ⟨hnm, hrn⟩ : (zy M').name = "<init>" ∧ zrt M' = none := zret_init _ (zlk2_mem hq) rfl
  have hcod := zcode_in hM1 hM2
  have hwarm := zwarm (M' := M') hM1 hM2 hts
  rw [hrn] at hM hcod hwarm
  rw [e0] at hpre ⊢
  exact va_runI (As := as.map (ztr φ)) (rest := rest.map (ztr φ)) (index := ix) (n := znp M') (nL := zml M) (Ts := zW) (own := zon (zown M)) (b := φ a) (bytes := zby M') (maxL := zml M') ⟨hx, hb, hml, hown, hts⟩ hM
    ⟨⟨rfl, rfl, Nat.le_trans hrk hfr, (by show 8 + (zml M' + 11) + zlo M' ≤ R.locals; omega), hwarm, List.mem_cons_self, hts _ hcod, zini hM2 hts, zmh_ok M' hM2, zlen_ok hM2, hts _ hlink⟩, hnm, hts _ hins⟩ ⟨zblind, hpre⟩ rfl (by rw [List.length_map]; exact hn) hsz hstk hw8 (zdec_eq hd rfl (by decide)) hroom
end zSound
