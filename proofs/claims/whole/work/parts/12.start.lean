/-! THE CLAIM OUT OF ONE WALK OF THE LAW'S BODY. Your part is whole_start (and what it stands on); all else here is the same for every law, but numbers. -/
def R_law : String := "FarTypewriterLaw"
def lw_P (b : Addr) (xs : List Int32) (args : Array Value) (s : State) : Prop := args = #[.ref b] ∧ s.IntsAt b xs ∧ xs.length ≤ 2560 ∧ (Jvm.Cond.and given_1 narrow_1).before args s = true
def lw_Q (_ : Array Value) (s : State) (o : Outcome) (t : State) : Prop := o = .returned (some (.int 1)) ∧ Framed s o t [] 600000 7302250
def lw_Z (below : List Frame) (a : Array Value) (s : State) : State → Prop := fun t => ∃ o, t.status = .running ∧ Ended t below o ∧ lw_Q a s o t
/-- the law's own end, with 1 on the stack, nothing written that was there before, its room as the claim has it -/
theorem lw_ret {p : Program} {l : Launch} {e : Env} {s : State} {m : MethodId} {below : List Frame} {meth : Method} {c : Code} {b : Nat} (hx : p.tables.exec = Jvm.exec) (hb : c.code = code) (hr : meth.sig.returnType = ret) (hlocks : meth.locks = false) {pc : Nat} {H : Heap} {ls : Array Slot} (hdg : decode code pc = .ok (.ireturn, 1)) : W p l e room_1 s m #[Value.ref b] below meth c H [] 600000 7302250 (lw_Z below #[Value.ref b] s) (F0 m pc ls [.int 1]) := by
  intro T hT X
  obtain ⟨fs, hret, hrun, hended, hW, hframe⟩ := X.leave (v := some (.int 1)) (hlocks := hlocks) (fun h => by rw [hr] at h; cases h)
  have hmeth' : T.vm.method? m = some meth := X.method'
  refine ⟨T.setFrames fs, ?_, .returned (some (.int 1)), hrun, hended, rfl, ⟨_, rfl⟩, hW, hframe⟩
  jvm_step X.here [X.here.top, hx, hb, hdg, hmeth', hr, ret, narrow_b1]
  (try refine ⟨rfl, ?_⟩); (try refine ⟨rfl, ?_⟩)
  first | (intro acts; rw [hret _ acts rfl rfl rfl]) | rw [hret _ _ rfl rfl rfl]
  exact Steps.refl _
/-- what holds at the law's entry: the machine, the code, the tables' words (any of lw_tbl by 'hts w (by decide +kernel)'), the script of L ints xs at the cell b, what the Statement gives of the start (any of its parts by flat_of_before) -/
def lw_At (p : Program) (s : State) (m : MethodId) (meth : Method) (c : Code) (b L : Nat) (xs : Nat → Int32) : Prop :=
  p.tables.exec = Jvm.exec ∧ c.code = code ∧ meth.sig.returnType = ret ∧ c.maxLocals = 4 ∧ s.vm.findClass R_law = some m.cls ∧ (∀ w ∈ lw_tbl, w.before #[Value.ref b] s = true) ∧ va_X b L xs s s.heap ∧ b < s.heap.size ∧ meth.locks = false ∧ (Jvm.Cond.and given_1 narrow_1).before #[Value.ref b] s = true
/-- the small machine's heap at the law's entry -/
def zh0 (L : Nat) (f : Nat → Int) : zH := (fun a => if a = 1 then (5, L) else (0, 0), fun _ _ => 0, fun _ _ => 0, fun a i => if a = 1 then f i else 0, fun _ _ => 0, 2, 0)
def zls0 : zL := [some (.inr 1), none, none, none]
theorem zknown {args : Array Value} {s : State} (hts : ∀ w ∈ lw_tbl, w.before args s = true) : ∃ (D : va_G), ∀ (k : Nat) (q : vw_C), vwCl[k]? = some q → u_Kn s q.1 q.2.1 q.2.2 (D.1 k) (D.2 k) := by
  have key : ∀ k : Nat, ∃ (cC : ClassId) (iS : Nat → Nat), ∀ q : vw_C, vwCl[k]? = some q → u_Kn s q.1 q.2.1 q.2.2 cC iS := by
    intro k
    by_cases hk : k < 11
    · have hw : ∀ w ∈ u_ws (zcw k).1 (zcw k).2.1 (zcw k).2.2, w ∈ lw_tbl := fun w hw => zW_in w (zcl_in hk w hw)
      have hi : Cond.instantiable (zcw k).1 (zcw k).2.2 ∈ lw_tbl := zW_in _ (zW_3 (List.mem_flatMap.mpr ⟨zcw k, List.mem_of_getElem? (zcl_at hk), List.mem_cons_self⟩))
      obtain ⟨cC, iS, h⟩ := u_known hts hw (hts _ hi)
      refine ⟨cC, iS, fun q hq => ?_⟩
      rw [zcl_at hk] at hq
      cases hq
      exact h
    · refine ⟨0, fun _ => 0, fun q hq => ?_⟩
      have hlen : vwCl.length = 11 := rfl
      rw [List.getElem?_eq_none (by omega)] at hq
      cases hq
  exact ⟨(fun k => Classical.choose (key k), fun k => Classical.choose (Classical.choose_spec (key k))), fun k q hq => Classical.choose_spec (Classical.choose_spec (key k)) q hq⟩
theorem zarrI {args : Array Value} {s : State} (hb : (Cond.arrayClass .int).before args s = true) : ∃ cI : ClassId, ArrOfT s cI .int ∧ va_RA s cI .int := by
  obtain ⟨cA, kA, comp, h1, h2, h3⟩ := Cond.arrayClass_spec hb
  exact ⟨cA, fun n z => ⟨fun k h => (by cases h), kA, h2, comp, h3⟩, h1⟩
theorem zarrO {C : String} {s : State} (hb : va_AO C s) : ∃ cI : ClassId, ArrOfT s cI (.object C) ∧ va_RA s cI (.object C) := by
  obtain ⟨comp, c, k, h1, h2, h3, h4, h5⟩ := Cond.arrayOver_spec hb
  exact ⟨c, fun n z => ⟨fun k h => (by cases h), k, h3, comp, h4⟩, k, comp, h3, h4, h1, h5⟩
theorem znest_in : ∀ e ∈ zcm, e.2.2.1 = 1 → Cond.methodLinkNest (zon e.1) e.2.1 (zy e.2.2.2) "FarTypewriter" ∈ tables_1 := by decide +kernel
theorem zao_in : (Cond.arrayOver (.object RX8) ∈ tables_1 ∧ Cond.arrayOver (.object RX4) ∈ tables_1) ∧ Cond.arrayOver (.object RX2) ∈ tables_1 := by decide +kernel
theorem ztbl_in {w : Cond} (h : w ∈ tables_1) : w ∈ lw_tbl := List.mem_append_right _ h
set_option maxHeartbeats 4000000 in
theorem z_start {p : Program} {e : Env} {s : State} {m : MethodId} {below : List Frame} {meth : Method} {c : Code} (l : Launch) {b L : Nat} {xs : Nat → Int32} (hL : L ≤ 2560) (C0 : lw_At p s m meth c b L xs)
    (hE : zE 0 0 zls0 [] (zh0 L (fun i => (xs i).toInt)) (fun r h' => r = some (.inl 1) ∧ zn h' ≤ 600000 ∧ zs h' ≤ 7302250)) :
    W p l e room_1 s m #[Value.ref b] below meth c s.heap [] 0 0 (lw_Z below #[Value.ref b] s) (entryFrame m ([Value.ref b] : List Value).toArray 4) := by
  obtain ⟨hx, hb, hr, hml, hown, hts, hX, hbl, hlocks, hgv⟩ := C0
  obtain ⟨n, r, h', hrun, rfl, hz1, hz2⟩ := hE
  obtain ⟨D, hD⟩ := zknown hts
  have hao8 : va_AO RX8 s := va_AO.of (hts _ (ztbl_in zao_in.1.1))
  have hao4 : va_AO RX4 s := va_AO.of (hts _ (ztbl_in zao_in.1.2))
  have hao2 : va_AO RX2 s := va_AO.of (hts _ (ztbl_in zao_in.2))
  obtain ⟨c1, a1, b1⟩ := zarrI (hts _ (zW_in _ (zW_0 List.mem_cons_self)))
  obtain ⟨c2, a2, b2⟩ := zarrO hao8
  obtain ⟨c3, a3, b3⟩ := zarrO hao4
  obtain ⟨c4, a4, b4⟩ := zarrO hao2
  obtain ⟨cA, e1, e2, e3, e4⟩ : ∃ cA : Nat → ClassId, cA 1 = c1 ∧ cA 2 = c2 ∧ cA 3 = c3 ∧ cA 4 = c4 := ⟨fun t => if t = 1 then c1 else if t = 2 then c2 else if t = 3 then c3 else c4, rfl, rfl, rfl, rfl⟩
  have hK : va_K D vwCl (ztys cA) s := by
    refine ⟨hD, fun k q hq => ?_⟩
    unfold ztys at hq
    rw [e1, e2, e3, e4] at hq
    match k, hq with
    | 0, hq => cases hq; exact ⟨a1, b1⟩
    | 1, hq => cases hq; exact ⟨a2, b2⟩
    | 2, hq => cases hq; exact ⟨a3, b3⟩
    | 3, hq => cases hq; exact ⟨a4, b4⟩
    | k + 4, hq => simp at hq
  have hKx : zKx D cA s := ⟨hK, ⟨hao8, hao4, hao2⟩, fun q hq h1 => va_Nw.of rfl (hts _ (ztbl_in (znest_in q hq h1)))⟩
  have hC : zC D cA s.heap.size b L xs p room_1 s m #[Value.ref b] meth c 0 := by
    exact ⟨hx, hb, hr, hlocks, hml, hown, fun h0 => absurd rfl h0, fun w hw => hts w (zW_in w hw), hKx, hX, hbl, Nat.le_refl _, by decide +kernel, by decide +kernel⟩
  have hwf : zwf (zh0 L (fun i => (xs i).toInt)) := by
    refine ⟨Nat.le_refl _, fun a h1 h2 => ?_, fun a h1 => ?_, rfl, fun a => ?_, fun f a => ⟨by show -2147483648 ≤ (0 : Int); omega, by show (0 : Int) < 2147483648; omega⟩, fun f a => by show 0 < 2; omega, fun a i => ?_, fun a i => by show 0 < 2; omega⟩
    · have : a < 2 := h2
      omega
    · have h1 : 2 ≤ a := h1
      show (if a = 1 then (5, L) else (0, 0)).1 = 0
      rw [if_neg (by omega)]
    · show (if a = 1 then (5, L) else (0, 0)).2 < 2147483648
      by_cases ha : a = 1
      · rw [if_pos ha]; show L < 2147483648; omega
      · rw [if_neg ha]; show 0 < 2147483648; omega
    · show -2147483648 ≤ (if a = 1 then (xs i).toInt else 0) ∧ (if a = 1 then (xs i).toInt else 0) < 2147483648
      by_cases ha : a = 1
      · rw [if_pos ha]; exact z32 _
      · rw [if_neg ha]; omega
  have hR : zRel D cA s.heap.size b L xs (fun _ => b) (zh0 L (fun i => (xs i).toInt)) s.heap := by
    refine ⟨fun k q h => by simp [zws, zh0, zn] at h, ⟨fun i j p q h => by simp [zws, zh0, zn] at h, fun k q h => by simp [zws, zh0, zn] at h⟩, hwf, rfl, rfl, fun j hj => ?_⟩
    show Int32.ofInt ((xs j).toInt) = xs j
    exact Int32.ofInt_toInt _
  obtain ⟨-, hS⟩ := zsound (D := D) (cA := cA) (B := s.heap.size) (b := b) (L := L) (xs := xs) n 0 0 zls0 [] (zh0 L (fun i => (xs i).toInt)) (some (.inl 1)) h' hrun
  have hent : zlr (fun _ => b) (zn (zh0 L (fun i => (xs i).toInt))) (zml 0) ((lg_sl ([.inr 1].map (ztr (fun _ => b))) ++ List.replicate (zml 0 - (lg_sl ([.inr 1].map (ztr (fun _ => b)))).length) Slot.unset).toArray) (zent 0 [.inr 1]) := zlr_ent (M := 0) (by decide +kernel) (fun v hv => by
    rw [List.mem_singleton.mp hv]
    show 1 < 2
    omega)
  rw [lg_entry_eq]
  have h0n : zn (zh0 L (fun i => (xs i).toInt)) = 2 := rfl
  have h0s : zs (zh0 L (fun i => (xs i).toInt)) = 0 := rfl
  refine hS p l e room_1 s m #[Value.ref b] below meth c s.heap [] 0 0 _ (fun _ => b) _ hC hR va_S.rf hent (fun v hv => by cases hv) (by rw [h0n]; show 0 + (zn h' - 2) ≤ 600000; omega) (by rw [h0s]; show 0 + (zs h' - 0) ≤ 7302250; omega) ?_
  intro φ' H' locs' lsR' pc' he hR' hS' hE
  have hdec : decode code pc' = .ok (.ireturn, 1) := by
    rcases hE with ⟨x, hx1, hd, -⟩ | ⟨a, ha, -⟩ | ⟨h1, -⟩
    · exact hd
    · cases ha
    · cases h1
  refine va_forget (fun q hq => hS'.2.2 q hq) ?_
  refine W.widen (k := 600000) (n := 7302250) (by rw [h0n]; omega) (by rw [h0s]; omega) ?_
  exact lw_ret hx hb hr hlocks hdec
