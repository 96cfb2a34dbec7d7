/-! A LAW AN INSTRUCTION: stack, locals, numbers, branches -/
section zOps
variable {D : va_G} {cA : Nat → ClassId} {B b L : Nat} {xs : Nat → Int32} {M pc : Nat} {ls : zL} {st : List zV} {h : zH} {r : Option zV} {h' : zH}
theorem zc1 {n : Nat} {v : zV} {st : List zV} (hv : zok n v) (hst : ∀ v ∈ st, zok n v) : ∀ w ∈ v :: st, zok n w := by
  intro w hw
  rcases List.mem_cons.mp hw with rfl | hw
  · exact hv
  · exact hst w hw
theorem zS_iconst {n : Int} (hd : zdec M pc = some (.iconst n)) (hn : -1 ≤ n ∧ n ≤ 5) (k : zSnd D cA B b L xs M (pc + 1) ls (.inl n :: st) h r h') : zSnd D cA B b L xs M pc ls st h r h' := by
  refine zSnd.of k ?_
  intro p l e R s m args below meth c H locs cells slots Q φ lsR hC hR hS hl hst kk
  obtain ⟨hx, hb, -⟩ := hC
  exact lv_iconst hx hb (zdec_eq hd rfl (by decide)) rfl (kk lsR hl (zc1 (show zok _ (.inl n) from ⟨by omega, by omega⟩) hst))
theorem zS_bipush {n : Int} (hd : zdec M pc = some (.bipush n)) (hn : -128 ≤ n ∧ n ≤ 127) (k : zSnd D cA B b L xs M (pc + 2) ls (.inl n :: st) h r h') : zSnd D cA B b L xs M pc ls st h r h' := by
  refine zSnd.of k ?_
  intro p l e R s m args below meth c H locs cells slots Q φ lsR hC hR hS hl hst kk
  obtain ⟨hx, hb, -⟩ := hC
  have h8 : (Int8.ofInt n).toInt32 = Int32.ofInt n := by
    apply Int32.toInt_inj.mp
    rw [Int8.toInt_toInt32, ztoI ⟨by omega, by omega⟩, Int8.toInt_ofInt_of_le hn.1 (by omega)]
  exact lv_bipush hx hb (zdec_eq hd rfl (by decide)) h8 (kk lsR hl (zc1 (show zok _ (.inl n) from ⟨by omega, by omega⟩) hst))
theorem zS_sipush {n : Int} (hd : zdec M pc = some (.sipush n)) (hn : -32768 ≤ n ∧ n ≤ 32767) (k : zSnd D cA B b L xs M (pc + 3) ls (.inl n :: st) h r h') : zSnd D cA B b L xs M pc ls st h r h' := by
  refine zSnd.of k ?_
  intro p l e R s m args below meth c H locs cells slots Q φ lsR hC hR hS hl hst kk
  obtain ⟨hx, hb, -⟩ := hC
  have h8 : (Int16.ofInt n).toInt32 = Int32.ofInt n := by
    apply Int32.toInt_inj.mp
    rw [Int16.toInt_toInt32, ztoI ⟨by omega, by omega⟩, Int16.toInt_ofInt_of_le hn.1 (by omega)]
  exact lv_sipush hx hb (zdec_eq hd rfl (by decide)) h8 (kk lsR hl (zc1 (show zok _ (.inl n) from ⟨by omega, by omega⟩) hst))
theorem zlkk_mem {o i : Nat} {v : Int} (hk : zlkk o i = some v) : (o, i, v) ∈ zck := by
  unfold zlkk at hk
  cases hf : zck.find? (fun e => Nat.beq e.1 o && Nat.beq e.2.1 i) with
  | none => rw [hf] at hk; cases hk
  | some e =>
    rw [hf] at hk
    have h1 := List.find?_some hf
    simp only [Bool.and_eq_true, Nat.beq_eq] at h1
    have h2 := List.mem_of_find?_eq_some hf
    obtain ⟨a, b', c⟩ := e
    simp only [Option.map_some, Option.some.injEq] at hk
    obtain ⟨rfl, rfl⟩ := h1
    subst hk
    exact h2
theorem zlk2_mem {l : List (Nat × Nat × Nat × Nat)} {o i : Nat} {q : Nat × Nat} (hk : zlk2 l o i = some q) : (o, i, q.1, q.2) ∈ l := by
  unfold zlk2 at hk
  cases hf : l.find? (fun e => Nat.beq e.1 o && Nat.beq e.2.1 i) with
  | none => rw [hf] at hk; cases hk
  | some e =>
    rw [hf] at hk
    have h1 := List.find?_some hf
    simp only [Bool.and_eq_true, Nat.beq_eq] at h1
    have h2 := List.mem_of_find?_eq_some hf
    obtain ⟨a, b', c⟩ := e
    simp only [Option.map_some, Option.some.injEq] at hk
    obtain ⟨rfl, rfl⟩ := h1
    subst hk
    exact h2
theorem zlkc_mem {o i c : Nat} (hk : zlkc o i = some c) : (o, i, c) ∈ zcc := by
  unfold zlkc at hk
  cases hf : zcc.find? (fun e => Nat.beq e.1 o && Nat.beq e.2.1 i) with
  | none => rw [hf] at hk; cases hk
  | some e =>
    rw [hf] at hk
    have h1 := List.find?_some hf
    simp only [Bool.and_eq_true, Nat.beq_eq] at h1
    have h2 := List.mem_of_find?_eq_some hf
    obtain ⟨a, b', c⟩ := e
    simp only [Option.map_some, Option.some.injEq] at hk
    obtain ⟨rfl, rfl⟩ := h1
    subst hk
    exact h2
theorem zW_0 {w : Cond} (h : w ∈ zW0) : w ∈ zW := List.mem_append_left _ h
theorem zW_1 {w : Cond} (h : w ∈ zW1) : w ∈ zW := List.mem_append_right _ (List.mem_append_left _ h)
theorem zW_2 {w : Cond} (h : w ∈ zW2) : w ∈ zW := List.mem_append_right _ (List.mem_append_right _ (List.mem_append_left _ h))
theorem zW_3 {w : Cond} (h : w ∈ zW3) : w ∈ zW := List.mem_append_right _ (List.mem_append_right _ (List.mem_append_right _ (List.mem_append_left _ h)))
theorem zW_4 {w : Cond} (h : w ∈ zW4) : w ∈ zW := List.mem_append_right _ (List.mem_append_right _ (List.mem_append_right _ (List.mem_append_right _ (List.mem_append_left _ h))))
theorem zW_5 {w : Cond} (h : w ∈ zW5) : w ∈ zW := List.mem_append_right _ (List.mem_append_right _ (List.mem_append_right _ (List.mem_append_right _ (List.mem_append_right _ (List.mem_append_left _ h)))))
theorem zW_6 {w : Cond} (h : w ∈ zW6) : w ∈ zW := List.mem_append_right _ (List.mem_append_right _ (List.mem_append_right _ (List.mem_append_right _ (List.mem_append_right _ (List.mem_append_right _ (List.mem_append_left _ h))))))
theorem zW_7 {w : Cond} (h : w ∈ zW7) : w ∈ zW := List.mem_append_right _ (List.mem_append_right _ (List.mem_append_right _ (List.mem_append_right _ (List.mem_append_right _ (List.mem_append_right _ (List.mem_append_right _ h))))))
theorem zS_ldc {ix : Nat} {v : Int} (hd : zdec M pc = some (.ldc ix)) (hv : zlkk (zown M) ix = some v) (hn : 0 ≤ v ∧ v ≤ 100000) (k : zSnd D cA B b L xs M (pc + 2) ls (.inl v :: st) h r h') : zSnd D cA B b L xs M pc ls st h r h' := by
  refine zSnd.of k ?_
  intro p l e R s m args below meth c H locs cells slots Q φ lsR hC hR hS hl hst kk
  obtain ⟨hx, hb, -, -, -, hown, -, hts, -⟩ := hC
  have hw : Cond.constant (zon (zown M)) ix (Int32.ofInt v) ∈ zW := zW_7 (List.mem_map.mpr ⟨_, zlkk_mem hv, rfl⟩)
  exact lv_ldc hx hb hown (hts _ hw) (zdec_eq hd rfl (by decide)) (kk lsR hl (zc1 (show zok _ (.inl v) from ⟨by omega, by omega⟩) hst))
theorem zS_null (hd : zdec M pc = some .aconst_null) (k : zSnd D cA B b L xs M (pc + 1) ls (.inr 0 :: st) h r h') : zSnd D cA B b L xs M pc ls st h r h' := by
  refine zSnd.of k ?_
  intro p l e R s m args below meth c H locs cells slots Q φ lsR hC hR hS hl hst kk
  obtain ⟨hx, hb, -⟩ := hC
  have h2 : 2 ≤ zn h := hR.2.2.1.1
  exact lv_null hx hb (zdec_eq hd rfl (by decide)) (kk lsR hl (zc1 (show zok _ (.inr 0) from (by show 0 < zn h; omega)) hst))
theorem zS_iload {k0 : Nat} {x : Int} (hd : zdec M pc = some (.iload k0)) (hv : ls[k0]? = some (some (.inl x))) (k : zSnd D cA B b L xs M (pc + 2) ls (.inl x :: st) h r h') : zSnd D cA B b L xs M pc ls st h r h' := by
  refine zSnd.of k ?_
  intro p l e R s m args below meth c H locs cells slots Q φ lsR hC hR hS hl hst kk
  obtain ⟨hx, hb, -⟩ := hC
  exact lv_iload hx hb (zdec_eq hd rfl (by decide)) (hl.at hv) (kk lsR hl (zc1 (hl.2.2 _ _ hv) hst))
theorem zS_iload_n {k0 : Fin 4} {x : Int} (hd : zdec M pc = some (.iload_n k0)) (hv : ls[(k0 : Nat)]? = some (some (.inl x))) (k : zSnd D cA B b L xs M (pc + 1) ls (.inl x :: st) h r h') : zSnd D cA B b L xs M pc ls st h r h' := by
  refine zSnd.of k ?_
  intro p l e R s m args below meth c H locs cells slots Q φ lsR hC hR hS hl hst kk
  obtain ⟨hx, hb, -⟩ := hC
  exact lv_iload_n hx hb (zdec_eq hd rfl (by decide)) rfl (hl.at hv) (kk lsR hl (zc1 (hl.2.2 _ _ hv) hst))
theorem ztr_null (φ : Nat → Nat) : ztr φ (.inr 0) = .null := rfl
theorem ztr_ref (φ : Nat → Nat) {a : Nat} (h : a ≠ 0) : ztr φ (.inr a) = .ref (φ a) := by
  show va_rf (zrf φ a) = .ref (φ a)
  unfold zrf
  rw [if_neg h]
  rfl
theorem zS_aload {k0 : Nat} {x : Nat} (hd : zdec M pc = some (.aload k0)) (hv : ls[k0]? = some (some (.inr x))) (k : zSnd D cA B b L xs M (pc + 2) ls (.inr x :: st) h r h') : zSnd D cA B b L xs M pc ls st h r h' := by
  refine zSnd.of k ?_
  intro p l e R s m args below meth c H locs cells slots Q φ lsR hC hR hS hl hst kk
  obtain ⟨hx, hb, -⟩ := hC
  have h1 := hl.at hv
  have h2 := kk lsR hl (zc1 (hl.2.2 _ _ hv) hst)
  by_cases h0 : x = 0
  · subst h0
    exact lv_aloadN hx hb (zdec_eq hd rfl (by decide)) h1 h2
  · rw [ztr_ref φ h0] at h1
    rw [List.map_cons, ztr_ref φ h0] at h2
    exact lv_aload hx hb (zdec_eq hd rfl (by decide)) h1 h2
theorem zS_aload_n {k0 : Fin 4} {x : Nat} (hd : zdec M pc = some (.aload_n k0)) (hv : ls[(k0 : Nat)]? = some (some (.inr x))) (k : zSnd D cA B b L xs M (pc + 1) ls (.inr x :: st) h r h') : zSnd D cA B b L xs M pc ls st h r h' := by
  refine zSnd.of k ?_
  intro p l e R s m args below meth c H locs cells slots Q φ lsR hC hR hS hl hst kk
  obtain ⟨hx, hb, -⟩ := hC
  have h1 := hl.at hv
  have h2 := kk lsR hl (zc1 (hl.2.2 _ _ hv) hst)
  by_cases h0 : x = 0
  · subst h0
    exact lv_aload_nN hx hb (zdec_eq hd rfl (by decide)) rfl h1 h2
  · rw [ztr_ref φ h0] at h1
    rw [List.map_cons, ztr_ref φ h0] at h2
    exact lv_aload_n hx hb (zdec_eq hd rfl (by decide)) rfl h1 h2
theorem zS_istore {k0 : Nat} {x : Int} (hd : zdec M pc = some (.istore k0)) (hk : k0 < ls.length) (k : zSnd D cA B b L xs M (pc + 2) (ls.set k0 (some (.inl x))) st h r h') : zSnd D cA B b L xs M pc ls (.inl x :: st) h r h' := by
  refine zSnd.of k ?_
  intro p l e R s m args below meth c H locs cells slots Q φ lsR hC hR hS hl hst kk
  obtain ⟨hx, hb, -⟩ := hC
  exact lv_istore hx hb (zdec_eq hd rfl (by decide)) hl.2.1 (by rw [← hl.1]; exact hk) rfl (fun ls' h1 => kk ls' (hl.set (hst _ List.mem_cons_self) h1 hk) (fun v hv => hst v (List.mem_cons_of_mem _ hv)))
theorem zS_istore_n {k0 : Fin 4} {x : Int} (hd : zdec M pc = some (.istore_n k0)) (hk : (k0 : Nat) < ls.length) (k : zSnd D cA B b L xs M (pc + 1) (ls.set (k0 : Nat) (some (.inl x))) st h r h') : zSnd D cA B b L xs M pc ls (.inl x :: st) h r h' := by
  refine zSnd.of k ?_
  intro p l e R s m args below meth c H locs cells slots Q φ lsR hC hR hS hl hst kk
  obtain ⟨hx, hb, -⟩ := hC
  exact lv_istore_n hx hb (zdec_eq hd rfl (by decide)) rfl hl.2.1 (by rw [← hl.1]; exact hk) rfl (fun ls' h1 => kk ls' (hl.set (hst _ List.mem_cons_self) h1 hk) (fun v hv => hst v (List.mem_cons_of_mem _ hv)))
theorem zS_astore {k0 : Nat} {x : Nat} (hd : zdec M pc = some (.astore k0)) (hk : k0 < ls.length) (k : zSnd D cA B b L xs M (pc + 2) (ls.set k0 (some (.inr x))) st h r h') : zSnd D cA B b L xs M pc ls (.inr x :: st) h r h' := by
  refine zSnd.of k ?_
  intro p l e R s m args below meth c H locs cells slots Q φ lsR hC hR hS hl hst kk
  obtain ⟨hx, hb, -⟩ := hC
  have hn : k0 < zml M := by rw [← hl.1]; exact hk
  have h2 := fun (ls' : Array Slot) h1 => kk ls' (hl.set (hst _ List.mem_cons_self) h1 hk) (fun v hv => hst v (List.mem_cons_of_mem _ hv))
  by_cases h0 : x = 0
  · subst h0
    exact lv_astoreN hx hb (zdec_eq hd rfl (by decide)) hl.2.1 hn rfl h2
  · rw [List.map_cons, ztr_ref φ h0]
    refine lv_astore hx hb (zdec_eq hd rfl (by decide)) hl.2.1 hn rfl (fun ls' h1 => h2 ls' ?_)
    rw [ztr_ref φ h0]
    exact h1
theorem zS_astore_n {k0 : Fin 4} {x : Nat} (hd : zdec M pc = some (.astore_n k0)) (hk : (k0 : Nat) < ls.length) (k : zSnd D cA B b L xs M (pc + 1) (ls.set (k0 : Nat) (some (.inr x))) st h r h') : zSnd D cA B b L xs M pc ls (.inr x :: st) h r h' := by
  refine zSnd.of k ?_
  intro p l e R s m args below meth c H locs cells slots Q φ lsR hC hR hS hl hst kk
  obtain ⟨hx, hb, -⟩ := hC
  have hn : (k0 : Nat) < zml M := by rw [← hl.1]; exact hk
  have h2 := fun (ls' : Array Slot) h1 => kk ls' (hl.set (hst _ List.mem_cons_self) h1 hk) (fun v hv => hst v (List.mem_cons_of_mem _ hv))
  by_cases h0 : x = 0
  · subst h0
    exact lv_astore_nN hx hb (zdec_eq hd rfl (by decide)) rfl hl.2.1 hn rfl h2
  · rw [List.map_cons, ztr_ref φ h0]
    refine lv_astore_n hx hb (zdec_eq hd rfl (by decide)) rfl hl.2.1 hn rfl (fun ls' h1 => h2 ls' ?_)
    rw [ztr_ref φ h0]
    exact h1
theorem zS_iinc {k0 : Nat} {n : Int} {x : Int} (hd : zdec M pc = some (.iinc k0 n)) (hv : ls[k0]? = some (some (.inl x))) (k : zSnd D cA B b L xs M (pc + 3) (ls.set k0 (some (.inl (zw (x + n))))) st h r h') : zSnd D cA B b L xs M pc ls st h r h' := by
  refine zSnd.of k ?_
  intro p l e R s m args below meth c H locs cells slots Q φ lsR hC hR hS hl hst kk
  obtain ⟨hx, hb, -⟩ := hC
  have hk := (List.getElem?_eq_some_iff.mp hv).1
  obtain ⟨j, hj⟩ := List.getElem?_of_mem (zas_mem (φ := φ) hv)
  refine lv_iinc (v := Int32.ofInt (zw (x + n))) hx hb (zdec_eq hd rfl (by decide)) hl.2.1 hj (by rw [zofI, Int32.ofInt_add]) (by rw [← hl.1]; exact hk) rfl (fun ls' h1 => kk ls' (hl.set (show zok _ (.inl _) from zw_in _) h1 hk) hst)
theorem zst2 {n : Nat} {x y : Int} {st : List zV} (hst : ∀ v ∈ (.inl y :: .inl x :: st : List zV), zok n v) : (-2147483648 ≤ x ∧ x < 2147483648) ∧ (-2147483648 ≤ y ∧ y < 2147483648) ∧ ∀ v ∈ st, zok n v :=
  ⟨hst (.inl x) (List.mem_cons_of_mem _ List.mem_cons_self), hst (.inl y) List.mem_cons_self, fun v hv => hst v (List.mem_cons_of_mem _ (List.mem_cons_of_mem _ hv))⟩
theorem zst1 {n : Nat} {y : zV} {st : List zV} (hst : ∀ v ∈ y :: st, zok n v) : zok n y ∧ ∀ v ∈ st, zok n v := ⟨hst y List.mem_cons_self, fun v hv => hst v (List.mem_cons_of_mem _ hv)⟩
theorem zS_iadd {x y : Int} (hd : zdec M pc = some .iadd) (k : zSnd D cA B b L xs M (pc + 1) ls (.inl (zw (x + y)) :: st) h r h') : zSnd D cA B b L xs M pc ls (.inl y :: .inl x :: st) h r h' := by
  refine zSnd.of k ?_
  intro p l e R s m args below meth c H locs cells slots Q φ lsR hC hR hS hl hst kk
  obtain ⟨hx, hb, -⟩ := hC
  have h2 := kk lsR hl (zc1 (show zok _ (.inl _) from zw_in _) (zst2 hst).2.2)
  simp only [List.map_cons, ztr, zofI, Int32.ofInt_add] at h2
  exact lv_iadd hx hb (zdec_eq hd rfl (by decide)) h2
theorem zS_isub {x y : Int} (hd : zdec M pc = some .isub) (k : zSnd D cA B b L xs M (pc + 1) ls (.inl (zw (x - y)) :: st) h r h') : zSnd D cA B b L xs M pc ls (.inl y :: .inl x :: st) h r h' := by
  refine zSnd.of k ?_
  intro p l e R s m args below meth c H locs cells slots Q φ lsR hC hR hS hl hst kk
  obtain ⟨hx, hb, -⟩ := hC
  have h2 := kk lsR hl (zc1 (show zok _ (.inl _) from zw_in _) (zst2 hst).2.2)
  simp only [List.map_cons, ztr, zofI, Int32.ofInt_sub] at h2
  exact lv_isub hx hb (zdec_eq hd rfl (by decide)) h2
theorem zS_imul {x y : Int} (hd : zdec M pc = some .imul) (k : zSnd D cA B b L xs M (pc + 1) ls (.inl (zw (x * y)) :: st) h r h') : zSnd D cA B b L xs M pc ls (.inl y :: .inl x :: st) h r h' := by
  refine zSnd.of k ?_
  intro p l e R s m args below meth c H locs cells slots Q φ lsR hC hR hS hl hst kk
  obtain ⟨hx, hb, -⟩ := hC
  have h2 := kk lsR hl (zc1 (show zok _ (.inl _) from zw_in _) (zst2 hst).2.2)
  simp only [List.map_cons, ztr, zofI, Int32.ofInt_mul] at h2
  exact lv_imul hx hb (zdec_eq hd rfl (by decide)) h2
theorem zdivI {x y : Int} (hx : -2147483648 ≤ x ∧ x < 2147483648) (hy : -2147483648 ≤ y ∧ y < 2147483648) : Int32.ofInt x / Int32.ofInt y = Int32.ofInt (x.tdiv y) := by
  apply Int32.toInt_inj.mp
  rw [Int32.toInt_div, ztoI hx, ztoI hy, Int32.toInt_ofInt]
theorem zS_idiv {x y : Int} (hd : zdec M pc = some .idiv) (h0 : y ≠ 0) (k : zSnd D cA B b L xs M (pc + 1) ls (.inl (zw (x.tdiv y)) :: st) h r h') : zSnd D cA B b L xs M pc ls (.inl y :: .inl x :: st) h r h' := by
  refine zSnd.of k ?_
  intro p l e R s m args below meth c H locs cells slots Q φ lsR hC hR hS hl hst kk
  obtain ⟨hx, hb, -⟩ := hC
  obtain ⟨gx, gy, gs⟩ := zst2 hst
  have h2 := kk lsR hl (zc1 (show zok _ (.inl _) from zw_in _) gs)
  simp only [List.map_cons, ztr, zofI, ← zdivI gx gy] at h2
  exact lv_idiv hx hb (zdec_eq hd rfl (by decide)) (fun q => h0 (by rw [z0I, zeqI gy (by omega)] at q; exact q)) h2
theorem zS_irem {x y : Int} (hd : zdec M pc = some .irem) (h0 : y ≠ 0) (k : zSnd D cA B b L xs M (pc + 1) ls (.inl (zw (x.tmod y)) :: st) h r h') : zSnd D cA B b L xs M pc ls (.inl y :: .inl x :: st) h r h' := by
  refine zSnd.of k ?_
  intro p l e R s m args below meth c H locs cells slots Q φ lsR hC hR hS hl hst kk
  obtain ⟨hx, hb, -⟩ := hC
  obtain ⟨gx, gy, gs⟩ := zst2 hst
  have h2 := kk lsR hl (zc1 (show zok _ (.inl _) from zw_in _) gs)
  have e1 : Int32.ofInt (x.tmod y) = Int32.ofInt x - Int32.ofInt x / Int32.ofInt y * Int32.ofInt y := by
    rw [zdivI gx gy, ← Int32.ofInt_mul, ← Int32.ofInt_sub, Int.tmod_def, Int.mul_comm]
  simp only [List.map_cons, ztr, zofI, e1] at h2
  exact lv_irem hx hb (zdec_eq hd rfl (by decide)) (fun q => h0 (by rw [z0I, zeqI gy (by omega)] at q; exact q)) h2
theorem zS_iand {x y : Int} (hd : zdec M pc = some .iand) (k : zSnd D cA B b L xs M (pc + 1) ls (.inl (zand x y) :: st) h r h') : zSnd D cA B b L xs M pc ls (.inl y :: .inl x :: st) h r h' := by
  refine zSnd.of k ?_
  intro p l e R s m args below meth c H locs cells slots Q φ lsR hC hR hS hl hst kk
  obtain ⟨hx, hb, -⟩ := hC
  have h2 := kk lsR hl (zc1 (show zok _ (.inl _) from z32 _) (zst2 hst).2.2)
  simp only [List.map_cons, ztr, zand, Int32.ofInt_toInt] at h2
  exact lv_iand hx hb (zdec_eq hd rfl (by decide)) h2
theorem zS_ixor {x y : Int} (hd : zdec M pc = some .ixor) (k : zSnd D cA B b L xs M (pc + 1) ls (.inl (zxor x y) :: st) h r h') : zSnd D cA B b L xs M pc ls (.inl y :: .inl x :: st) h r h' := by
  refine zSnd.of k ?_
  intro p l e R s m args below meth c H locs cells slots Q φ lsR hC hR hS hl hst kk
  obtain ⟨hx, hb, -⟩ := hC
  have h2 := kk lsR hl (zc1 (show zok _ (.inl _) from z32 _) (zst2 hst).2.2)
  simp only [List.map_cons, ztr, zxor, Int32.ofInt_toInt] at h2
  exact lv_ixor hx hb (zdec_eq hd rfl (by decide)) h2
theorem zS_ishr {x y : Int} (hd : zdec M pc = some .ishr) (k : zSnd D cA B b L xs M (pc + 1) ls (.inl (zshr x y) :: st) h r h') : zSnd D cA B b L xs M pc ls (.inl y :: .inl x :: st) h r h' := by
  refine zSnd.of k ?_
  intro p l e R s m args below meth c H locs cells slots Q φ lsR hC hR hS hl hst kk
  obtain ⟨hx, hb, -⟩ := hC
  have h2 := kk lsR hl (zc1 (show zok _ (.inl _) from z32 _) (zst2 hst).2.2)
  simp only [List.map_cons, ztr, zshr, Int32.ofInt_toInt] at h2
  exact lv_ishr hx hb (zdec_eq hd rfl (by decide)) h2
theorem zS_dup {v : zV} (hd : zdec M pc = some .dup) (k : zSnd D cA B b L xs M (pc + 1) ls (v :: v :: st) h r h') : zSnd D cA B b L xs M pc ls (v :: st) h r h' := by
  refine zSnd.of k ?_
  intro p l e R s m args below meth c H locs cells slots Q φ lsR hC hR hS hl hst kk
  obtain ⟨hx, hb, -⟩ := hC
  exact lv_dup hx hb (zdec_eq hd rfl (by decide)) (ztr_cat φ v) (kk lsR hl (zc1 (zst1 hst).1 hst))
theorem zS_dup2 {v w : zV} (hd : zdec M pc = some .dup2) (k : zSnd D cA B b L xs M (pc + 1) ls (v :: w :: v :: w :: st) h r h') : zSnd D cA B b L xs M pc ls (v :: w :: st) h r h' := by
  refine zSnd.of k ?_
  intro p l e R s m args below meth c H locs cells slots Q φ lsR hC hR hS hl hst kk
  obtain ⟨hx, hb, -⟩ := hC
  exact lv_dup2_11 hx hb (zdec_eq hd rfl (by decide)) (ztr_cat φ v) (ztr_cat φ w) (kk lsR hl (zc1 (zst1 hst).1 (zc1 (zst1 (zst1 hst).2).1 hst)))
theorem zS_pop {v : zV} (hd : zdec M pc = some .pop) (k : zSnd D cA B b L xs M (pc + 1) ls st h r h') : zSnd D cA B b L xs M pc ls (v :: st) h r h' := by
  refine zSnd.of k ?_
  intro p l e R s m args below meth c H locs cells slots Q φ lsR hC hR hS hl hst kk
  obtain ⟨hx, hb, -⟩ := hC
  exact lv_pop hx hb (zdec_eq hd rfl (by decide)) (ztr_cat φ v) (kk lsR hl (zst1 hst).2)
theorem zS_goto {off : Int} (hd : zdec M pc = some (.goto off)) (h0 : 0 ≤ (pc : Int) + off) (k : zSnd D cA B b L xs M ((pc : Int) + off).toNat ls st h r h') : zSnd D cA B b L xs M pc ls st h r h' := by
  refine zSnd.of k ?_
  intro p l e R s m args below meth c H locs cells slots Q φ lsR hC hR hS hl hst kk
  obtain ⟨hx, hb, -⟩ := hC
  exact lv_goto hx hb (zdec_eq hd rfl (by decide)) (Int.toNat_of_nonneg h0).symm (kk lsR hl hst)
/-- a branch: two ways on, the heap as it was -/
theorem zSnd.br {P : Prop} [Decidable P] {pc2 pc3 : Nat} {st2 : List zV} (k : if P then zSnd D cA B b L xs M pc2 ls st2 h r h' else zSnd D cA B b L xs M pc3 ls st2 h r h')
    (g : ∀ (p : Program) (l : Launch) (e : Env) (R : Room) (s : State) (m : MethodId) (args : Array Value) (below : List Frame) (meth : Method) (c : Code) (H : Heap) (locs : List Loc) (cells slots : Nat) (Q : State → Prop) (φ : Nat → Nat) (lsR : Array Slot),
      zC D cA B b L xs p R s m args meth c M → (∀ v ∈ st, zok (zn h) v) →
      (P → W p l e R s m args below meth c H locs cells slots Q (F0 m pc2 lsR (st2.map (ztr φ)))) → (¬ P → W p l e R s m args below meth c H locs cells slots Q (F0 m pc3 lsR (st2.map (ztr φ)))) →
      W p l e R s m args below meth c H locs cells slots Q (F0 m pc lsR (st.map (ztr φ)))) (hsub : ∀ v ∈ st2, v ∈ st) : zSnd D cA B b L xs M pc ls st h r h' := by
  intro p l e R s m args below meth c H locs cells slots Q φ lsR hC hR hS hl hst hc hs HR
  refine g p l e R s m args below meth c H locs cells slots Q φ lsR hC hst (fun hp => ?_) (fun hp => ?_)
  · rw [if_pos hp] at k
    exact k p l e R s m args below meth c H locs cells slots Q φ lsR hC hR hS hl (fun v hv => hst v (hsub v hv)) hc hs HR
  · rw [if_neg hp] at k
    exact k p l e R s m args below meth c H locs cells slots Q φ lsR hC hR hS hl (fun v hv => hst v (hsub v hv)) hc hs HR
theorem zsub1 {v : zV} {st : List zV} : ∀ w ∈ st, w ∈ v :: st := fun _ h => List.mem_cons_of_mem _ h
theorem zsub2 {v u : zV} {st : List zV} : ∀ w ∈ st, w ∈ v :: u :: st := fun _ h => List.mem_cons_of_mem _ (List.mem_cons_of_mem _ h)
theorem zS_if_eq {off : Int} {x : Int} (hd : zdec M pc = some (.ifCond .eq off)) (h0 : 0 ≤ (pc : Int) + off) (k : if x = 0 then zSnd D cA B b L xs M ((pc : Int) + off).toNat ls st h r h' else zSnd D cA B b L xs M (pc + 3) ls st h r h') : zSnd D cA B b L xs M pc ls (.inl x :: st) h r h' := by
  refine zSnd.br k ?_ zsub1
  intro p l e R s m args below meth c H locs cells slots Q φ lsR hC hst k1 k2
  obtain ⟨hx, hb, -⟩ := hC
  have gx : -2147483648 ≤ x ∧ x < 2147483648 := (zst1 hst).1
  have g0 : -2147483648 ≤ (0 : Int) ∧ (0 : Int) < 2147483648 := by omega
  refine lv_if_eq hx hb (zdec_eq hd rfl (by decide)) (Int.toNat_of_nonneg h0).symm (fun q => k1 ?_) (fun q => k2 ?_)
  · (try simp only [z0I, zeqI gx g0, zltI gx g0, zltI g0 gx, zleI gx g0, zleI g0 gx, ne_eq, Int32.not_lt, Int32.not_le, Int.not_lt, Int.not_le] at q ⊢); exact q
  · (try simp only [z0I, zeqI gx g0, zltI gx g0, zltI g0 gx, zleI gx g0, zleI g0 gx, ne_eq, Int32.not_lt, Int32.not_le, Int.not_lt, Int.not_le, Classical.not_not] at q ⊢); exact q
theorem zS_if_ne {off : Int} {x : Int} (hd : zdec M pc = some (.ifCond .ne off)) (h0 : 0 ≤ (pc : Int) + off) (k : if x ≠ 0 then zSnd D cA B b L xs M ((pc : Int) + off).toNat ls st h r h' else zSnd D cA B b L xs M (pc + 3) ls st h r h') : zSnd D cA B b L xs M pc ls (.inl x :: st) h r h' := by
  refine zSnd.br k ?_ zsub1
  intro p l e R s m args below meth c H locs cells slots Q φ lsR hC hst k1 k2
  obtain ⟨hx, hb, -⟩ := hC
  have gx : -2147483648 ≤ x ∧ x < 2147483648 := (zst1 hst).1
  have g0 : -2147483648 ≤ (0 : Int) ∧ (0 : Int) < 2147483648 := by omega
  refine lv_if_ne hx hb (zdec_eq hd rfl (by decide)) (Int.toNat_of_nonneg h0).symm (fun q => k1 ?_) (fun q => k2 ?_)
  · (try simp only [z0I, zeqI gx g0, zltI gx g0, zltI g0 gx, zleI gx g0, zleI g0 gx, ne_eq, Int32.not_lt, Int32.not_le, Int.not_lt, Int.not_le] at q ⊢); exact q
  · (try simp only [z0I, zeqI gx g0, zltI gx g0, zltI g0 gx, zleI gx g0, zleI g0 gx, ne_eq, Int32.not_lt, Int32.not_le, Int.not_lt, Int.not_le, Classical.not_not] at q ⊢); exact q
theorem zS_if_lt {off : Int} {x : Int} (hd : zdec M pc = some (.ifCond .lt off)) (h0 : 0 ≤ (pc : Int) + off) (k : if x < 0 then zSnd D cA B b L xs M ((pc : Int) + off).toNat ls st h r h' else zSnd D cA B b L xs M (pc + 3) ls st h r h') : zSnd D cA B b L xs M pc ls (.inl x :: st) h r h' := by
  refine zSnd.br k ?_ zsub1
  intro p l e R s m args below meth c H locs cells slots Q φ lsR hC hst k1 k2
  obtain ⟨hx, hb, -⟩ := hC
  have gx : -2147483648 ≤ x ∧ x < 2147483648 := (zst1 hst).1
  have g0 : -2147483648 ≤ (0 : Int) ∧ (0 : Int) < 2147483648 := by omega
  refine lv_if_lt hx hb (zdec_eq hd rfl (by decide)) (Int.toNat_of_nonneg h0).symm (fun q => k1 ?_) (fun q => k2 ?_)
  · (try simp only [z0I, zeqI gx g0, zltI gx g0, zltI g0 gx, zleI gx g0, zleI g0 gx, ne_eq, Int32.not_lt, Int32.not_le, Int.not_lt, Int.not_le] at q ⊢); exact q
  · (try simp only [z0I, zeqI gx g0, zltI gx g0, zltI g0 gx, zleI gx g0, zleI g0 gx, ne_eq, Int32.not_lt, Int32.not_le, Int.not_lt, Int.not_le, Classical.not_not] at q ⊢); exact q
theorem zS_if_ge {off : Int} {x : Int} (hd : zdec M pc = some (.ifCond .ge off)) (h0 : 0 ≤ (pc : Int) + off) (k : if 0 ≤ x then zSnd D cA B b L xs M ((pc : Int) + off).toNat ls st h r h' else zSnd D cA B b L xs M (pc + 3) ls st h r h') : zSnd D cA B b L xs M pc ls (.inl x :: st) h r h' := by
  refine zSnd.br k ?_ zsub1
  intro p l e R s m args below meth c H locs cells slots Q φ lsR hC hst k1 k2
  obtain ⟨hx, hb, -⟩ := hC
  have gx : -2147483648 ≤ x ∧ x < 2147483648 := (zst1 hst).1
  have g0 : -2147483648 ≤ (0 : Int) ∧ (0 : Int) < 2147483648 := by omega
  refine lv_if_ge hx hb (zdec_eq hd rfl (by decide)) (Int.toNat_of_nonneg h0).symm (fun q => k1 ?_) (fun q => k2 ?_)
  · (try simp only [z0I, zeqI gx g0, zltI gx g0, zltI g0 gx, zleI gx g0, zleI g0 gx, ne_eq, Int32.not_lt, Int32.not_le, Int.not_lt, Int.not_le] at q ⊢); exact q
  · (try simp only [z0I, zeqI gx g0, zltI gx g0, zltI g0 gx, zleI gx g0, zleI g0 gx, ne_eq, Int32.not_lt, Int32.not_le, Int.not_lt, Int.not_le, Classical.not_not] at q ⊢); exact q
theorem zS_if_gt {off : Int} {x : Int} (hd : zdec M pc = some (.ifCond .gt off)) (h0 : 0 ≤ (pc : Int) + off) (k : if 0 < x then zSnd D cA B b L xs M ((pc : Int) + off).toNat ls st h r h' else zSnd D cA B b L xs M (pc + 3) ls st h r h') : zSnd D cA B b L xs M pc ls (.inl x :: st) h r h' := by
  refine zSnd.br k ?_ zsub1
  intro p l e R s m args below meth c H locs cells slots Q φ lsR hC hst k1 k2
  obtain ⟨hx, hb, -⟩ := hC
  have gx : -2147483648 ≤ x ∧ x < 2147483648 := (zst1 hst).1
  have g0 : -2147483648 ≤ (0 : Int) ∧ (0 : Int) < 2147483648 := by omega
  refine lv_if_gt hx hb (zdec_eq hd rfl (by decide)) (Int.toNat_of_nonneg h0).symm (fun q => k1 ?_) (fun q => k2 ?_)
  · (try simp only [z0I, zeqI gx g0, zltI gx g0, zltI g0 gx, zleI gx g0, zleI g0 gx, ne_eq, Int32.not_lt, Int32.not_le, Int.not_lt, Int.not_le] at q ⊢); exact q
  · (try simp only [z0I, zeqI gx g0, zltI gx g0, zltI g0 gx, zleI gx g0, zleI g0 gx, ne_eq, Int32.not_lt, Int32.not_le, Int.not_lt, Int.not_le, Classical.not_not] at q ⊢); exact q
theorem zS_if_le {off : Int} {x : Int} (hd : zdec M pc = some (.ifCond .le off)) (h0 : 0 ≤ (pc : Int) + off) (k : if x ≤ 0 then zSnd D cA B b L xs M ((pc : Int) + off).toNat ls st h r h' else zSnd D cA B b L xs M (pc + 3) ls st h r h') : zSnd D cA B b L xs M pc ls (.inl x :: st) h r h' := by
  refine zSnd.br k ?_ zsub1
  intro p l e R s m args below meth c H locs cells slots Q φ lsR hC hst k1 k2
  obtain ⟨hx, hb, -⟩ := hC
  have gx : -2147483648 ≤ x ∧ x < 2147483648 := (zst1 hst).1
  have g0 : -2147483648 ≤ (0 : Int) ∧ (0 : Int) < 2147483648 := by omega
  refine lv_if_le hx hb (zdec_eq hd rfl (by decide)) (Int.toNat_of_nonneg h0).symm (fun q => k1 ?_) (fun q => k2 ?_)
  · (try simp only [z0I, zeqI gx g0, zltI gx g0, zltI g0 gx, zleI gx g0, zleI g0 gx, ne_eq, Int32.not_lt, Int32.not_le, Int.not_lt, Int.not_le] at q ⊢); exact q
  · (try simp only [z0I, zeqI gx g0, zltI gx g0, zltI g0 gx, zleI gx g0, zleI g0 gx, ne_eq, Int32.not_lt, Int32.not_le, Int.not_lt, Int.not_le, Classical.not_not] at q ⊢); exact q
theorem zS_icmp_eq {off : Int} {x y : Int} (hd : zdec M pc = some (.if_icmp .eq off)) (h0 : 0 ≤ (pc : Int) + off) (k : if x = y then zSnd D cA B b L xs M ((pc : Int) + off).toNat ls st h r h' else zSnd D cA B b L xs M (pc + 3) ls st h r h') : zSnd D cA B b L xs M pc ls (.inl y :: .inl x :: st) h r h' := by
  refine zSnd.br k ?_ zsub2
  intro p l e R s m args below meth c H locs cells slots Q φ lsR hC hst k1 k2
  obtain ⟨hx, hb, -⟩ := hC
  obtain ⟨gx, gy, gs⟩ := zst2 hst
  refine lv_icmp_eq hx hb (zdec_eq hd rfl (by decide)) (Int.toNat_of_nonneg h0).symm (fun q => k1 ?_) (fun q => k2 ?_)
  · (try simp only [zeqI gx gy, zltI gx gy, zltI gy gx, zleI gx gy, zleI gy gx, ne_eq, Int32.not_lt, Int32.not_le, Int.not_lt, Int.not_le] at q ⊢); exact q
  · (try simp only [zeqI gx gy, zltI gx gy, zltI gy gx, zleI gx gy, zleI gy gx, ne_eq, Int32.not_lt, Int32.not_le, Int.not_lt, Int.not_le, Classical.not_not] at q ⊢); exact q
theorem zS_icmp_ne {off : Int} {x y : Int} (hd : zdec M pc = some (.if_icmp .ne off)) (h0 : 0 ≤ (pc : Int) + off) (k : if x ≠ y then zSnd D cA B b L xs M ((pc : Int) + off).toNat ls st h r h' else zSnd D cA B b L xs M (pc + 3) ls st h r h') : zSnd D cA B b L xs M pc ls (.inl y :: .inl x :: st) h r h' := by
  refine zSnd.br k ?_ zsub2
  intro p l e R s m args below meth c H locs cells slots Q φ lsR hC hst k1 k2
  obtain ⟨hx, hb, -⟩ := hC
  obtain ⟨gx, gy, gs⟩ := zst2 hst
  refine lv_icmp_ne hx hb (zdec_eq hd rfl (by decide)) (Int.toNat_of_nonneg h0).symm (fun q => k1 ?_) (fun q => k2 ?_)
  · (try simp only [zeqI gx gy, zltI gx gy, zltI gy gx, zleI gx gy, zleI gy gx, ne_eq, Int32.not_lt, Int32.not_le, Int.not_lt, Int.not_le] at q ⊢); exact q
  · (try simp only [zeqI gx gy, zltI gx gy, zltI gy gx, zleI gx gy, zleI gy gx, ne_eq, Int32.not_lt, Int32.not_le, Int.not_lt, Int.not_le, Classical.not_not] at q ⊢); exact q
theorem zS_icmp_lt {off : Int} {x y : Int} (hd : zdec M pc = some (.if_icmp .lt off)) (h0 : 0 ≤ (pc : Int) + off) (k : if x < y then zSnd D cA B b L xs M ((pc : Int) + off).toNat ls st h r h' else zSnd D cA B b L xs M (pc + 3) ls st h r h') : zSnd D cA B b L xs M pc ls (.inl y :: .inl x :: st) h r h' := by
  refine zSnd.br k ?_ zsub2
  intro p l e R s m args below meth c H locs cells slots Q φ lsR hC hst k1 k2
  obtain ⟨hx, hb, -⟩ := hC
  obtain ⟨gx, gy, gs⟩ := zst2 hst
  refine lv_icmp_lt hx hb (zdec_eq hd rfl (by decide)) (Int.toNat_of_nonneg h0).symm (fun q => k1 ?_) (fun q => k2 ?_)
  · (try simp only [zeqI gx gy, zltI gx gy, zltI gy gx, zleI gx gy, zleI gy gx, ne_eq, Int32.not_lt, Int32.not_le, Int.not_lt, Int.not_le] at q ⊢); exact q
  · (try simp only [zeqI gx gy, zltI gx gy, zltI gy gx, zleI gx gy, zleI gy gx, ne_eq, Int32.not_lt, Int32.not_le, Int.not_lt, Int.not_le, Classical.not_not] at q ⊢); exact q
theorem zS_icmp_ge {off : Int} {x y : Int} (hd : zdec M pc = some (.if_icmp .ge off)) (h0 : 0 ≤ (pc : Int) + off) (k : if y ≤ x then zSnd D cA B b L xs M ((pc : Int) + off).toNat ls st h r h' else zSnd D cA B b L xs M (pc + 3) ls st h r h') : zSnd D cA B b L xs M pc ls (.inl y :: .inl x :: st) h r h' := by
  refine zSnd.br k ?_ zsub2
  intro p l e R s m args below meth c H locs cells slots Q φ lsR hC hst k1 k2
  obtain ⟨hx, hb, -⟩ := hC
  obtain ⟨gx, gy, gs⟩ := zst2 hst
  refine lv_icmp_ge hx hb (zdec_eq hd rfl (by decide)) (Int.toNat_of_nonneg h0).symm (fun q => k1 ?_) (fun q => k2 ?_)
  · (try simp only [zeqI gx gy, zltI gx gy, zltI gy gx, zleI gx gy, zleI gy gx, ne_eq, Int32.not_lt, Int32.not_le, Int.not_lt, Int.not_le] at q ⊢); exact q
  · (try simp only [zeqI gx gy, zltI gx gy, zltI gy gx, zleI gx gy, zleI gy gx, ne_eq, Int32.not_lt, Int32.not_le, Int.not_lt, Int.not_le, Classical.not_not] at q ⊢); exact q
theorem zS_icmp_gt {off : Int} {x y : Int} (hd : zdec M pc = some (.if_icmp .gt off)) (h0 : 0 ≤ (pc : Int) + off) (k : if y < x then zSnd D cA B b L xs M ((pc : Int) + off).toNat ls st h r h' else zSnd D cA B b L xs M (pc + 3) ls st h r h') : zSnd D cA B b L xs M pc ls (.inl y :: .inl x :: st) h r h' := by
  refine zSnd.br k ?_ zsub2
  intro p l e R s m args below meth c H locs cells slots Q φ lsR hC hst k1 k2
  obtain ⟨hx, hb, -⟩ := hC
  obtain ⟨gx, gy, gs⟩ := zst2 hst
  refine lv_icmp_gt hx hb (zdec_eq hd rfl (by decide)) (Int.toNat_of_nonneg h0).symm (fun q => k1 ?_) (fun q => k2 ?_)
  · (try simp only [zeqI gx gy, zltI gx gy, zltI gy gx, zleI gx gy, zleI gy gx, ne_eq, Int32.not_lt, Int32.not_le, Int.not_lt, Int.not_le] at q ⊢); exact q
  · (try simp only [zeqI gx gy, zltI gx gy, zltI gy gx, zleI gx gy, zleI gy gx, ne_eq, Int32.not_lt, Int32.not_le, Int.not_lt, Int.not_le, Classical.not_not] at q ⊢); exact q
theorem zS_icmp_le {off : Int} {x y : Int} (hd : zdec M pc = some (.if_icmp .le off)) (h0 : 0 ≤ (pc : Int) + off) (k : if x ≤ y then zSnd D cA B b L xs M ((pc : Int) + off).toNat ls st h r h' else zSnd D cA B b L xs M (pc + 3) ls st h r h') : zSnd D cA B b L xs M pc ls (.inl y :: .inl x :: st) h r h' := by
  refine zSnd.br k ?_ zsub2
  intro p l e R s m args below meth c H locs cells slots Q φ lsR hC hst k1 k2
  obtain ⟨hx, hb, -⟩ := hC
  obtain ⟨gx, gy, gs⟩ := zst2 hst
  refine lv_icmp_le hx hb (zdec_eq hd rfl (by decide)) (Int.toNat_of_nonneg h0).symm (fun q => k1 ?_) (fun q => k2 ?_)
  · (try simp only [zeqI gx gy, zltI gx gy, zltI gy gx, zleI gx gy, zleI gy gx, ne_eq, Int32.not_lt, Int32.not_le, Int.not_lt, Int.not_le] at q ⊢); exact q
  · (try simp only [zeqI gx gy, zltI gx gy, zltI gy gx, zleI gx gy, zleI gy gx, ne_eq, Int32.not_lt, Int32.not_le, Int.not_lt, Int.not_le, Classical.not_not] at q ⊢); exact q
theorem zS_ifnull {off : Int} {x : Nat} (hd : zdec M pc = some (.ifnull off)) (h0 : 0 ≤ (pc : Int) + off) (k : if x = 0 then zSnd D cA B b L xs M ((pc : Int) + off).toNat ls st h r h' else zSnd D cA B b L xs M (pc + 3) ls st h r h') : zSnd D cA B b L xs M pc ls (.inr x :: st) h r h' := by
  refine zSnd.br k ?_ zsub1
  intro p l e R s m args below meth c H locs cells slots Q φ lsR hC hst k1 k2
  obtain ⟨hx, hb, -⟩ := hC
  by_cases hx0 : x = 0
  · subst hx0
    exact lv_ifnullN hx hb (zdec_eq hd rfl (by decide)) (Int.toNat_of_nonneg h0).symm (k1 rfl)
  · rw [List.map_cons, ztr_ref φ hx0]
    exact lv_ifnull hx hb (zdec_eq hd rfl (by decide)) (k2 hx0)
theorem zS_ifnonnull {off : Int} {x : Nat} (hd : zdec M pc = some (.ifnonnull off)) (h0 : 0 ≤ (pc : Int) + off) (k : if x ≠ 0 then zSnd D cA B b L xs M ((pc : Int) + off).toNat ls st h r h' else zSnd D cA B b L xs M (pc + 3) ls st h r h') : zSnd D cA B b L xs M pc ls (.inr x :: st) h r h' := by
  refine zSnd.br k ?_ zsub1
  intro p l e R s m args below meth c H locs cells slots Q φ lsR hC hst k1 k2
  obtain ⟨hx, hb, -⟩ := hC
  by_cases hx0 : x = 0
  · subst hx0
    exact lv_ifnonnullN hx hb (zdec_eq hd rfl (by decide)) (k2 (fun q => q rfl))
  · rw [List.map_cons, ztr_ref φ hx0]
    exact lv_ifnonnull hx hb (zdec_eq hd rfl (by decide)) (Int.toNat_of_nonneg h0).symm (k1 hx0)
theorem zS_tableOut {d lo hi : Int} {offs : Array Int} {x : Int} (hd : zdec M pc = some (.tableswitch d lo hi offs)) (ho : x < lo ∨ hi < x) (h0 : 0 ≤ (pc : Int) + d) (k : zSnd D cA B b L xs M ((pc : Int) + d).toNat ls st h r h') : zSnd D cA B b L xs M pc ls (.inl x :: st) h r h' := by
  refine zSnd.of k ?_
  intro p l e R s m args below meth c H locs cells slots Q φ lsR hC hR hS hl hst kk
  obtain ⟨hx, hb, -⟩ := hC
  have gx : -2147483648 ≤ x ∧ x < 2147483648 := (zst1 hst).1
  obtain ⟨n, hn⟩ := zdec_any hd
  exact lv_tableOut hx hb hn (by rw [ztoI gx]; exact ho) (Int.toNat_of_nonneg h0).symm (kk lsR hl (zst1 hst).2)
theorem zS_tableIn {d lo hi : Int} {offs : Array Int} {x off : Int} (hd : zdec M pc = some (.tableswitch d lo hi offs)) (ho : ¬ (x < lo ∨ hi < x)) (hof : offs[(x - lo).toNat]? = some off) (h0 : 0 ≤ (pc : Int) + off) (k : zSnd D cA B b L xs M ((pc : Int) + off).toNat ls st h r h') : zSnd D cA B b L xs M pc ls (.inl x :: st) h r h' := by
  refine zSnd.of k ?_
  intro p l e R s m args below meth c H locs cells slots Q φ lsR hC hR hS hl hst kk
  obtain ⟨hx, hb, -⟩ := hC
  have gx : -2147483648 ≤ x ∧ x < 2147483648 := (zst1 hst).1
  obtain ⟨n, hn⟩ := zdec_any hd
  exact lv_tableIn hx hb hn (by rw [ztoI gx]; exact fun q => ho (Or.inl q)) (by rw [ztoI gx]; exact fun q => ho (Or.inr q)) (by rw [ztoI gx]; exact hof) (Int.toNat_of_nonneg h0).symm (kk lsR hl (zst1 hst).2)
end zOps
