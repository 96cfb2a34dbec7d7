/-! ROWS OF THE SMALL MACHINE: what a run from here comes to, an instruction each -/
section zRows
variable {M pc pc' : Nat} {ls : zL} {st : List zV} {h : zH} {Q : Option zV → zH → Prop}
theorem zrun_up : ∀ (n M pc : Nat) (ls : zL) (st : List zV) (h : zH) (w : Option zV × zH), zrun n M pc ls st h = some w → zrun (n + 1) M pc ls st h = some w
  | 0, M, pc, ls, st, h, w, hr => by cases hr
  | n + 1, M, pc, ls, st, h, w, hr => by
    unfold zrun at hr ⊢
    cases hd : zdec M pc with
    | none => rw [hd] at hr; cases hr
    | some i =>
      rw [hd] at hr
      dsimp only at hr ⊢
      cases hs : zstep M i pc ls st h with
      | none => rw [hs] at hr; cases hr
      | some o =>
        rw [hs] at hr
        cases o with
        | inl q => exact zrun_up n M q.1 q.2.1 q.2.2.1 q.2.2.2 w hr
        | inr o =>
          cases o with
          | inl r => exact hr
          | inr q =>
            dsimp only at hr ⊢
            cases hc : zrun n q.1 0 (zent q.1 q.2.1) [] h with
            | none => rw [hc] at hr; cases hr
            | some v =>
              rw [hc] at hr
              dsimp only at hr
              rw [zrun_up n q.1 0 (zent q.1 q.2.1) [] h v hc]
              exact zrun_up n M (pc + 3) ls (v.1.toList ++ q.2.2) v.2 w hr
theorem zrun_add {n M pc : Nat} {ls : zL} {st : List zV} {h : zH} {w : Option zV × zH} (hr : zrun n M pc ls st h = some w) : ∀ k, zrun (n + k) M pc ls st h = some w
  | 0 => hr
  | k + 1 => zrun_up (n + k) M pc ls st h w (zrun_add hr k)
theorem zrun_le {n m M pc : Nat} {ls : zL} {st : List zV} {h : zH} {w : Option zV × zH} (hr : zrun n M pc ls st h = some w) (hm : n ≤ m) : zrun m M pc ls st h = some w := by
  have := zrun_add hr (m - n)
  rwa [show n + (m - n) = m by omega] at this
theorem zE_det {r1 r2 : Option zV} {h1 h2 : zH} {n m : Nat} (a : zrun n M pc ls st h = some (r1, h1)) (b : zrun m M pc ls st h = some (r2, h2)) : r1 = r2 ∧ h1 = h2 := by
  have a' := zrun_le a (Nat.le_max_left n m)
  have b' := zrun_le b (Nat.le_max_right n m)
  rw [a'] at b'
  cases b'
  exact ⟨rfl, rfl⟩
theorem zE.mono {Q' : Option zV → zH → Prop} (a : zE M pc ls st h Q) (hq : ∀ r h', Q r h' → Q' r h') : zE M pc ls st h Q' := by
  obtain ⟨n, r, h', h1, h2⟩ := a
  exact ⟨n, r, h', h1, hq r h' h2⟩
/-- two facts of one run -/
theorem zE.and {Q' : Option zV → zH → Prop} (a : zE M pc ls st h Q) (c : zE M pc ls st h Q') : zE M pc ls st h (fun r h' => Q r h' ∧ Q' r h') := by
  obtain ⟨n, r, h', h1, h2⟩ := a
  obtain ⟨n2, r2, h2', h3, h4⟩ := c
  obtain ⟨rfl, rfl⟩ := zE_det h1 h3
  exact ⟨n, r, h', h1, h2, h4⟩
theorem zE_mv {i : Instr} {pc2 : Nat} {ls2 : zL} {st2 : List zV} {h2 : zH} (hd : zdec M pc = some i) (hs : zstep M i pc ls st h = some (.inl (pc2, ls2, st2, h2))) : zE M pc ls st h Q ↔ zE M pc2 ls2 st2 h2 Q := by
  constructor
  · rintro ⟨n, r, h', h1, h3⟩
    cases n with
    | zero => cases h1
    | succ n =>
      unfold zrun at h1
      rw [hd] at h1
      dsimp only at h1
      rw [hs] at h1
      exact ⟨n, r, h', h1, h3⟩
  · rintro ⟨n, r, h', h1, h3⟩
    refine ⟨n + 1, r, h', ?_, h3⟩
    unfold zrun
    rw [hd]
    dsimp only
    rw [hs]
    exact h1
theorem zE_no {i : Instr} (hd : zdec M pc = some i) (hs : zstep M i pc ls st h = none) : ¬ zE M pc ls st h Q := by
  rintro ⟨n, r, h', h1, h3⟩
  cases n with
  | zero => cases h1
  | succ n =>
    unfold zrun at h1
    rw [hd] at h1
    dsimp only at h1
    rw [hs] at h1
    cases h1
theorem zE_rt {i : Instr} {r : Option zV} (hd : zdec M pc = some i) (hs : zstep M i pc ls st h = some (.inr (.inl r))) : zE M pc ls st h Q ↔ Q r h := by
  constructor
  · rintro ⟨n, r', h', h1, h3⟩
    cases n with
    | zero => cases h1
    | succ n =>
      unfold zrun at h1
      rw [hd] at h1
      dsimp only at h1
      rw [hs] at h1
      cases h1
      exact h3
  · intro hq
    refine ⟨1, r, h, ?_, hq⟩
    unfold zrun
    rw [hd]
    dsimp only
    rw [hs]
theorem zE_cl {i : Instr} {M' : Nat} {as rest : List zV} (hd : zdec M pc = some i) (hs : zstep M i pc ls st h = some (.inr (.inr (M', as, rest)))) : zE M pc ls st h Q ↔ zE M' 0 (zent M' as) [] h (fun r h' => zE M (pc + 3) ls (r.toList ++ rest) h' Q) := by
  constructor
  · rintro ⟨n, r, h', h1, h3⟩
    cases n with
    | zero => cases h1
    | succ n =>
      unfold zrun at h1
      rw [hd] at h1
      dsimp only at h1
      rw [hs] at h1
      dsimp only at h1
      cases hc : zrun n M' 0 (zent M' as) [] h with
      | none => rw [hc] at h1; cases h1
      | some v =>
        rw [hc] at h1
        exact ⟨n, v.1, v.2, hc, n, r, h', h1, h3⟩
  · rintro ⟨n, r1, h1, a1, m, r, h', a2, a3⟩
    refine ⟨max n m + 1, r, h', ?_, a3⟩
    unfold zrun
    rw [hd]
    dsimp only
    rw [hs]
    dsimp only
    rw [zrun_le a1 (Nat.le_max_left n m)]
    exact zrun_le a2 (Nat.le_max_right n m)
/-- a test that a step makes -/
theorem zE_if {i : Instr} {c : Prop} [Decidable c] {pc2 : Nat} {ls2 : zL} {st2 : List zV} {h2 : zH} (hd : zdec M pc = some i) (hs : zstep M i pc ls st h = zif c (zgo pc2 ls2 st2 h2)) : zE M pc ls st h Q ↔ (c ∧ zE M pc2 ls2 st2 h2 Q) := by
  by_cases hc : c
  · rw [zE_mv (pc2 := pc2) (ls2 := ls2) (st2 := st2) (h2 := h2) hd (by rw [hs]; unfold zif; rw [if_pos hc]; rfl)]
    exact ⟨fun q => ⟨hc, q⟩, fun q => q.2⟩
  · constructor
    · intro q
      exact absurd q (zE_no hd (by rw [hs]; unfold zif; rw [if_neg hc]))
    · intro q
      exact absurd q.1 hc
theorem zE_br {i : Instr} {c : Prop} [Decidable c] {p1 p2 : Nat} {st2 : List zV} (hd : zdec M pc = some i) (hs : zstep M i pc ls st h = if c then zgo p1 ls st2 h else zgo p2 ls st2 h) : zE M pc ls st h Q ↔ if c then zE M p1 ls st2 h Q else zE M p2 ls st2 h Q := by
  by_cases hc : c
  · rw [if_pos hc]
    exact zE_mv hd (by rw [hs, if_pos hc]; rfl)
  · rw [if_neg hc]
    exact zE_mv hd (by rw [hs, if_neg hc]; rfl)
theorem zX_iconst {n : Int} (hd : zdec M pc = some (.iconst n)) (hn : -1 ≤ n ∧ n ≤ 5) (hp : pc + 1 = pc') : zE M pc ls st h Q ↔ zE M pc' ls (.inl n :: st) h Q := by subst hp; exact zE_mv hd (if_pos hn)
theorem zX_bipush {n : Int} (hd : zdec M pc = some (.bipush n)) (hn : -128 ≤ n ∧ n ≤ 127) (hp : pc + 2 = pc') : zE M pc ls st h Q ↔ zE M pc' ls (.inl n :: st) h Q := by subst hp; exact zE_mv hd (if_pos hn)
theorem zX_sipush {n : Int} (hd : zdec M pc = some (.sipush n)) (hn : -32768 ≤ n ∧ n ≤ 32767) (hp : pc + 3 = pc') : zE M pc ls st h Q ↔ zE M pc' ls (.inl n :: st) h Q := by subst hp; exact zE_mv hd (if_pos hn)
theorem zX_ldc {ix : Nat} {v : Int} (hd : zdec M pc = some (.ldc ix)) (hv : zlkk (zown M) ix = some v) (hn : 0 ≤ v ∧ v ≤ 100000) (hp : pc + 2 = pc') : zE M pc ls st h Q ↔ zE M pc' ls (.inl v :: st) h Q := by
  subst hp
  exact zE_mv hd (by show zopt (zlkk (zown M) ix) _ = _; rw [hv]; exact if_pos hn)
theorem zX_null (hd : zdec M pc = some .aconst_null) (hp : pc + 1 = pc') : zE M pc ls st h Q ↔ zE M pc' ls (.inr 0 :: st) h Q := by subst hp; exact zE_mv hd rfl
theorem zX_iload {k : Nat} {x : Int} (hd : zdec M pc = some (.iload k)) (hv : ls[k]? = some (some (.inl x))) (hp : pc + 2 = pc') : zE M pc ls st h Q ↔ zE M pc' ls (.inl x :: st) h Q := by
  subst hp; exact zE_mv hd (by show zldI ls k _ = _; unfold zldI; rw [hv]; rfl)
theorem zX_iload_n {k : Fin 4} {x : Int} (hd : zdec M pc = some (.iload_n k)) (hv : ls[(k : Nat)]? = some (some (.inl x))) (hp : pc + 1 = pc') : zE M pc ls st h Q ↔ zE M pc' ls (.inl x :: st) h Q := by
  subst hp; exact zE_mv hd (by show zldI ls k _ = _; unfold zldI; rw [hv]; rfl)
theorem zX_aload {k : Nat} {x : Nat} (hd : zdec M pc = some (.aload k)) (hv : ls[k]? = some (some (.inr x))) (hp : pc + 2 = pc') : zE M pc ls st h Q ↔ zE M pc' ls (.inr x :: st) h Q := by
  subst hp; exact zE_mv hd (by show zldR ls k _ = _; unfold zldR; rw [hv]; rfl)
theorem zX_aload_n {k : Fin 4} {x : Nat} (hd : zdec M pc = some (.aload_n k)) (hv : ls[(k : Nat)]? = some (some (.inr x))) (hp : pc + 1 = pc') : zE M pc ls st h Q ↔ zE M pc' ls (.inr x :: st) h Q := by
  subst hp; exact zE_mv hd (by show zldR ls k _ = _; unfold zldR; rw [hv]; rfl)
theorem zX_istore {k : Nat} {x : Int} {ls' : zL} (hd : zdec M pc = some (.istore k)) (hk : k < ls.length) (hs : ls.set k (some (.inl x)) = ls') (hp : pc + 2 = pc') : zE M pc ls (.inl x :: st) h Q ↔ zE M pc' ls' st h Q := by subst hp hs; exact zE_mv hd (if_pos hk)
theorem zX_istore_n {k : Fin 4} {x : Int} {ls' : zL} (hd : zdec M pc = some (.istore_n k)) (hk : (k : Nat) < ls.length) (hs : ls.set (k : Nat) (some (.inl x)) = ls') (hp : pc + 1 = pc') : zE M pc ls (.inl x :: st) h Q ↔ zE M pc' ls' st h Q := by subst hp hs; exact zE_mv hd (if_pos hk)
theorem zX_astore {k : Nat} {x : Nat} {ls' : zL} (hd : zdec M pc = some (.astore k)) (hk : k < ls.length) (hs : ls.set k (some (.inr x)) = ls') (hp : pc + 2 = pc') : zE M pc ls (.inr x :: st) h Q ↔ zE M pc' ls' st h Q := by subst hp hs; exact zE_mv hd (if_pos hk)
theorem zX_astore_n {k : Fin 4} {x : Nat} {ls' : zL} (hd : zdec M pc = some (.astore_n k)) (hk : (k : Nat) < ls.length) (hs : ls.set (k : Nat) (some (.inr x)) = ls') (hp : pc + 1 = pc') : zE M pc ls (.inr x :: st) h Q ↔ zE M pc' ls' st h Q := by subst hp hs; exact zE_mv hd (if_pos hk)
theorem zX_iinc {k : Nat} {n x : Int} {ls' : zL} (hd : zdec M pc = some (.iinc k n)) (hv : ls[k]? = some (some (.inl x))) (hs : ls.set k (some (.inl (zw (x + n)))) = ls') (hp : pc + 3 = pc') : zE M pc ls st h Q ↔ zE M pc' ls' st h Q := by
  subst hp hs; exact zE_mv hd (by show zldI ls k _ = _; unfold zldI; rw [hv]; rfl)
theorem zX_iadd {x y : Int} (hd : zdec M pc = some .iadd) (hp : pc + 1 = pc') : zE M pc ls (.inl y :: .inl x :: st) h Q ↔ zE M pc' ls (.inl (zw (x + y)) :: st) h Q := by subst hp; exact zE_mv hd rfl
theorem zX_isub {x y : Int} (hd : zdec M pc = some .isub) (hp : pc + 1 = pc') : zE M pc ls (.inl y :: .inl x :: st) h Q ↔ zE M pc' ls (.inl (zw (x - y)) :: st) h Q := by subst hp; exact zE_mv hd rfl
theorem zX_imul {x y : Int} (hd : zdec M pc = some .imul) (hp : pc + 1 = pc') : zE M pc ls (.inl y :: .inl x :: st) h Q ↔ zE M pc' ls (.inl (zw (x * y)) :: st) h Q := by subst hp; exact zE_mv hd rfl
theorem zX_iand {x y : Int} (hd : zdec M pc = some .iand) (hp : pc + 1 = pc') : zE M pc ls (.inl y :: .inl x :: st) h Q ↔ zE M pc' ls (.inl (zand x y) :: st) h Q := by subst hp; exact zE_mv hd rfl
theorem zX_ixor {x y : Int} (hd : zdec M pc = some .ixor) (hp : pc + 1 = pc') : zE M pc ls (.inl y :: .inl x :: st) h Q ↔ zE M pc' ls (.inl (zxor x y) :: st) h Q := by subst hp; exact zE_mv hd rfl
theorem zX_ishr {x y : Int} (hd : zdec M pc = some .ishr) (hp : pc + 1 = pc') : zE M pc ls (.inl y :: .inl x :: st) h Q ↔ zE M pc' ls (.inl (zshr x y) :: st) h Q := by subst hp; exact zE_mv hd rfl
theorem zX_idiv {x y : Int} (hd : zdec M pc = some .idiv) (hp : pc + 1 = pc') : zE M pc ls (.inl y :: .inl x :: st) h Q ↔ (y ≠ 0 ∧ zE M pc' ls (.inl (zw (x.tdiv y)) :: st) h Q) := by subst hp; exact zE_if hd rfl
theorem zX_irem {x y : Int} (hd : zdec M pc = some .irem) (hp : pc + 1 = pc') : zE M pc ls (.inl y :: .inl x :: st) h Q ↔ (y ≠ 0 ∧ zE M pc' ls (.inl (zw (x.tmod y)) :: st) h Q) := by subst hp; exact zE_if hd rfl
theorem zX_dup {v : zV} (hd : zdec M pc = some .dup) (hp : pc + 1 = pc') : zE M pc ls (v :: st) h Q ↔ zE M pc' ls (v :: v :: st) h Q := by subst hp; exact zE_mv hd rfl
theorem zX_dup2 {v w : zV} (hd : zdec M pc = some .dup2) (hp : pc + 1 = pc') : zE M pc ls (v :: w :: st) h Q ↔ zE M pc' ls (v :: w :: v :: w :: st) h Q := by subst hp; exact zE_mv hd rfl
theorem zX_pop {v : zV} (hd : zdec M pc = some .pop) (hp : pc + 1 = pc') : zE M pc ls (v :: st) h Q ↔ zE M pc' ls st h Q := by subst hp; exact zE_mv hd rfl
theorem zjmp_eq {off : Int} {t : Nat} {k : Nat → Option zSR} (ht : (pc : Int) + off = (t : Int)) : zjmp pc off k = k t := by
  unfold zjmp
  rw [ht, if_pos (by omega), Int.toNat_natCast]
theorem zX_goto {off : Int} {t : Nat} (hd : zdec M pc = some (.goto off)) (ht : (pc : Int) + off = (t : Int)) : zE M pc ls st h Q ↔ zE M t ls st h Q := zE_mv hd (zjmp_eq (k := fun t => zgo t ls st h) ht)
theorem zX_if_eq {x off : Int} {t : Nat} (hd : zdec M pc = some (.ifCond .eq off)) (ht : (pc : Int) + off = (t : Int)) (hp : pc + 3 = pc') : zE M pc ls (.inl x :: st) h Q ↔ if x = 0 then zE M t ls st h Q else zE M pc' ls st h Q := by subst hp; exact zE_br hd (zjmp_eq (k := fun t => if x = 0 then zgo t ls st h else zgo (pc + 3) ls st h) ht)
theorem zX_if_ne {x off : Int} {t : Nat} (hd : zdec M pc = some (.ifCond .ne off)) (ht : (pc : Int) + off = (t : Int)) (hp : pc + 3 = pc') : zE M pc ls (.inl x :: st) h Q ↔ if x ≠ 0 then zE M t ls st h Q else zE M pc' ls st h Q := by subst hp; exact zE_br hd (zjmp_eq (k := fun t => if x ≠ 0 then zgo t ls st h else zgo (pc + 3) ls st h) ht)
theorem zX_if_lt {x off : Int} {t : Nat} (hd : zdec M pc = some (.ifCond .lt off)) (ht : (pc : Int) + off = (t : Int)) (hp : pc + 3 = pc') : zE M pc ls (.inl x :: st) h Q ↔ if x < 0 then zE M t ls st h Q else zE M pc' ls st h Q := by subst hp; exact zE_br hd (zjmp_eq (k := fun t => if x < 0 then zgo t ls st h else zgo (pc + 3) ls st h) ht)
theorem zX_if_ge {x off : Int} {t : Nat} (hd : zdec M pc = some (.ifCond .ge off)) (ht : (pc : Int) + off = (t : Int)) (hp : pc + 3 = pc') : zE M pc ls (.inl x :: st) h Q ↔ if 0 ≤ x then zE M t ls st h Q else zE M pc' ls st h Q := by subst hp; exact zE_br hd (zjmp_eq (k := fun t => if 0 ≤ x then zgo t ls st h else zgo (pc + 3) ls st h) ht)
theorem zX_if_gt {x off : Int} {t : Nat} (hd : zdec M pc = some (.ifCond .gt off)) (ht : (pc : Int) + off = (t : Int)) (hp : pc + 3 = pc') : zE M pc ls (.inl x :: st) h Q ↔ if 0 < x then zE M t ls st h Q else zE M pc' ls st h Q := by subst hp; exact zE_br hd (zjmp_eq (k := fun t => if 0 < x then zgo t ls st h else zgo (pc + 3) ls st h) ht)
theorem zX_if_le {x off : Int} {t : Nat} (hd : zdec M pc = some (.ifCond .le off)) (ht : (pc : Int) + off = (t : Int)) (hp : pc + 3 = pc') : zE M pc ls (.inl x :: st) h Q ↔ if x ≤ 0 then zE M t ls st h Q else zE M pc' ls st h Q := by subst hp; exact zE_br hd (zjmp_eq (k := fun t => if x ≤ 0 then zgo t ls st h else zgo (pc + 3) ls st h) ht)
theorem zX_icmp_eq {x y off : Int} {t : Nat} (hd : zdec M pc = some (.if_icmp .eq off)) (ht : (pc : Int) + off = (t : Int)) (hp : pc + 3 = pc') : zE M pc ls (.inl y :: .inl x :: st) h Q ↔ if x = y then zE M t ls st h Q else zE M pc' ls st h Q := by subst hp; exact zE_br hd (zjmp_eq (k := fun t => if x = y then zgo t ls st h else zgo (pc + 3) ls st h) ht)
theorem zX_icmp_ne {x y off : Int} {t : Nat} (hd : zdec M pc = some (.if_icmp .ne off)) (ht : (pc : Int) + off = (t : Int)) (hp : pc + 3 = pc') : zE M pc ls (.inl y :: .inl x :: st) h Q ↔ if x ≠ y then zE M t ls st h Q else zE M pc' ls st h Q := by subst hp; exact zE_br hd (zjmp_eq (k := fun t => if x ≠ y then zgo t ls st h else zgo (pc + 3) ls st h) ht)
theorem zX_icmp_lt {x y off : Int} {t : Nat} (hd : zdec M pc = some (.if_icmp .lt off)) (ht : (pc : Int) + off = (t : Int)) (hp : pc + 3 = pc') : zE M pc ls (.inl y :: .inl x :: st) h Q ↔ if x < y then zE M t ls st h Q else zE M pc' ls st h Q := by subst hp; exact zE_br hd (zjmp_eq (k := fun t => if x < y then zgo t ls st h else zgo (pc + 3) ls st h) ht)
theorem zX_icmp_ge {x y off : Int} {t : Nat} (hd : zdec M pc = some (.if_icmp .ge off)) (ht : (pc : Int) + off = (t : Int)) (hp : pc + 3 = pc') : zE M pc ls (.inl y :: .inl x :: st) h Q ↔ if y ≤ x then zE M t ls st h Q else zE M pc' ls st h Q := by subst hp; exact zE_br hd (zjmp_eq (k := fun t => if y ≤ x then zgo t ls st h else zgo (pc + 3) ls st h) ht)
theorem zX_icmp_gt {x y off : Int} {t : Nat} (hd : zdec M pc = some (.if_icmp .gt off)) (ht : (pc : Int) + off = (t : Int)) (hp : pc + 3 = pc') : zE M pc ls (.inl y :: .inl x :: st) h Q ↔ if y < x then zE M t ls st h Q else zE M pc' ls st h Q := by subst hp; exact zE_br hd (zjmp_eq (k := fun t => if y < x then zgo t ls st h else zgo (pc + 3) ls st h) ht)
theorem zX_icmp_le {x y off : Int} {t : Nat} (hd : zdec M pc = some (.if_icmp .le off)) (ht : (pc : Int) + off = (t : Int)) (hp : pc + 3 = pc') : zE M pc ls (.inl y :: .inl x :: st) h Q ↔ if x ≤ y then zE M t ls st h Q else zE M pc' ls st h Q := by subst hp; exact zE_br hd (zjmp_eq (k := fun t => if x ≤ y then zgo t ls st h else zgo (pc + 3) ls st h) ht)
theorem zX_ifnull {x : Nat} {off : Int} {t : Nat} (hd : zdec M pc = some (.ifnull off)) (ht : (pc : Int) + off = (t : Int)) (hp : pc + 3 = pc') : zE M pc ls (.inr x :: st) h Q ↔ if x = 0 then zE M t ls st h Q else zE M pc' ls st h Q := by subst hp; exact zE_br hd (zjmp_eq (k := fun t => if x = 0 then zgo t ls st h else zgo (pc + 3) ls st h) ht)
theorem zX_ifnonnull {x : Nat} {off : Int} {t : Nat} (hd : zdec M pc = some (.ifnonnull off)) (ht : (pc : Int) + off = (t : Int)) (hp : pc + 3 = pc') : zE M pc ls (.inr x :: st) h Q ↔ if x ≠ 0 then zE M t ls st h Q else zE M pc' ls st h Q := by subst hp; exact zE_br hd (zjmp_eq (k := fun t => if x ≠ 0 then zgo t ls st h else zgo (pc + 3) ls st h) ht)
theorem zX_getI {ix c k f c9 a : Nat} (hd : zdec M pc = some (.getfield ix)) (hq : zlk2 zcf (zown M) ix = some (c, k)) (hz : zir c k = false) (hf : 64 * c + k = f) (hc : 10 + c = c9) (hp : pc + 3 = pc') : zE M pc ls (.inr a :: st) h Q ↔ ((zK h a).1 = c9 ∧ zE M pc' ls (.inl (zI h f a) :: st) h Q) := by
  subst hf hc hp
  refine zE_if hd ?_
  show zopt (zlk2 zcf (zown M) ix) _ = _
  rw [hq]
  show zif _ (zgo (pc + 3) ls ((if zir c k = true then .inr (zR h (64 * c + k) a) else .inl (zI h (64 * c + k) a)) :: st) h) = _
  rw [if_neg (by rw [hz]; decide)]
theorem zX_getR {ix c k f c9 a : Nat} (hd : zdec M pc = some (.getfield ix)) (hq : zlk2 zcf (zown M) ix = some (c, k)) (hz : zir c k = true) (hf : 64 * c + k = f) (hc : 10 + c = c9) (hp : pc + 3 = pc') : zE M pc ls (.inr a :: st) h Q ↔ ((zK h a).1 = c9 ∧ zE M pc' ls (.inr (zR h f a) :: st) h Q) := by
  subst hf hc hp
  refine zE_if hd ?_
  show zopt (zlk2 zcf (zown M) ix) _ = _
  rw [hq]
  show zif _ (zgo (pc + 3) ls ((if zir c k = true then .inr (zR h (64 * c + k) a) else .inl (zI h (64 * c + k) a)) :: st) h) = _
  rw [if_pos hz]
theorem zX_putI {ix c k f c9 a : Nat} {x : Int} (hd : zdec M pc = some (.putfield ix)) (hq : zlk2 zcf (zown M) ix = some (c, k)) (hz : zir c k = false) (hb : zbk c k = false) (ho : zfok M c k = true) (hf : 64 * c + k = f) (hc : 10 + c = c9) (hp : pc + 3 = pc') : zE M pc ls (.inl x :: .inr a :: st) h Q ↔ ((zK h a).1 = c9 ∧ zE M pc' ls st (zsI h f a x) Q) := by
  subst hf hc hp
  have e : zE M pc ls (.inl x :: .inr a :: st) h Q ↔ (((zK h a).1 = 10 + c ∧ (zbk c k = true → x = 0 ∨ x = 1)) ∧ zE M (pc + 3) ls st (zsI h (64 * c + k) a x) Q) := by
    refine zE_if hd ?_
    show zopt (zlk2 zcf (zown M) ix) _ = _
    rw [hq]
    show zif (zfok M c k = true) (if zir c k = true then _ else _) = _
    unfold zif
    rw [if_pos ho, if_neg (by rw [hz]; decide)]
    rfl
  rw [e, hb]
  simp
theorem zX_putZ {ix c k f c9 a : Nat} {x : Int} (hd : zdec M pc = some (.putfield ix)) (hq : zlk2 zcf (zown M) ix = some (c, k)) (hz : zir c k = false) (hb : zbk c k = true) (ho : zfok M c k = true) (hf : 64 * c + k = f) (hc : 10 + c = c9) (hp : pc + 3 = pc') : zE M pc ls (.inl x :: .inr a :: st) h Q ↔ ((zK h a).1 = c9 ∧ (x = 0 ∨ x = 1) ∧ zE M pc' ls st (zsI h f a x) Q) := by
  subst hf hc hp
  have e : zE M pc ls (.inl x :: .inr a :: st) h Q ↔ (((zK h a).1 = 10 + c ∧ (zbk c k = true → x = 0 ∨ x = 1)) ∧ zE M (pc + 3) ls st (zsI h (64 * c + k) a x) Q) := by
    refine zE_if hd ?_
    show zopt (zlk2 zcf (zown M) ix) _ = _
    rw [hq]
    show zif (zfok M c k = true) (if zir c k = true then _ else _) = _
    unfold zif
    rw [if_pos ho, if_neg (by rw [hz]; decide)]
    rfl
  rw [e, hb, and_assoc]
  simp
theorem zX_putR {ix c k f c9 a v : Nat} (hd : zdec M pc = some (.putfield ix)) (hq : zlk2 zcf (zown M) ix = some (c, k)) (hz : zir c k = true) (ho : zfok M c k = true) (hf : 64 * c + k = f) (hc : 10 + c = c9) (hp : pc + 3 = pc') : zE M pc ls (.inr v :: .inr a :: st) h Q ↔ ((zK h a).1 = c9 ∧ zE M pc' ls st (zsR h f a v) Q) := by
  subst hf hc hp
  refine zE_if hd ?_
  show zopt (zlk2 zcf (zown M) ix) _ = _
  rw [hq]
  show zif (zfok M c k = true) (if zir c k = true then _ else _) = _
  unfold zif
  rw [if_pos ho, if_pos hz]
  rfl
theorem zX_iaload {a : Nat} {i : Int} (hd : zdec M pc = some .iaload) (hp : pc + 1 = pc') : zE M pc ls (.inl i :: .inr a :: st) h Q ↔ (((zK h a).1 = 1 ∨ (zK h a).1 = 5) ∧ (0 ≤ i ∧ i < (zK h a).2) ∧ zE M pc' ls (.inl (zA h a i.toNat) :: st) h Q) := by
  subst hp
  have e : zE M pc ls (.inl i :: .inr a :: st) h Q ↔ ((((zK h a).1 = 1 ∨ (zK h a).1 = 5) ∧ 0 ≤ i ∧ i < (zK h a).2) ∧ zE M (pc + 1) ls (.inl (zA h a i.toNat) :: st) h Q) := zE_if hd rfl
  rw [e, and_assoc]
theorem zX_iastore {a : Nat} {i x : Int} (hd : zdec M pc = some .iastore) (hp : pc + 1 = pc') : zE M pc ls (.inl x :: .inl i :: .inr a :: st) h Q ↔ ((zK h a).1 = 1 ∧ (0 ≤ i ∧ i < (zK h a).2) ∧ zE M pc' ls st (zsA h a i.toNat x) Q) := by
  subst hp
  have e : zE M pc ls (.inl x :: .inl i :: .inr a :: st) h Q ↔ (((zK h a).1 = 1 ∧ 0 ≤ i ∧ i < (zK h a).2) ∧ zE M (pc + 1) ls st (zsA h a i.toNat x) Q) := zE_if hd rfl
  rw [e, and_assoc]
theorem zX_aaload {a : Nat} {i : Int} (hd : zdec M pc = some .aaload) (hp : pc + 1 = pc') : zE M pc ls (.inl i :: .inr a :: st) h Q ↔ ((2 ≤ (zK h a).1 ∧ (zK h a).1 ≤ 4) ∧ (0 ≤ i ∧ i < (zK h a).2) ∧ zE M pc' ls (.inr (zB h a i.toNat) :: st) h Q) := by
  subst hp
  have e : zE M pc ls (.inl i :: .inr a :: st) h Q ↔ (((2 ≤ (zK h a).1 ∧ (zK h a).1 ≤ 4) ∧ 0 ≤ i ∧ i < (zK h a).2) ∧ zE M (pc + 1) ls (.inr (zB h a i.toNat) :: st) h Q) := zE_if hd rfl
  rw [e, and_assoc]
theorem zX_aastore {a v : Nat} {i : Int} (hd : zdec M pc = some .aastore) (hp : pc + 1 = pc') : zE M pc ls (.inr v :: .inl i :: .inr a :: st) h Q ↔ ((2 ≤ (zK h a).1 ∧ (zK h a).1 ≤ 4) ∧ (zK h v).1 = 10 + zel (zK h a).1 ∧ (0 ≤ i ∧ i < (zK h a).2) ∧ zE M pc' ls st (zsB h a i.toNat v) Q) := by
  subst hp
  have e : zE M pc ls (.inr v :: .inl i :: .inr a :: st) h Q ↔ (((2 ≤ (zK h a).1 ∧ (zK h a).1 ≤ 4) ∧ (zK h v).1 = 10 + zel (zK h a).1 ∧ 0 ≤ i ∧ i < (zK h a).2) ∧ zE M (pc + 1) ls st (zsB h a i.toNat v) Q) := zE_if hd rfl
  rw [e]
  exact ⟨fun q => ⟨q.1.1, q.1.2.1, q.1.2.2, q.2⟩, fun q => ⟨⟨q.1, q.2.1, q.2.2.1⟩, q.2.2.2⟩⟩
theorem zX_alen {a : Nat} (hd : zdec M pc = some .arraylength) (hp : pc + 1 = pc') : zE M pc ls (.inr a :: st) h Q ↔ ((1 ≤ (zK h a).1 ∧ (zK h a).1 ≤ 5) ∧ zE M pc' ls (.inl ((zK h a).2 : Int) :: st) h Q) := by subst hp; exact zE_if hd rfl
theorem zX_newarray {n : Int} (hd : zdec M pc = some (.newarray .int)) (hp : pc + 2 = pc') : zE M pc ls (.inl n :: st) h Q ↔ ((0 ≤ n ∧ n ≤ 100000) ∧ zE M pc' ls (.inr (zn h) :: st) (znA h 1 n.toNat) Q) := by subst hp; exact zE_if hd rfl
theorem zX_anewarray {n : Int} {ix c t : Nat} (hd : zdec M pc = some (.anewarray ix)) (hq : zlkc (zown M) ix = some c) (ht : zat c = t) (ht0 : t ≠ 0) (hp : pc + 3 = pc') : zE M pc ls (.inl n :: st) h Q ↔ ((0 ≤ n ∧ n ≤ 100000) ∧ zE M pc' ls (.inr (zn h) :: st) (znA h t n.toNat) Q) := by
  subst hp ht
  have e : zE M pc ls (.inl n :: st) h Q ↔ ((zat c ≠ 0 ∧ 0 ≤ n ∧ n ≤ 100000) ∧ zE M (pc + 3) ls (.inr (zn h) :: st) (znA h (zat c) n.toNat) Q) := by
    refine zE_if hd ?_
    show zopt (zlkc (zown M) ix) _ = _
    rw [hq]
    rfl
  rw [e]
  exact ⟨fun q => ⟨q.1.2, q.2⟩, fun q => ⟨⟨ht0, q.1⟩, q.2⟩⟩
theorem zX_new {ix c N : Nat} (hd : zdec M pc = some (.new ix)) (hq : zlkc (zown M) ix = some c) (hN : (zcw c).2.2 = N) (hp : pc + 3 = pc') : zE M pc ls st h Q ↔ zE M pc' ls (.inr (zn h) :: st) (znO h c N) Q := by
  subst hp hN
  exact zE_mv hd (by show zopt (zlkc (zown M) ix) _ = _; rw [hq]; rfl)
theorem zX_objInit {ix a k9 : Nat} (hd : zdec M pc = some (.invokespecial ix)) (hq : zlk2 zcm (zown M) ix = some (4, k9)) (hr : 1 ≤ zrk M ∧ 20 ≤ zlo M) (h8 : st.length ≤ 8) (hp : pc + 3 = pc') : zE M pc ls (.inr a :: st) h Q ↔ (a ≠ 0 ∧ zE M pc' ls st h Q) := by
  subst hp
  have e : zE M pc ls (.inr a :: st) h Q ↔ ((a ≠ 0 ∧ st.length ≤ 8) ∧ zE M (pc + 3) ls st h Q) := by
    refine zE_if hd ?_
    show zopt (zlk2 zcm (zown M) ix) _ = _
    rw [hq]
    dsimp only [zopt]
    rw [if_neg (by decide)]
    exact if_pos ⟨rfl, hr.1, hr.2⟩
  rw [e]
  exact ⟨fun q => ⟨q.1.1, q.2⟩, fun q => ⟨⟨q.1, h8⟩, q.2⟩⟩
theorem zX_max {ix k9 : Nat} {x y : Int} (hd : zdec M pc = some (.invokestatic ix)) (hq : zlk2 zcm (zown M) ix = some (6, k9)) (hr : 1 ≤ zrk M ∧ 40 ≤ zlo M) (h8 : st.length ≤ 8) (hp : pc + 3 = pc') : zE M pc ls (.inl y :: .inl x :: st) h Q ↔ zE M pc' ls (.inl (max x y) :: st) h Q := by
  subst hp
  refine zE_mv hd ?_
  show zopt (zlk2 zcm (zown M) ix) _ = _
  rw [hq]
  exact if_pos ⟨hr.1, hr.2, h8⟩
theorem zX_min {ix k9 : Nat} {x y : Int} (hd : zdec M pc = some (.invokestatic ix)) (hq : zlk2 zcm (zown M) ix = some (7, k9)) (hr : 1 ≤ zrk M ∧ 40 ≤ zlo M) (h8 : st.length ≤ 8) (hp : pc + 3 = pc') : zE M pc ls (.inl y :: .inl x :: st) h Q ↔ zE M pc' ls (.inl (min x y) :: st) h Q := by
  subst hp
  refine zE_mv hd ?_
  show zopt (zlk2 zcm (zown M) ix) _ = _
  rw [hq]
  exact if_pos ⟨hr.1, hr.2, h8⟩
theorem zX_copy {ix k9 a d : Nat} {n sp dp : Int} (hd : zdec M pc = some (.invokestatic ix)) (hq : zlk2 zcm (zown M) ix = some (5, k9)) (hr : 1 ≤ zrk M ∧ 40 ≤ zlo M) (h8 : st.length ≤ 8) (hp : pc + 3 = pc') : zE M pc ls (.inl n :: .inl dp :: .inr d :: .inl sp :: .inr a :: st) h Q ↔ ((sp = 0 ∧ dp = 0 ∧ 0 ≤ n) ∧ ((zK h a).1 = 1 ∧ (zK h d).1 = 1) ∧ (n ≤ (zK h a).2 ∧ n ≤ (zK h d).2) ∧ zE M pc' ls st (zcp h a d n.toNat) Q) := by
  subst hp
  have e : zE M pc ls (.inl n :: .inl dp :: .inr d :: .inl sp :: .inr a :: st) h Q ↔ (((sp = 0 ∧ dp = 0 ∧ 0 ≤ n) ∧ ((zK h a).1 = 1 ∧ (zK h d).1 = 1) ∧ n ≤ (zK h a).2 ∧ n ≤ (zK h d).2 ∧ st.length ≤ 8) ∧ zE M (pc + 3) ls st (zcp h a d n.toNat) Q) := by
    refine zE_if hd ?_
    show zopt (zlk2 zcm (zown M) ix) _ = _
    rw [hq]
    exact if_pos ⟨rfl, hr.1, hr.2⟩
  rw [e]
  exact ⟨fun q => ⟨q.1.1, q.1.2.1, ⟨q.1.2.2.1, q.1.2.2.2.1⟩, q.2⟩, fun q => ⟨⟨q.1, q.2.1, q.2.2.1.1, q.2.2.1.2, h8⟩, q.2.2.2⟩⟩
theorem zX_ireturn {x : Int} (hd : zdec M pc = some .ireturn) (hr : zrt M = some .int) : zE M pc ls [.inl x] h Q ↔ Q (some (.inl x)) h := zE_rt hd (if_pos (Or.inl hr))
theorem zX_zreturn {x : Int} (hd : zdec M pc = some .ireturn) (hr : zrt M = some .boolean) : zE M pc ls [.inl x] h Q ↔ ((x = 0 ∨ x = 1) ∧ Q (some (.inl x)) h) := by
  by_cases hx : x = 0 ∨ x = 1
  · rw [zE_rt hd (show zstep M .ireturn pc ls [.inl x] h = _ from if_pos (Or.inr ⟨hr, hx⟩))]
    exact ⟨fun q => ⟨hx, q⟩, fun q => q.2⟩
  · constructor
    · intro q
      refine absurd q (zE_no hd (show zstep M .ireturn pc ls [.inl x] h = none from if_neg ?_))
      rintro (h1 | h1)
      · rw [hr] at h1; cases h1
      · exact hx h1.2
    · intro q
      exact absurd q.1 hx
theorem zX_areturn {a : Nat} {C : String} (hd : zdec M pc = some .areturn) (hr : zrt M = some (.object C)) : zE M pc ls [.inr a] h Q ↔ Q (some (.inr a)) h := zE_rt hd (by show (match zrt M with | some (.object _) => _ | _ => none) = _; rw [hr])
theorem zX_return (hd : zdec M pc = some .return_) (hr : zrt M = none) : zE M pc ls [] h Q ↔ Q none h := zE_rt hd (by show (match zrt M with | none => _ | _ => none) = _; rw [hr])
/-- what a call needs of the tables -/
def zcok (M M' n m : Nat) : Bool := decide (zrk M' + 1 ≤ zrk M ∧ 19 + zml M' + zlo M' ≤ zlo M ∧ n ≤ zml M' ∧ 1 ≤ M' ∧ M' < 177 ∧ zml M' = m)
theorem zcall_eq {M' n m : Nat} {ok : List zV → Bool} {as rest : List zV} (hc : zcok M M' n m = true) (hst : st = as.reverse ++ rest) (hn : as.length = n) (h8 : rest.length ≤ 8) (hok : ok as = true) : zcall M M' n st ok = some (.inr (.inr (M', as, rest))) := by
  have h1 := of_decide_eq_true hc
  have e1 : st.take n = as.reverse := by rw [hst, List.take_left' (by rw [List.length_reverse]; exact hn)]
  have e2 : st.drop n = rest := by rw [hst, List.drop_left' (by rw [List.length_reverse]; exact hn)]
  have e3 : n ≤ st.length := by rw [hst, List.length_append, List.length_reverse]; omega
  unfold zcall
  rw [e1, e2, List.reverse_reverse]
  exact if_pos ⟨e3, h8, h1.1, h1.2.1, h1.2.2.1, h1.2.2.2.1, h1.2.2.2.2.1, hok⟩
theorem zX_callS {ix M' n m kd : Nat} {as rest : List zV} {ls' : zL} (hd : zdec M pc = some (.invokestatic ix)) (hq : zlk2 zcm (zown M) ix = some (kd, M')) (hk : kd = 0 ∨ kd = 1) (hnp : znp M' = n) (hc : zcok M M' n m = true) (hst : st = as.reverse ++ rest) (hn : as.length = n) (h8 : rest.length ≤ 8) (hl : as.map some ++ List.replicate (m - n) none = ls') (hp : pc + 3 = pc') :
    zE M pc ls st h Q ↔ zE M' 0 ls' [] h (fun r h' => zE M pc' ls (r.toList ++ rest) h' Q) := by
  subst hp hnp
  have h1 := of_decide_eq_true hc
  have e : zent M' as = ls' := by unfold zent; rw [h1.2.2.2.2.2, hn]; exact hl
  rw [← e]
  refine zE_cl hd ?_
  show zopt (zlk2 zcm (zown M) ix) _ = _
  rw [hq]
  show (if kd = 0 ∨ kd = 1 then zcall M M' (znp M') st (fun _ => true) else _) = _
  rw [if_pos hk]
  exact zcall_eq hc hst hn h8 rfl
theorem zX_callV {ix M' n m c9 a : Nat} {as rest : List zV} {ls' : zL} (hd : zdec M pc = some (.invokevirtual ix)) (hq : zlk2 zcm (zown M) ix = some (2, M')) (hnp : znp M' + 1 = n) (hc9 : 10 + zown M' = c9) (ho : Nat.blt (zown M') 11 = true) (hc : zcok M M' n m = true) (hst : st = (.inr a :: as).reverse ++ rest) (hn : as.length + 1 = n) (h8 : rest.length ≤ 8) (hl : (.inr a :: as).map some ++ List.replicate (m - n) none = ls') (hp : pc + 3 = pc') :
    zE M pc ls st h Q ↔ ((zK h a).1 = c9 ∧ zE M' 0 ls' [] h (fun r h' => zE M pc' ls (r.toList ++ rest) h' Q)) := by
  subst hp hnp hc9
  have h1 := of_decide_eq_true hc
  have e : zent M' (.inr a :: as) = ls' := by unfold zent; rw [h1.2.2.2.2.2, List.length_cons, hn]; exact hl
  by_cases hk : (zK h a).1 = 10 + zown M'
  · have hok : zrcv h M' (.inr a :: as) = true := by
      show (Nat.beq (zK h a).1 (10 + zown M') && Nat.blt (zown M') 11) = true
      rw [ho, hk, Nat.beq_refl]
      rfl
    have e2 : zE M pc ls st h Q ↔ zE M' 0 (zent M' (.inr a :: as)) [] h (fun r h' => zE M (pc + 3) ls (r.toList ++ rest) h' Q) := by
      refine zE_cl hd ?_
      show zopt (zlk2 zcm (zown M) ix) _ = _
      rw [hq]
      show zif ((2 : Nat) = 2) (zcall M M' (znp M' + 1) st (zrcv h M')) = _
      unfold zif
      rw [if_pos rfl]
      exact zcall_eq hc hst hn h8 hok
    rw [e2, e]
    exact ⟨fun q => ⟨hk, q⟩, fun q => q.2⟩
  · constructor
    · intro q
      refine absurd q (zE_no hd ?_)
      show zopt (zlk2 zcm (zown M) ix) _ = _
      rw [hq]
      show zif ((2 : Nat) = 2) (zcall M M' (znp M' + 1) st (zrcv h M')) = _
      unfold zif
      rw [if_pos rfl]
      unfold zcall zif
      refine if_neg ?_
      rintro ⟨-, -, -, -, -, -, -, h9⟩
      have e1 : st.take (znp M' + 1) = (.inr a :: as).reverse := by rw [hst, List.take_left' (by rw [List.length_reverse]; exact hn)]
      rw [e1, List.reverse_reverse] at h9
      have h9' : (Nat.beq (zK h a).1 (10 + zown M') && Nat.blt (zown M') 11) = true := h9
      rw [ho, Bool.and_true] at h9'
      exact hk (Nat.eq_of_beq_eq_true h9')
    · intro q
      exact absurd q.1 hk
theorem zX_callI {ix M' n m a : Nat} {as rest : List zV} {ls' : zL} (hd : zdec M pc = some (.invokespecial ix)) (hq : zlk2 zcm (zown M) ix = some (3, M')) (hnp : znp M' + 1 = n) (hc : zcok M M' n m = true) (hst : st = (.inr a :: as).reverse ++ rest) (hn : as.length + 1 = n) (h8 : rest.length ≤ 8) (hl : (.inr a :: as).map some ++ List.replicate (m - n) none = ls') (hp : pc + 3 = pc') :
    zE M pc ls st h Q ↔ (a ≠ 0 ∧ zE M' 0 ls' [] h (fun r h' => zE M pc' ls (r.toList ++ rest) h' Q)) := by
  subst hp hnp
  have h1 := of_decide_eq_true hc
  have e : zent M' (.inr a :: as) = ls' := by unfold zent; rw [h1.2.2.2.2.2, List.length_cons, hn]; exact hl
  by_cases hk : a ≠ 0
  · have hok : znn (.inr a :: as) = true := by
      show (!(Nat.beq a 0)) = true
      cases a with
      | zero => exact absurd rfl hk
      | succ a => rfl
    have e2 : zE M pc ls st h Q ↔ zE M' 0 (zent M' (.inr a :: as)) [] h (fun r h' => zE M (pc + 3) ls (r.toList ++ rest) h' Q) := by
      refine zE_cl hd ?_
      show zopt (zlk2 zcm (zown M) ix) _ = _
      rw [hq]
      dsimp only [zopt]
      rw [if_pos rfl]
      exact zcall_eq hc hst hn h8 hok
    rw [e2, e]
    exact ⟨fun q => ⟨hk, q⟩, fun q => q.2⟩
  · constructor
    · intro q
      refine absurd q (zE_no hd ?_)
      show zopt (zlk2 zcm (zown M) ix) _ = _
      rw [hq]
      dsimp only [zopt]
      rw [if_pos rfl]
      unfold zcall zif
      refine if_neg ?_
      rintro ⟨-, -, -, -, -, -, -, h9⟩
      have e1 : st.take (znp M' + 1) = (.inr a :: as).reverse := by rw [hst, List.take_left' (by rw [List.length_reverse]; exact hn)]
      rw [e1, List.reverse_reverse] at h9
      have : a = 0 := Classical.not_not.mp hk
      subst this
      cases h9
    · intro q
      exact absurd q.1 hk
end zRows
/-- a table of ways on -/
def ztab (tg : List Nat) (i : Nat) (k : Nat → Prop) : Prop := match tg[i]? with
  | some t => k t
  | none => False
theorem zX_tab {M pc d9 : Nat} {ls : zL} {st : List zV} {h : zH} {Q : Option zV → zH → Prop} {d lo hi x : Int} {offs : Array Int} {tg : List Nat} (hd : zdec M pc = some (.tableswitch d lo hi offs)) (h9 : (pc : Int) + d = (d9 : Int)) (ht : offs.toList.map (fun o => (pc : Int) + o) = tg.map (fun t : Nat => (t : Int))) :
    zE M pc ls (.inl x :: st) h Q ↔ if x < lo ∨ hi < x then zE M d9 ls st h Q else ztab tg (x - lo).toNat (fun t => zE M t ls st h Q) := by
  by_cases hx : x < lo ∨ hi < x
  · rw [if_pos hx]
    exact zE_mv hd ((if_pos hx).trans (zjmp_eq (k := fun t => zgo t ls st h) h9))
  · rw [if_neg hx]
    have h1 : (offs.toList.map (fun o => (pc : Int) + o))[(x - lo).toNat]? = (tg.map (fun t : Nat => (t : Int)))[(x - lo).toNat]? := by rw [ht]
    rw [List.getElem?_map, List.getElem?_map, Array.getElem?_toList] at h1
    have hs : zstep M (.tableswitch d lo hi offs) pc ls (.inl x :: st) h = zopt offs[(x - lo).toNat]? (fun off => zjmp pc off fun t => zgo t ls st h) := if_neg hx
    unfold ztab
    cases ho : offs[(x - lo).toNat]? with
    | none =>
      rw [ho] at h1 hs
      cases hg : tg[(x - lo).toNat]? with
      | none => exact ⟨fun q => absurd q (zE_no hd hs), fun q => q.elim⟩
      | some t => rw [hg] at h1; cases h1
    | some o =>
      rw [ho] at h1 hs
      cases hg : tg[(x - lo).toNat]? with
      | none => rw [hg] at h1; cases h1
      | some t =>
        rw [hg] at h1
        simp only [Option.map_some, Option.some.injEq] at h1
        exact zE_mv hd (hs.trans (zjmp_eq (k := fun t => zgo t ls st h) h1))
