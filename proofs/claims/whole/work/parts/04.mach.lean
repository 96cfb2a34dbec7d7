/-! THE SMALL MACHINE: ints are Int, references are numbers (0 null, 1 the script, from 2 on what is made), a heap is maps by field and by array. It reads the same bytes; where it goes through, the machine does. -/
abbrev zV : Type := Int ⊕ Nat
abbrev zL : Type := List (Option zV)
abbrev zH : Type := (Nat → Nat × Nat) × (Nat → Nat → Int) × (Nat → Nat → Nat) × (Nat → Nat → Int) × (Nat → Nat → Nat) × Nat × Nat
def zK (h : zH) : Nat → Nat × Nat := h.1
def zI (h : zH) : Nat → Nat → Int := h.2.1
def zR (h : zH) : Nat → Nat → Nat := h.2.2.1
def zA (h : zH) : Nat → Nat → Int := h.2.2.2.1
def zB (h : zH) : Nat → Nat → Nat := h.2.2.2.2.1
def zn (h : zH) : Nat := h.2.2.2.2.2.1
def zs (h : zH) : Nat := h.2.2.2.2.2.2
def zu {α : Type} (f : Nat → Nat → α) (a b : Nat) (v : α) : Nat → Nat → α := fun x y => if x = a ∧ y = b then v else f x y
def zsI (h : zH) (f a : Nat) (v : Int) : zH := (zK h, zu (zI h) f a v, zR h, zA h, zB h, zn h, zs h)
def zsR (h : zH) (f a : Nat) (v : Nat) : zH := (zK h, zI h, zu (zR h) f a v, zA h, zB h, zn h, zs h)
def zsA (h : zH) (a i : Nat) (v : Int) : zH := (zK h, zI h, zR h, zu (zA h) a i v, zB h, zn h, zs h)
def zsB (h : zH) (a i : Nat) (v : Nat) : zH := (zK h, zI h, zR h, zA h, zu (zB h) a i v, zn h, zs h)
def znO (h : zH) (c N : Nat) : zH := (fun a => if a = zn h then (10 + c, 0) else zK h a, fun f a => if a = zn h then 0 else zI h f a, fun f a => if a = zn h then 0 else zR h f a, zA h, zB h, zn h + 1, zs h + N)
def znA (h : zH) (t N : Nat) : zH := (fun a => if a = zn h then (t, N) else zK h a, zI h, zR h, fun a i => if a = zn h then 0 else zA h a i, fun a i => if a = zn h then 0 else zB h a i, zn h + 1, zs h + N)
def zcp (h : zH) (s d n : Nat) : zH := (zK h, zI h, zR h, fun a i => if a = d ∧ i < n then zA h s i else zA h a i, zB h, zn h, zs h)
def zw (x : Int) : Int := (Int32.ofInt x).toInt
def zin (x : Int) : Prop := -2147483648 ≤ x ∧ x < 2147483648
def zand (x y : Int) : Int := (Int32.ofInt x &&& Int32.ofInt y).toInt
def zxor (x y : Int) : Int := (Int32.ofInt x ^^^ Int32.ofInt y).toInt
def zshr (x y : Int) : Int := (Int32.ofInt x >>> (Int32.ofInt y &&& 31)).toInt
abbrev zSR : Type := (Nat × zL × List zV × zH) ⊕ (Option zV) ⊕ (Nat × List zV × List zV)
def zgo (pc : Nat) (ls : zL) (st : List zV) (h : zH) : Option zSR := some (.inl (pc, ls, st, h))
def zb1 (st : List zV) (k : Int → List zV → Option zSR) : Option zSR := match st with
  | .inl x :: r => k x r
  | _ => none
def zb2 (st : List zV) (k : Int → Int → List zV → Option zSR) : Option zSR := match st with
  | .inl y :: .inl x :: r => k x y r
  | _ => none
def zr1 (st : List zV) (k : Nat → List zV → Option zSR) : Option zSR := match st with
  | .inr a :: r => k a r
  | _ => none
def zir1 (st : List zV) (k : Int → Nat → List zV → Option zSR) : Option zSR := match st with
  | .inl i :: .inr a :: r => k i a r
  | _ => none
def ziir (st : List zV) (k : Int → Int → Nat → List zV → Option zSR) : Option zSR := match st with
  | .inl x :: .inl i :: .inr a :: r => k x i a r
  | _ => none
def zrir (st : List zV) (k : Nat → Int → Nat → List zV → Option zSR) : Option zSR := match st with
  | .inr v :: .inl i :: .inr a :: r => k v i a r
  | _ => none
def zrr (st : List zV) (k : Nat → Nat → List zV → Option zSR) : Option zSR := match st with
  | .inr v :: .inr a :: r => k v a r
  | _ => none
def zv1 (st : List zV) (k : zV → List zV → Option zSR) : Option zSR := match st with
  | v :: r => k v r
  | _ => none
def zv2 (st : List zV) (k : zV → zV → List zV → Option zSR) : Option zSR := match st with
  | v :: w :: r => k v w r
  | _ => none
def zldI (ls : zL) (k : Nat) (f : Int → Option zSR) : Option zSR := match ls[k]? with
  | some (some (.inl x)) => f x
  | _ => none
def zldR (ls : zL) (k : Nat) (f : Nat → Option zSR) : Option zSR := match ls[k]? with
  | some (some (.inr x)) => f x
  | _ => none
def zif (c : Prop) [Decidable c] (k : Option zSR) : Option zSR := if c then k else none
def zopt {α : Type} (o : Option α) (k : α → Option zSR) : Option zSR := match o with
  | some a => k a
  | none => none
def zjmp (pc : Nat) (off : Int) (k : Nat → Option zSR) : Option zSR := if 0 ≤ (pc : Int) + off then k ((pc : Int) + off).toNat else none
def zcall (M M' n : Nat) (st : List zV) (ok : List zV → Bool) : Option zSR :=
  zif (n ≤ st.length ∧ (st.drop n).length ≤ 8 ∧ zrk M' + 1 ≤ zrk M ∧ 19 + zml M' + zlo M' ≤ zlo M ∧ n ≤ zml M' ∧ 1 ≤ M' ∧ M' < 177 ∧ ok (st.take n).reverse = true) (some (.inr (.inr (M', (st.take n).reverse, st.drop n))))
/-- the receiver: an object of the method's class -/
def zrcv (h : zH) (M' : Nat) (as : List zV) : Bool := match as with
  | .inr a :: _ => Nat.beq (zK h a).1 (10 + zown M') && Nat.blt (zown M') 11
  | _ => false
def znn (as : List zV) : Bool := match as with
  | .inr a :: _ => !(Nat.beq a 0)
  | _ => false
/-- arrays of references: of which class -/
def zel (t : Nat) : Nat := if t = 2 then 7 else if t = 3 then 3 else 1
def zat (c : Nat) : Nat := if c = 7 then 2 else if c = 3 then 3 else if c = 1 then 4 else 0
/-- whether the method may write the field -/
def zfok (M c k : Nat) : Bool := !((zcw c).2.1 k).2.2.2 || (decide ((zy M).name = "<init>") && Nat.beq (zown M) c)
def zbk (c k : Nat) : Bool := match zty c k with | .boolean => true | _ => false
def zlen (i : Instr) : Nat := match i with
  | .bipush _ | .ldc _ | .iload _ | .aload _ | .istore _ | .astore _ | .newarray _ => 2
  | .sipush _ | .iinc _ _ | .goto _ | .ifCond _ _ | .if_icmp _ _ | .ifnull _ | .ifnonnull _ | .getfield _ | .putfield _ | .new _ | .anewarray _ | .invokestatic _ | .invokevirtual _ | .invokespecial _ => 3
  | .tableswitch _ _ _ _ => 0
  | _ => 1
def zdec (M pc : Nat) : Option Instr := match decode (zby M) pc with
  | .ok q => if zlen q.1 = q.2 ∨ zlen q.1 = 0 then some q.1 else none
  | .error _ => none
def zstep (M : Nat) (i : Instr) (pc : Nat) (ls : zL) (st : List zV) (h : zH) : Option zSR := match i with
  | .iconst n => zif (-1 ≤ n ∧ n ≤ 5) (zgo (pc + 1) ls (.inl n :: st) h)
  | .bipush n => zif (-128 ≤ n ∧ n ≤ 127) (zgo (pc + 2) ls (.inl n :: st) h)
  | .sipush n => zif (-32768 ≤ n ∧ n ≤ 32767) (zgo (pc + 3) ls (.inl n :: st) h)
  | .ldc ix => zopt (zlkk (zown M) ix) fun v => zif (0 ≤ v ∧ v ≤ 100000) (zgo (pc + 2) ls (.inl v :: st) h)
  | .aconst_null => zgo (pc + 1) ls (.inr 0 :: st) h
  | .iload k => zldI ls k fun x => zgo (pc + 2) ls (.inl x :: st) h
  | .iload_n k => zldI ls k fun x => zgo (pc + 1) ls (.inl x :: st) h
  | .aload k => zldR ls k fun x => zgo (pc + 2) ls (.inr x :: st) h
  | .aload_n k => zldR ls k fun x => zgo (pc + 1) ls (.inr x :: st) h
  | .istore k => zb1 st fun x r => zif (k < ls.length) (zgo (pc + 2) (ls.set k (some (.inl x))) r h)
  | .istore_n k => zb1 st fun x r => zif ((k : Nat) < ls.length) (zgo (pc + 1) (ls.set k (some (.inl x))) r h)
  | .astore k => zr1 st fun x r => zif (k < ls.length) (zgo (pc + 2) (ls.set k (some (.inr x))) r h)
  | .astore_n k => zr1 st fun x r => zif ((k : Nat) < ls.length) (zgo (pc + 1) (ls.set k (some (.inr x))) r h)
  | .iinc k n => zldI ls k fun x => zgo (pc + 3) (ls.set k (some (.inl (zw (x + n))))) st h
  | .iadd => zb2 st fun x y r => zgo (pc + 1) ls (.inl (zw (x + y)) :: r) h
  | .isub => zb2 st fun x y r => zgo (pc + 1) ls (.inl (zw (x - y)) :: r) h
  | .imul => zb2 st fun x y r => zgo (pc + 1) ls (.inl (zw (x * y)) :: r) h
  | .idiv => zb2 st fun x y r => zif (y ≠ 0) (zgo (pc + 1) ls (.inl (zw (x.tdiv y)) :: r) h)
  | .irem => zb2 st fun x y r => zif (y ≠ 0) (zgo (pc + 1) ls (.inl (zw (x.tmod y)) :: r) h)
  | .iand => zb2 st fun x y r => zgo (pc + 1) ls (.inl (zand x y) :: r) h
  | .ixor => zb2 st fun x y r => zgo (pc + 1) ls (.inl (zxor x y) :: r) h
  | .ishr => zb2 st fun x y r => zgo (pc + 1) ls (.inl (zshr x y) :: r) h
  | .dup => zv1 st fun v r => zgo (pc + 1) ls (v :: v :: r) h
  | .dup2 => zv2 st fun v w r => zgo (pc + 1) ls (v :: w :: v :: w :: r) h
  | .pop => zv1 st fun _ r => zgo (pc + 1) ls r h
  | .goto off => zjmp pc off fun t => zgo t ls st h
  | .ifCond .eq off => zb1 st fun x r => zjmp pc off fun t => if x = 0 then zgo t ls r h else zgo (pc + 3) ls r h
  | .ifCond .ne off => zb1 st fun x r => zjmp pc off fun t => if x ≠ 0 then zgo t ls r h else zgo (pc + 3) ls r h
  | .ifCond .lt off => zb1 st fun x r => zjmp pc off fun t => if x < 0 then zgo t ls r h else zgo (pc + 3) ls r h
  | .ifCond .ge off => zb1 st fun x r => zjmp pc off fun t => if 0 ≤ x then zgo t ls r h else zgo (pc + 3) ls r h
  | .ifCond .gt off => zb1 st fun x r => zjmp pc off fun t => if 0 < x then zgo t ls r h else zgo (pc + 3) ls r h
  | .ifCond .le off => zb1 st fun x r => zjmp pc off fun t => if x ≤ 0 then zgo t ls r h else zgo (pc + 3) ls r h
  | .if_icmp .eq off => zb2 st fun x y r => zjmp pc off fun t => if x = y then zgo t ls r h else zgo (pc + 3) ls r h
  | .if_icmp .ne off => zb2 st fun x y r => zjmp pc off fun t => if x ≠ y then zgo t ls r h else zgo (pc + 3) ls r h
  | .if_icmp .lt off => zb2 st fun x y r => zjmp pc off fun t => if x < y then zgo t ls r h else zgo (pc + 3) ls r h
  | .if_icmp .ge off => zb2 st fun x y r => zjmp pc off fun t => if y ≤ x then zgo t ls r h else zgo (pc + 3) ls r h
  | .if_icmp .gt off => zb2 st fun x y r => zjmp pc off fun t => if y < x then zgo t ls r h else zgo (pc + 3) ls r h
  | .if_icmp .le off => zb2 st fun x y r => zjmp pc off fun t => if x ≤ y then zgo t ls r h else zgo (pc + 3) ls r h
  | .ifnull off => zr1 st fun a r => zjmp pc off fun t => if a = 0 then zgo t ls r h else zgo (pc + 3) ls r h
  | .ifnonnull off => zr1 st fun a r => zjmp pc off fun t => if a ≠ 0 then zgo t ls r h else zgo (pc + 3) ls r h
  | .tableswitch d lo hi offs => zb1 st fun x r => if x < lo ∨ hi < x then zjmp pc d fun t => zgo t ls r h else zopt offs[(x - lo).toNat]? fun off => zjmp pc off fun t => zgo t ls r h
  | .getfield ix => zopt (zlk2 zcf (zown M) ix) fun q => zr1 st fun a r => zif ((zK h a).1 = 10 + q.1) (zgo (pc + 3) ls ((if zir q.1 q.2 = true then .inr (zR h (64 * q.1 + q.2) a) else .inl (zI h (64 * q.1 + q.2) a)) :: r) h)
  | .putfield ix => zopt (zlk2 zcf (zown M) ix) fun q => zif (zfok M q.1 q.2 = true) (if zir q.1 q.2 = true
      then zrr st fun v a r => zif ((zK h a).1 = 10 + q.1) (zgo (pc + 3) ls r (zsR h (64 * q.1 + q.2) a v))
      else zir1 st fun x a r => zif ((zK h a).1 = 10 + q.1 ∧ (zbk q.1 q.2 = true → x = 0 ∨ x = 1)) (zgo (pc + 3) ls r (zsI h (64 * q.1 + q.2) a x)))
  | .iaload => zir1 st fun i a r => zif (((zK h a).1 = 1 ∨ (zK h a).1 = 5) ∧ 0 ≤ i ∧ i < (zK h a).2) (zgo (pc + 1) ls (.inl (zA h a i.toNat) :: r) h)
  | .iastore => ziir st fun x i a r => zif ((zK h a).1 = 1 ∧ 0 ≤ i ∧ i < (zK h a).2) (zgo (pc + 1) ls r (zsA h a i.toNat x))
  | .aaload => zir1 st fun i a r => zif ((2 ≤ (zK h a).1 ∧ (zK h a).1 ≤ 4) ∧ 0 ≤ i ∧ i < (zK h a).2) (zgo (pc + 1) ls (.inr (zB h a i.toNat) :: r) h)
  | .aastore => zrir st fun v i a r => zif ((2 ≤ (zK h a).1 ∧ (zK h a).1 ≤ 4) ∧ (zK h v).1 = 10 + zel (zK h a).1 ∧ 0 ≤ i ∧ i < (zK h a).2) (zgo (pc + 1) ls r (zsB h a i.toNat v))
  | .arraylength => zr1 st fun a r => zif (1 ≤ (zK h a).1 ∧ (zK h a).1 ≤ 5) (zgo (pc + 1) ls (.inl ((zK h a).2 : Int) :: r) h)
  | .newarray .int => zb1 st fun n r => zif (0 ≤ n ∧ n ≤ 100000) (zgo (pc + 2) ls (.inr (zn h) :: r) (znA h 1 n.toNat))
  | .anewarray ix => zopt (zlkc (zown M) ix) fun c => zb1 st fun n r => zif (zat c ≠ 0 ∧ 0 ≤ n ∧ n ≤ 100000) (zgo (pc + 3) ls (.inr (zn h) :: r) (znA h (zat c) n.toNat))
  | .new ix => zopt (zlkc (zown M) ix) fun c => zgo (pc + 3) ls (.inr (zn h) :: st) (znO h c (zcw c).2.2)
  | .invokestatic ix => zopt (zlk2 zcm (zown M) ix) fun q => if q.1 = 0 ∨ q.1 = 1 then zcall M q.2 (znp q.2) st (fun _ => true) else if q.1 = 6 then zb2 st fun x y r => zif (1 ≤ zrk M ∧ 40 ≤ zlo M ∧ r.length ≤ 8) (zgo (pc + 3) ls (.inl (max x y) :: r) h) else if q.1 = 7 then zb2 st fun x y r => zif (1 ≤ zrk M ∧ 40 ≤ zlo M ∧ r.length ≤ 8) (zgo (pc + 3) ls (.inl (min x y) :: r) h) else zif (q.1 = 5 ∧ 1 ≤ zrk M ∧ 40 ≤ zlo M) (match st with
      | .inl n :: .inl dp :: .inr d :: .inl sp :: .inr a :: r => zif ((sp = 0 ∧ dp = 0 ∧ 0 ≤ n) ∧ ((zK h a).1 = 1 ∧ (zK h d).1 = 1) ∧ n ≤ (zK h a).2 ∧ n ≤ (zK h d).2 ∧ r.length ≤ 8) (zgo (pc + 3) ls r (zcp h a d n.toNat))
      | _ => none)
  | .invokevirtual ix => zopt (zlk2 zcm (zown M) ix) fun q => zif (q.1 = 2) (zcall M q.2 (znp q.2 + 1) st (zrcv h q.2))
  | .invokespecial ix => zopt (zlk2 zcm (zown M) ix) fun q => if q.1 = 3 then zcall M q.2 (znp q.2 + 1) st znn else zif (q.1 = 4 ∧ 1 ≤ zrk M ∧ 20 ≤ zlo M) (zr1 st fun a r => zif (a ≠ 0 ∧ r.length ≤ 8) (zgo (pc + 3) ls r h))
  | .ireturn => match st with
      | [.inl x] => zif (zrt M = some .int ∨ (zrt M = some .boolean ∧ (x = 0 ∨ x = 1))) (some (.inr (.inl (some (.inl x)))))
      | _ => none
  | .areturn => match st with
      | [.inr a] => match zrt M with
        | some (.object _) => some (.inr (.inl (some (.inr a))))
        | _ => none
      | _ => none
  | .return_ => match st with
      | [] => match zrt M with
        | none => some (.inr (.inl none))
        | _ => none
      | _ => none
  | _ => none
def zent (M : Nat) (as : List zV) : zL := as.map some ++ List.replicate (zml M - as.length) none
def zrun : Nat → Nat → Nat → zL → List zV → zH → Option (Option zV × zH)
  | 0, _, _, _, _, _ => none
  | n + 1, M, pc, ls, st, h => match zdec M pc with
    | none => none
    | some i => match zstep M i pc ls st h with
      | none => none
      | some (.inl q) => zrun n M q.1 q.2.1 q.2.2.1 q.2.2.2
      | some (.inr (.inl r)) => some (r, h)
      | some (.inr (.inr q)) => match zrun n q.1 0 (zent q.1 q.2.1) [] h with
        | none => none
        | some w => zrun n M (pc + 3) ls (w.1.toList ++ q.2.2) w.2
def zE (M pc : Nat) (ls : zL) (st : List zV) (h : zH) (Q : Option zV → zH → Prop) : Prop := ∃ n r h', zrun n M pc ls st h = some (r, h') ∧ Q r h'
