/-! A LETTER BENT is no letter any more: its sum is another one -/
theorem nx_xor (a b : Nat) : nI a ^^^ nI b = nI (a ^^^ b) := by
  apply Int32.toBitVec_inj.1
  show BitVec.ofNat 32 a ^^^ BitVec.ofNat 32 b = BitVec.ofNat 32 (a ^^^ b)
  apply BitVec.eq_of_getLsbD_eq
  intro i hi
  simp [hi]
theorem zxor_n {a b : Nat} (ha : a < 256) (hb : b < 256) : zxor (a : Int) (b : Int) = ((a ^^^ b : Nat) : Int) ∧ a ^^^ b < 256 := by
  have hx : a ^^^ b < 2 ^ 8 := Nat.xor_lt_two_pow (by omega) (by omega)
  have hx' : a ^^^ b < 256 := hx
  refine ⟨?_, hx'⟩
  unfold zxor
  rw [show Int32.ofInt (a : Int) = nI a from rfl, show Int32.ofInt (b : Int) = nI b from rfl, nx_xor, nI_toInt (by omega)]
theorem xor_ne {a b : Nat} (hb : b ≠ 0) : a ^^^ b ≠ a := by
  intro e
  have h1 : a ^^^ (a ^^^ b) = a ^^^ a := by rw [e]
  rw [← Nat.xor_assoc, Nat.xor_self, Nat.zero_xor] at h1
  exact hb h1
theorem zxor_b {x y : Int} (hx : 0 ≤ x ∧ x < 256) (hy : 0 ≤ y ∧ y < 256) : (0 ≤ zxor x y ∧ zxor x y < 256) ∧ (y ≠ 0 → zxor x y ≠ x) ∧ (y = 0 → zxor x y = x) := by
  obtain ⟨a, rfl⟩ := Int.eq_ofNat_of_zero_le hx.1
  obtain ⟨b, rfl⟩ := Int.eq_ofNat_of_zero_le hy.1
  obtain ⟨e1, e2⟩ := zxor_n (a := a) (b := b) (by omega) (by omega)
  rw [e1]
  refine ⟨by omega, fun q => ?_, fun q => ?_⟩
  · have := xor_ne (a := a) (b := b) (by omega)
    omega
  · have : b = 0 := by omega
    subst this
    rw [Nat.xor_zero]
/-- the sum, begun anywhere -/
def smf (c : Int) (xs : List Int) : Int := xs.foldl (fun c b => (31 * c + b) % 65521) c
theorem smf_inj : ∀ (xs : List Int) (c d : Int), 0 ≤ c → c < 65521 → 0 ≤ d → d < 65521 → smf c xs = smf d xs → c = d
  | [], _, _, _, _, _, _, h => h
  | x :: xs, c, d, c0, c1, d0, d1, h => by
    have := smf_inj xs ((31 * c + x) % 65521) ((31 * d + x) % 65521) (by omega) (by omega) (by omega) (by omega) h
    omega
theorem smf_bent : ∀ (xs : List Int) (i : Nat) (c v : Int), byteL xs → i < xs.length → 0 ≤ v → v < 256 → v ≠ xs.getD i (-1) → 0 ≤ c → c < 65521 → smf c (xs.set i v) ≠ smf c xs
  | [], _, _, _, _, hi, _, _, _, _, _ => absurd hi (by simp)
  | x :: xs, 0, c, v, hb, _, v0, v1, hne, c0, c1 => by
    intro e
    have hx := hb x List.mem_cons_self
    have := smf_inj xs ((31 * c + v) % 65521) ((31 * c + x) % 65521) (by omega) (by omega) (by omega) (by omega) e
    have hne' : v ≠ x := hne
    omega
  | x :: xs, i + 1, c, v, hb, hi, v0, v1, hne, c0, c1 => by
    exact smf_bent xs i ((31 * c + x) % 65521) v (fun w hw => hb w (List.mem_cons_of_mem _ hw)) (by simp only [List.length_cons] at hi; omega) v0 v1 hne (by omega) (by omega)
theorem lset_o {xs : List Int} {i k : Nat} {v : Int} (hk : k ≠ i) : (xs.set i v).getD k (-1) = xs.getD k (-1) := by
  rw [List.getD_eq_getElem?_getD, List.getD_eq_getElem?_getD, List.getElem?_set_ne (Ne.symm hk)]
theorem lset_s {xs : List Int} {i : Nat} {v : Int} (hi : i < xs.length) : (xs.set i v).getD i (-1) = v := by
  rw [List.getD_eq_getElem?_getD, List.getElem?_set_self hi]
  rfl
theorem bent_no {kind : Int} {xs : List Int} {i : Nat} {v : Int} (hb : byteL xs) (hi : i < xs.length) (h2 : 2 ≤ xs.length) (hw : wholeL kind xs) (hv : 0 ≤ v ∧ v < 256) (hne : v ≠ xs.getD i (-1)) : ¬ wholeL kind (xs.set i v) := by
  rintro ⟨-, h⟩
  have hs := hw.2
  rw [List.length_set] at h
  by_cases q : i < xs.length - 2
  · have e1 : num (xs.set i v) (xs.length - 2) = num xs (xs.length - 2) := by
      unfold num
      rw [lset_o (by omega), lset_o (by omega)]
    rw [e1, ← hs, List.take_set] at h
    refine smf_bent (xs.take (xs.length - 2)) i 1 v (fun w z => hb w (List.mem_of_mem_take z)) (by rw [List.length_take]; omega) hv.1 hv.2 ?_ (by omega) (by omega) h
    rw [List.getD_eq_getElem?_getD, List.getElem?_take_of_lt q, ← List.getD_eq_getElem?_getD]
    exact hne
  · have e1 : (xs.set i v).take (xs.length - 2) = xs.take (xs.length - 2) := by
      rw [List.take_set, List.set_eq_of_length_le]
      rw [List.length_take]
      omega
    rw [e1, hs] at h
    unfold num at h
    have b1 := hb.at (i := xs.length - 2) (by omega)
    have b2 := hb.at (i := xs.length - 2 + 1) (by omega)
    by_cases z : i = xs.length - 2
    · subst z
      rw [lset_s (by omega), lset_o (by omega)] at h
      omega
    · have z2 : i = xs.length - 2 + 1 := by omega
      rw [z2] at h hne
      rw [lset_o (by omega), lset_s (by omega)] at h
      omega
theorem byteL_set {xs : List Int} {i : Nat} {v : Int} (hb : byteL xs) (hv : 0 ≤ v ∧ v < 256) : byteL (xs.set i v) := by
  intro w hw
  rcases List.mem_or_eq_of_mem_set hw with z | z
  · exact hb w z
  · rw [z]; exact hv
theorem isLs_set {g : Nat → Int} {xs : List Int} {i : Nat} {v : Int} (h : isLs g xs) : isLs (fup g i v) (xs.set i v) := by
  intro b w hw
  unfold fup
  by_cases q : b = i
  · subst q
    rw [if_pos rfl]
    have hb : b < (xs.set b v).length := (List.getElem?_eq_some_iff.mp hw).1
    rw [List.length_set] at hb
    rw [List.getElem?_set_self hb] at hw
    cases hw
    rfl
  · rw [if_neg q]
    rw [List.getElem?_set_ne (Ne.symm q)] at hw
    exact h b w hw
