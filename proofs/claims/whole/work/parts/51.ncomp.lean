/-! THE CLASS'S NEAR END: compose -/
def kL (K : Nat → Int) : Nat → Nat → List Int
  | 0, _ => []
  | d + 1, i => K i :: kL K d (i + 1)
theorem kL_len (K : Nat → Int) : ∀ d i, (kL K d i).length = d
  | 0, _ => rfl
  | d + 1, i => by show (kL K d (i + 1)).length + 1 = d + 1; rw [kL_len K d (i + 1)]
def kHd (ad kn ty nu : Int) : List Int := [75, ad] ++ two kn ++ two ty ++ two nu
section zNcomp
variable {h : zH} {a so t l m kA : Nat} {Q : Option zV → zH → Prop}
theorem c_Ncompose_l {ty : Nat} (ha : (zK h a).1 = 15) (hk : lOK h l m) (h1 : zI h 324 a = ty) (hK : zR h 320 a = kA) (hkk : zK h kA = (1, 1000)) (hne : kA ≠ zR h 192 l) (hty : ty ≤ 1000) (hb : ∀ i, i < ty → 0 ≤ zA h kA i ∧ zA h kA i < 256) {l2 : Option zV} :
    ∀ (d i : Nat) (xs : List Int) (g : Nat → Int), i + d = ty → isLs g xs → xs.length + d < m →
    (∀ g', isLs g' (xs ++ kL (zA h kA) d i) → zE 48 89 [some (.inr a), some (.inr l), l2, some (.inl (ty : Int))] [] (zLet h l g' ((xs ++ kL (zA h kA) d i).length : Nat)) Q) →
    zE 48 58 [some (.inr a), some (.inr l), l2, some (.inl (i : Int))] [] (zLet h l g xs.length) Q := by
  intro d
  induction d with
  | zero =>
    intro i xs g hi hg hm hQ
    have e : i = ty := by omega
    subst e
    have q := hQ g
    unfold kL at q
    rw [List.append_nil] at q
    rw [xX6_compose_58, zI_Let_o (by decide), h1, if_pos (by omega)]
    exact ⟨ha, q hg⟩
  | succ d ih =>
    intro i xs g hi hg hm hQ
    unfold kL at hQ
    have hv := hb i (by omega)
    have eA : zA (zLet h l g xs.length) kA i = zA h kA i := if_neg hne
    rw [xX6_compose_58, zI_Let_o (by decide), h1, if_neg (by omega), xX6_compose_66, if_neg (by omega), xX6_compose_73, zR_Let, hK, Int.toNat_natCast, eA]
    refine ⟨ha, ha, ?_, ?_, hk.1, c_Lput8 hk (by omega) hg hv ?_⟩
    · rw [zK_Let, hkk]; exact Or.inl rfl
    · rw [zK_Let, hkk]; exact ⟨by omega, by show (i : Int) < (1000 : Nat); omega⟩
    intro g' hg'
    simp only [Option.toList_none, List.nil_append]
    rw [xX6_compose_83, zw_eq (by omega) (by omega)]
    refine ih (i + 1) _ g' (by omega) hg' (by rw [List.length_append, List.length_singleton]; omega) ?_
    simp only [List.append_assoc, List.cons_append, List.nil_append]
    exact hQ
theorem c_Ncompose {kn ty : Nat} {ad nu ck : Int} (ha : (zK h a).1 = 15) (hS : zR h 321 a = so) (hso : (zK h so).1 = 18) (ht : zR h 513 so = t) (hkt : (zK h t).1 = 17) (hk : lOK h l m) (hm : 1010 ≤ m)
    (h1 : zI h 324 a = ty) (h2 : zI h 325 a = kn) (h3 : zI h 330 a = ad) (h4 : zI h 449 t = nu) (b3 : 0 ≤ ad ∧ ad < 256) (b4 : 0 ≤ nu ∧ nu < 65536) (hkn : kn ≤ ty)
    (hK : zR h 320 a = kA) (hkk : zK h kA = (1, 1000)) (hne : kA ≠ zR h 192 l) (hty : ty ≤ 1000) (hb : ∀ i, i < ty → 0 ≤ zA h kA i ∧ zA h kA i < 256)
    (hB : byteL (kHd ad kn ty nu ++ kL (zA h kA) (ty - kn) kn))
    (hQ : ∀ g', isLs g' (kHd ad kn ty nu ++ kL (zA h kA) (ty - kn) kn ++ two (sm (kHd ad kn ty nu ++ kL (zA h kA) (ty - kn) kn))) →
      Q none (zsI (zsI (zsI (zLet h l g' ((kHd ad kn ty nu ++ kL (zA h kA) (ty - kn) kn ++ two (sm (kHd ad kn ty nu ++ kL (zA h kA) (ty - kn) kn))).length : Nat)) 326 a ty) 327 a ck) 329 a 0)) {l3 : Option zV} :
    zE 48 0 [some (.inr a), some (.inr l), some (.inl ck), l3] [] h Q := by
  rw [xX6_compose_0, zsI_Let0, xX6_compose_5]
  refine ⟨hk.1, hk.1, c_Lput8 (xs := []) hk (by show 0 < m; omega) (fun i v q => by cases q) (by omega) ?_⟩
  intro g1 q1
  simp only [Option.toList_none, List.nil_append]
  rw [xX6_compose_11, zI_Let_o (by decide), h3]
  refine ⟨ha, hk.1, c_Lput8 hk (by simp only [List.length_singleton]; omega) q1 b3 ?_⟩
  intro g2 q2
  simp only [Option.toList_none, List.nil_append]
  rw [xX6_compose_19, zI_Let_o (by decide), h2]
  refine ⟨ha, hk.1, c_LputNumber hk (by simp only [List.length_append, List.length_singleton]; omega) q2 (by omega) ?_⟩
  intro g3 q3
  simp only [Option.toList_none, List.nil_append]
  rw [xX6_compose_27, zI_Let_o (by decide), h1]
  refine ⟨ha, hk.1, c_LputNumber hk (by simp only [two, List.length_append, List.length_singleton, List.length_cons, List.length_nil]; omega) q3 (by omega) ?_⟩
  intro g4 q4
  simp only [Option.toList_none, List.nil_append]
  rw [xX6_compose_35, zR_Let, hS, ht, zI_Let_o (by decide), h4]
  refine ⟨ha, hso, hkt, hk.1, c_LputNumber hk (by simp only [two, List.length_append, List.length_singleton, List.length_cons, List.length_nil]; omega) q4 b4 ?_⟩
  intro g5 q5
  simp only [Option.toList_none, List.nil_append]
  have eH : [75] ++ [ad] ++ two (kn : Int) ++ two (ty : Int) ++ two nu = kHd ad kn ty nu := by
    unfold kHd; simp only [List.append_assoc, List.cons_append, List.nil_append]
  rw [eH] at q5 ⊢
  rw [xX6_compose_49, zI_Let_o (by decide), h2, xX6_compose_57, show max (kn : Int) 0 = kn by omega]
  refine ⟨ha, c_Ncompose_l ha hk h1 hK hkk hne hty hb (ty - kn) kn _ g5 (by omega) q5 (by show 8 + (ty - kn) < m; omega) ?_⟩
  intro g6 q6
  rw [xX6_compose_89]
  refine ⟨hk.1, c_Lseal hk (by rw [List.length_append, kL_len]; show 8 + (ty - kn) + 1 < m; omega) q6 hB ?_⟩
  intro g7 q7
  simp only [Option.toList_none, List.nil_append]
  rw [xX6_compose_93, zI_Let_o (by decide), h1, xX6_compose_101, xX6_compose_106, xX6_compose_111]
  exact ⟨ha, ha, ha, ha, Or.inl rfl, hQ g7 q7⟩
end zNcomp
