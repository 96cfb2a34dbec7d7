/-! THE CLASS'S FAR END: compose -/
def sHd (ad su nu tk r c : Int) : List Int := [83, ad] ++ two su ++ two nu ++ two tk ++ [r, c]
section zCompose
variable {h : zH} {a so ra n t s l m b : Nat} {Q : Option zV → zH → Prop}
theorem zI_Let_o {f x : Nat} {g : Nat → Int} {v : Int} (hf : f ≠ 193) : zI (zLet h l g v) f x = zI h f x := if_neg (fun e => hf e.1)
theorem zsI_Let0 : zsI h 193 l 0 = zLet h l (zA h (zR h 192 l)) 0 := by
  refine zH_ext rfl rfl rfl ?_ rfl rfl rfl
  funext x i
  show zA h x i = if x = zR h 192 l then zA h (zR h 192 l) i else zA h x i
  by_cases e : x = zR h 192 l
  · rw [if_pos e, e]
  · rw [if_neg e]
theorem c_compose {ad su nu tk r c ck : Int} (ha : (zK h a).1 = 10) (hS : zR h 1 a = so) (hr : rsOK h so ra n) (ht : zR h 513 so = t) (hkt : (zK h t).1 = 17) (hs : zR h 448 t = s) (hst : sOK h s)
    (hk : lOK h l m) (hm : 500 ≤ m) (h1 : zI h 9 a = ad) (h2 : zI h 6 a = su) (h3 : zI h 449 t = nu) (h4 : zI h 450 t = tk) (h5 : zI h 385 s = r) (h6 : zI h 386 s = c)
    (b1 : 0 ≤ ad ∧ ad < 256) (b2 : 0 ≤ su ∧ su < 65536) (b3 : 0 ≤ nu ∧ nu < 65536) (b4 : 0 ≤ tk ∧ tk < 65536) (b5 : 0 ≤ r ∧ r < 256) (b6 : 0 ≤ c ∧ c < 256)
    {j : Nat} (hf : fnd (fun i => zI h 449 (zB h ra i)) su n 0 = some j) (hb : zR h 448 (zB h ra j) = b) (hbo : sOK h b)
    (hna : zR h 384 b ≠ zR h 192 l) (hn : zR h 384 s ≠ zR h 192 l) (hY : ∀ i, i < 192 → 0 ≤ zCells h s i ∧ zCells h s i < 32768)
    (hB : byteL (sHd ad su nu tk r c ++ dDiff (zCells h b) (zCells h s)))
    (hQ : ∀ g', isLs g' (sHd ad su nu tk r c ++ dDiff (zCells h b) (zCells h s) ++ two (sm (sHd ad su nu tk r c ++ dDiff (zCells h b) (zCells h s)))) →
      Q none (zsI (zsI (zsI (zLet h l g' ((sHd ad su nu tk r c ++ dDiff (zCells h b) (zCells h s) ++ two (sm (sHd ad su nu tk r c ++ dDiff (zCells h b) (zCells h s)))).length : Nat)) 7 a nu) 8 a ck) 10 a 0)) {l3 l4 : Option zV} :
    zE 5 0 [some (.inr a), some (.inr l), some (.inl ck), l3, l4] [] h Q := by
  have hj := fnd_some hf
  have hz := hr.nz (i := j) (by omega)
  have hkj := hr.2.2.2.2.2.2.1 j (by omega)
  rw [xX1_compose_0, hS, ht, h2]
  refine ⟨ha, hr.1, ha, ha, hr.1, c_SFindN hr ?_⟩
  rw [hf]
  simp only [Option.toList_some, Option.toList_none, List.cons_append, List.nil_append]
  rw [xX1_compose_19, zsI_Let0, xX1_compose_26]
  refine ⟨hk.1, hk.1, c_Lput8 (xs := []) hk (by show 0 < m; omega) (fun i v q => by cases q) (by omega) ?_⟩
  intro g1 q1
  simp only [Option.toList_none, List.nil_append]
  rw [xX1_compose_32, zI_Let_o (by decide), h1]
  refine ⟨ha, hk.1, c_Lput8 hk (by simp only [List.length_singleton]; omega) q1 b1 ?_⟩
  intro g2 q2
  simp only [Option.toList_none, List.nil_append]
  rw [xX1_compose_40, zI_Let_o (by decide), h2]
  refine ⟨ha, hk.1, c_LputNumber hk (by simp only [List.length_append, List.length_singleton]; omega) q2 b2 ?_⟩
  intro g3 q3
  simp only [Option.toList_none, List.nil_append]
  rw [xX1_compose_48, zI_Let_o (by decide), h3]
  refine ⟨hkt, hk.1, c_LputNumber hk (by simp only [two, List.length_append, List.length_singleton, List.length_cons, List.length_nil]; omega) q3 b3 ?_⟩
  intro g4 q4
  simp only [Option.toList_none, List.nil_append]
  rw [xX1_compose_56, zI_Let_o (by decide), h4]
  refine ⟨hkt, hk.1, c_LputNumber hk (by simp only [two, List.length_append, List.length_singleton, List.length_cons, List.length_nil]; omega) q4 b4 ?_⟩
  intro g5 q5
  simp only [Option.toList_none, List.nil_append]
  rw [xX1_compose_64, zR_Let, hs, zI_Let_o (by decide), h5]
  refine ⟨hkt, hst.1, hk.1, c_Lput8 hk (by simp only [two, List.length_append, List.length_singleton, List.length_cons, List.length_nil]; omega) q5 b5 ?_⟩
  intro g6 q6
  simp only [Option.toList_none, List.nil_append]
  rw [xX1_compose_75, zR_Let, hs, zI_Let_o (by decide), h6]
  refine ⟨hkt, hst.1, hk.1, c_Lput8 hk (by simp only [two, List.length_append, List.length_singleton, List.length_cons, List.length_nil]; omega) q6 b6 ?_⟩
  intro g7 q7
  simp only [Option.toList_none, List.nil_append]
  have eH : [83] ++ [ad] ++ two su ++ two nu ++ two tk ++ [r] ++ [c] = sHd ad su nu tk r c := by
    unfold sHd; simp only [List.append_assoc, List.cons_append, List.nil_append]
  rw [eH] at q7 ⊢
  rw [xX1_compose_86, if_pos hz, xX1_compose_99, zR_Let, hb, xX1_compose_104, zR_Let, hs]
  refine ⟨hkj, hkt, c_append hk hbo hst hna hn hY q7 (by show 10 + 417 ≤ m; omega) ?_⟩
  intro g8 q8
  simp only [Option.toList_none, List.nil_append]
  rw [xX1_compose_111]
  have hL := dRows_len (scr (dSh (zCells h b) (zCells h s)) (zCells h b)) (zCells h s) 8 0
  refine ⟨hk.1, c_Lseal hk (by rw [List.length_append]; show 10 + ((dRows _ _ 8 0).length + 1) + 1 < m; omega) q8 hB ?_⟩
  intro g9 q9
  simp only [Option.toList_none, List.nil_append]
  rw [xX1_compose_115, zI_Let_o (by decide), h3, xX1_compose_123, xX1_compose_128, xX1_compose_133]
  exact ⟨hkt, ha, ha, ha, Or.inl rfl, hQ g9 q9⟩
end zCompose
