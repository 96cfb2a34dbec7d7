/-! THE SMALL MACHINE IS SOUND: where it comes to an end, the machine comes to the same -/
section zMain
variable {D : va_G} {cA : Nat → ClassId} {B b L : Nat} {xs : Nat → Int32} {M pc : Nat} {ls : zL} {st : List zV} {h : zH}
/-- what a step says: a move (the ways on carry back), an end, or a call -/
def zOk (D : va_G) (cA : Nat → ClassId) (B b L : Nat) (xs : Nat → Int32) (M pc : Nat) (ls : zL) (st : List zV) (h : zH) (o : zSR) : Prop := match o with
  | .inl q => (zn h ≤ zn q.2.2.2 ∧ zs h ≤ zs q.2.2.2) ∧ ∀ r h', zn q.2.2.2 ≤ zn h' → zs q.2.2.2 ≤ zs h' → zSnd D cA B b L xs M q.1 q.2.1 q.2.2.1 q.2.2.2 r h' → zSnd D cA B b L xs M pc ls st h r h'
  | .inr (.inl r) => zSnd D cA B b L xs M pc ls st h r h
  | .inr (.inr q) => ∀ r1 h1 r h', zn h ≤ zn h1 → zn h1 ≤ zn h' → zs h ≤ zs h1 → zs h1 ≤ zs h' → zSnd D cA B b L xs q.1 0 (zent q.1 q.2.1) [] h r1 h1 → zSnd D cA B b L xs M (pc + 3) ls (r1.toList ++ q.2.2) h1 r h' → zSnd D cA B b L xs M pc ls st h r h'
theorem zOk.mv {pc2 : Nat} {ls2 : zL} {st2 : List zV} {o : zSR} (q : zgo pc2 ls2 st2 h = some o) (k : ∀ r h', zn h ≤ zn h' → zs h ≤ zs h' → zSnd D cA B b L xs M pc2 ls2 st2 h r h' → zSnd D cA B b L xs M pc ls st h r h') : zOk D cA B b L xs M pc ls st h o := by
  rw [zgo_inv q]
  exact ⟨⟨Nat.le_refl _, Nat.le_refl _⟩, k⟩
theorem zOk.wr {pc2 : Nat} {ls2 : zL} {st2 : List zV} {h2 : zH} {o : zSR} (q : zgo pc2 ls2 st2 h2 = some o) (m1 : zn h ≤ zn h2) (m2 : zs h ≤ zs h2) (k : ∀ r h', zn h2 ≤ zn h' → zs h2 ≤ zs h' → zSnd D cA B b L xs M pc2 ls2 st2 h2 r h' → zSnd D cA B b L xs M pc ls st h r h') : zOk D cA B b L xs M pc ls st h o := by
  rw [zgo_inv q]
  exact ⟨⟨m1, m2⟩, k⟩
theorem zOk.br {P : Prop} [Decidable P] {p1 p2 : Nat} {st2 : List zV} {o : zSR} (q : (if P then zgo p1 ls st2 h else zgo p2 ls st2 h) = some o) (k : ∀ r h', (if P then zSnd D cA B b L xs M p1 ls st2 h r h' else zSnd D cA B b L xs M p2 ls st2 h r h') → zSnd D cA B b L xs M pc ls st h r h') : zOk D cA B b L xs M pc ls st h o := by
  by_cases hP : P
  · rw [if_pos hP] at q
    exact zOk.mv q (fun r h' _ _ kk => k r h' (by rw [if_pos hP]; exact kk))
  · rw [if_neg hP] at q
    exact zOk.mv q (fun r h' _ _ kk => k r h' (by rw [if_neg hP]; exact kk))
theorem zcall_inv {M1 n : Nat} {ok : List zV → Bool} {o : zSR} (q : zcall M M1 n st ok = some o) : ∃ as rest, o = .inr (.inr (M1, as, rest)) ∧ st = as.reverse ++ rest ∧ as.length = n ∧ rest.length ≤ 8 ∧ zrk M1 + 1 ≤ zrk M ∧ 19 + zml M1 + zlo M1 ≤ zlo M ∧ n ≤ zml M1 ∧ 1 ≤ M1 ∧ M1 < 177 ∧ ok as = true := by
  obtain ⟨⟨h1, h2, h3, h4, h5, h6, h7, h8⟩, h9⟩ := zif_inv q
  refine ⟨(st.take n).reverse, st.drop n, (Option.some.inj h9).symm, ?_, ?_, h2, h3, h4, h5, h6, h7, h8⟩
  · rw [List.reverse_reverse, List.take_append_drop]
  · rw [List.length_reverse, List.length_take]; omega
set_option maxHeartbeats 4000000 in
theorem zstep_ok {i : Instr} {o : zSR} (hd : zdec M pc = some i) (hs : zstep M i pc ls st h = some o) : zOk D cA B b L xs M pc ls st h o := by
  cases i with
  | iconst n =>
    obtain ⟨hn, q⟩ := zif_inv hs
    exact zOk.mv q (fun r h' _ _ k => zS_iconst hd hn k)
  | bipush n =>
    obtain ⟨hn, q⟩ := zif_inv hs
    exact zOk.mv q (fun r h' _ _ k => zS_bipush hd hn k)
  | sipush n =>
    obtain ⟨hn, q⟩ := zif_inv hs
    exact zOk.mv q (fun r h' _ _ k => zS_sipush hd hn k)
  | ldc ix =>
    obtain ⟨v, hv, q⟩ := zopt_inv hs
    obtain ⟨hn, q⟩ := zif_inv q
    exact zOk.mv q (fun r h' _ _ k => zS_ldc hd hv hn k)
  | aconst_null => exact zOk.mv hs (fun r h' _ _ k => zS_null hd k)
  | iload k0 =>
    obtain ⟨x, hv, q⟩ := zldI_inv hs
    exact zOk.mv q (fun r h' _ _ k => zS_iload hd hv k)
  | iload_n k0 =>
    obtain ⟨x, hv, q⟩ := zldI_inv hs
    exact zOk.mv q (fun r h' _ _ k => zS_iload_n hd hv k)
  | aload k0 =>
    obtain ⟨x, hv, q⟩ := zldR_inv hs
    exact zOk.mv q (fun r h' _ _ k => zS_aload hd hv k)
  | aload_n k0 =>
    obtain ⟨x, hv, q⟩ := zldR_inv hs
    exact zOk.mv q (fun r h' _ _ k => zS_aload_n hd hv k)
  | istore k0 =>
    obtain ⟨x, t, rfl, q⟩ := zb1_inv hs
    obtain ⟨hk, q⟩ := zif_inv q
    exact zOk.mv q (fun r h' _ _ k => zS_istore hd hk k)
  | istore_n k0 =>
    obtain ⟨x, t, rfl, q⟩ := zb1_inv hs
    obtain ⟨hk, q⟩ := zif_inv q
    exact zOk.mv q (fun r h' _ _ k => zS_istore_n hd hk k)
  | astore k0 =>
    obtain ⟨x, t, rfl, q⟩ := zr1_inv hs
    obtain ⟨hk, q⟩ := zif_inv q
    exact zOk.mv q (fun r h' _ _ k => zS_astore hd hk k)
  | astore_n k0 =>
    obtain ⟨x, t, rfl, q⟩ := zr1_inv hs
    obtain ⟨hk, q⟩ := zif_inv q
    exact zOk.mv q (fun r h' _ _ k => zS_astore_n hd hk k)
  | iinc k0 n =>
    obtain ⟨x, hv, q⟩ := zldI_inv hs
    exact zOk.mv q (fun r h' _ _ k => zS_iinc hd hv k)
  | iadd =>
    obtain ⟨x, y, t, rfl, q⟩ := zb2_inv hs
    exact zOk.mv q (fun r h' _ _ k => zS_iadd hd k)
  | isub =>
    obtain ⟨x, y, t, rfl, q⟩ := zb2_inv hs
    exact zOk.mv q (fun r h' _ _ k => zS_isub hd k)
  | imul =>
    obtain ⟨x, y, t, rfl, q⟩ := zb2_inv hs
    exact zOk.mv q (fun r h' _ _ k => zS_imul hd k)
  | iand =>
    obtain ⟨x, y, t, rfl, q⟩ := zb2_inv hs
    exact zOk.mv q (fun r h' _ _ k => zS_iand hd k)
  | ixor =>
    obtain ⟨x, y, t, rfl, q⟩ := zb2_inv hs
    exact zOk.mv q (fun r h' _ _ k => zS_ixor hd k)
  | ishr =>
    obtain ⟨x, y, t, rfl, q⟩ := zb2_inv hs
    exact zOk.mv q (fun r h' _ _ k => zS_ishr hd k)
  | idiv =>
    obtain ⟨x, y, t, rfl, q⟩ := zb2_inv hs
    obtain ⟨h0, q⟩ := zif_inv q
    exact zOk.mv q (fun r h' _ _ k => zS_idiv hd h0 k)
  | irem =>
    obtain ⟨x, y, t, rfl, q⟩ := zb2_inv hs
    obtain ⟨h0, q⟩ := zif_inv q
    exact zOk.mv q (fun r h' _ _ k => zS_irem hd h0 k)
  | dup =>
    obtain ⟨v, t, rfl, q⟩ := zv1_inv hs
    exact zOk.mv q (fun r h' _ _ k => zS_dup hd k)
  | dup2 =>
    obtain ⟨v, w, t, rfl, q⟩ := zv2_inv hs
    exact zOk.mv q (fun r h' _ _ k => zS_dup2 hd k)
  | pop =>
    obtain ⟨v, t, rfl, q⟩ := zv1_inv hs
    exact zOk.mv q (fun r h' _ _ k => zS_pop hd k)
  | goto off =>
    have hs : zjmp pc off (fun t => zgo t ls st h) = some o := hs
    obtain ⟨h0, q⟩ := zjmp_inv hs
    exact zOk.mv q (fun r h' _ _ k => zS_goto hd h0 k)
  | ifCond cd off =>
    cases cd with
    | eq =>
      obtain ⟨x, t, rfl, q⟩ := zb1_inv hs
      obtain ⟨h0, q⟩ := zjmp_inv q
      exact zOk.br q (fun r h' k => zS_if_eq hd h0 k)
    | ne =>
      obtain ⟨x, t, rfl, q⟩ := zb1_inv hs
      obtain ⟨h0, q⟩ := zjmp_inv q
      exact zOk.br q (fun r h' k => zS_if_ne hd h0 k)
    | lt =>
      obtain ⟨x, t, rfl, q⟩ := zb1_inv hs
      obtain ⟨h0, q⟩ := zjmp_inv q
      exact zOk.br q (fun r h' k => zS_if_lt hd h0 k)
    | ge =>
      obtain ⟨x, t, rfl, q⟩ := zb1_inv hs
      obtain ⟨h0, q⟩ := zjmp_inv q
      exact zOk.br q (fun r h' k => zS_if_ge hd h0 k)
    | gt =>
      obtain ⟨x, t, rfl, q⟩ := zb1_inv hs
      obtain ⟨h0, q⟩ := zjmp_inv q
      exact zOk.br q (fun r h' k => zS_if_gt hd h0 k)
    | le =>
      obtain ⟨x, t, rfl, q⟩ := zb1_inv hs
      obtain ⟨h0, q⟩ := zjmp_inv q
      exact zOk.br q (fun r h' k => zS_if_le hd h0 k)
  | if_icmp cd off =>
    cases cd with
    | eq =>
      obtain ⟨x, y, t, rfl, q⟩ := zb2_inv hs
      obtain ⟨h0, q⟩ := zjmp_inv q
      exact zOk.br q (fun r h' k => zS_icmp_eq hd h0 k)
    | ne =>
      obtain ⟨x, y, t, rfl, q⟩ := zb2_inv hs
      obtain ⟨h0, q⟩ := zjmp_inv q
      exact zOk.br q (fun r h' k => zS_icmp_ne hd h0 k)
    | lt =>
      obtain ⟨x, y, t, rfl, q⟩ := zb2_inv hs
      obtain ⟨h0, q⟩ := zjmp_inv q
      exact zOk.br q (fun r h' k => zS_icmp_lt hd h0 k)
    | ge =>
      obtain ⟨x, y, t, rfl, q⟩ := zb2_inv hs
      obtain ⟨h0, q⟩ := zjmp_inv q
      exact zOk.br q (fun r h' k => zS_icmp_ge hd h0 k)
    | gt =>
      obtain ⟨x, y, t, rfl, q⟩ := zb2_inv hs
      obtain ⟨h0, q⟩ := zjmp_inv q
      exact zOk.br q (fun r h' k => zS_icmp_gt hd h0 k)
    | le =>
      obtain ⟨x, y, t, rfl, q⟩ := zb2_inv hs
      obtain ⟨h0, q⟩ := zjmp_inv q
      exact zOk.br q (fun r h' k => zS_icmp_le hd h0 k)
  | ifnull off =>
    obtain ⟨a, t, rfl, q⟩ := zr1_inv hs
    obtain ⟨h0, q⟩ := zjmp_inv q
    exact zOk.br q (fun r h' k => zS_ifnull hd h0 k)
  | ifnonnull off =>
    obtain ⟨a, t, rfl, q⟩ := zr1_inv hs
    obtain ⟨h0, q⟩ := zjmp_inv q
    exact zOk.br q (fun r h' k => zS_ifnonnull hd h0 k)
  | tableswitch d lo hi offs =>
    obtain ⟨x, t, rfl, q⟩ := zb1_inv hs
    by_cases hx : x < lo ∨ hi < x
    · rw [if_pos hx] at q
      obtain ⟨h0, q⟩ := zjmp_inv q
      exact zOk.mv q (fun r h' _ _ k => zS_tableOut hd hx h0 k)
    · rw [if_neg hx] at q
      obtain ⟨off, ho, q⟩ := zopt_inv q
      obtain ⟨h0, q⟩ := zjmp_inv q
      exact zOk.mv q (fun r h' _ _ k => zS_tableIn hd hx ho h0 k)
  | getfield ix =>
    obtain ⟨w, hw, q⟩ := zopt_inv hs
    obtain ⟨a, t, rfl, q⟩ := zr1_inv q
    obtain ⟨hk, q⟩ := zif_inv q
    exact zOk.mv q (fun r h' _ _ k => zS_getfield hd hw hk k)
  | putfield ix =>
    obtain ⟨w, hw, q⟩ := zopt_inv hs
    obtain ⟨hf, q⟩ := zif_inv q
    by_cases hz : zir w.1 w.2 = true
    · rw [if_pos hz] at q
      obtain ⟨v, a, t, rfl, q⟩ := zrr_inv q
      obtain ⟨hk, q⟩ := zif_inv q
      exact zOk.wr q (Nat.le_refl _) (Nat.le_refl _) (fun r h' m2 m4 k => zS_putR hd hw hf hz hk m2 m4 k)
    · rw [if_neg hz] at q
      obtain ⟨x, a, t, rfl, q⟩ := zir1_inv q
      obtain ⟨⟨hk, h01⟩, q⟩ := zif_inv q
      exact zOk.wr q (Nat.le_refl _) (Nat.le_refl _) (fun r h' m2 m4 k => zS_putI hd hw hf hz hk h01 m2 m4 k)
  | iaload =>
    obtain ⟨i, a, t, rfl, q⟩ := zir1_inv hs
    obtain ⟨⟨hk, h0, hi⟩, q⟩ := zif_inv q
    exact zOk.mv q (fun r h' _ _ k => zS_iaload hd hk h0 hi k)
  | iastore =>
    obtain ⟨x, i, a, t, rfl, q⟩ := ziir_inv hs
    obtain ⟨⟨hk, h0, hi⟩, q⟩ := zif_inv q
    exact zOk.wr q (Nat.le_refl _) (Nat.le_refl _) (fun r h' m2 m4 k => zS_iastore hd hk h0 hi m2 m4 k)
  | aaload =>
    obtain ⟨i, a, t, rfl, q⟩ := zir1_inv hs
    obtain ⟨⟨hk, h0, hi⟩, q⟩ := zif_inv q
    exact zOk.mv q (fun r h' _ _ k => zS_aaload hd hk h0 hi k)
  | aastore =>
    obtain ⟨v, i, a, t, rfl, q⟩ := zrir_inv hs
    obtain ⟨⟨hk, hv, h0, hi⟩, q⟩ := zif_inv q
    exact zOk.wr q (Nat.le_refl _) (Nat.le_refl _) (fun r h' m2 m4 k => zS_aastore hd hk hv h0 hi m2 m4 k)
  | arraylength =>
    obtain ⟨a, t, rfl, q⟩ := zr1_inv hs
    obtain ⟨hk, q⟩ := zif_inv q
    exact zOk.mv q (fun r h' _ _ k => zS_alen hd hk k)
  | newarray ty =>
    cases ty with
    | int =>
      obtain ⟨n, t, rfl, q⟩ := zb1_inv hs
      obtain ⟨⟨h0, hn⟩, q⟩ := zif_inv q
      exact zOk.wr q (Nat.le_succ _) (Nat.le_add_right _ _) (fun r h' m2 m4 k => zS_newarray hd h0 hn m2 m4 k)
    | _ => exact nomatch (show (none : Option zSR) = some o from hs)
  | anewarray ix =>
    obtain ⟨c, hc, q⟩ := zopt_inv hs
    obtain ⟨n, t, rfl, q⟩ := zb1_inv q
    obtain ⟨⟨hc0, h0, hn⟩, q⟩ := zif_inv q
    exact zOk.wr q (Nat.le_succ _) (Nat.le_add_right _ _) (fun r h' m2 m4 k => zS_anewarray hd hc hc0 h0 hn m2 m4 k)
  | new ix =>
    obtain ⟨c, hc, q⟩ := zopt_inv hs
    exact zOk.wr q (Nat.le_succ _) (Nat.le_add_right _ _) (fun r h' m2 m4 k => zS_new hd hc m2 m4 k)
  | invokestatic ix =>
    obtain ⟨⟨kd, M1⟩, hw, q⟩ := zopt_inv hs
    dsimp only at q
    by_cases h01 : kd = 0 ∨ kd = 1
    · rw [if_pos h01] at q
      obtain ⟨as, rest, rfl, g1, g2, g3, g4, g5, g6, g7, g8, -⟩ := zcall_inv q
      refine fun r1 h1 r h' m1 m2 m3 m4 IH k => zS_static hd ?_ g1 g2 g3 g4 g5 (by omega) g7 g8 m1 m2 m3 m4 IH k
      rcases h01 with rfl | rfl
      · exact Or.inl hw
      · exact Or.inr hw
    · rw [if_neg h01] at q
      by_cases h6 : kd = 6
      · rw [if_pos h6] at q
        subst h6
        obtain ⟨x, y, t, rfl, q⟩ := zb2_inv q
        obtain ⟨⟨a1, a2, a3⟩, q⟩ := zif_inv q
        exact zOk.mv q (fun r h' m2 m4 k => zS_max hd hw a1 a2 a3 m2 m4 k)
      · rw [if_neg h6] at q
        by_cases h7 : kd = 7
        · rw [if_pos h7] at q
          subst h7
          obtain ⟨x, y, t, rfl, q⟩ := zb2_inv q
          obtain ⟨⟨a1, a2, a3⟩, q⟩ := zif_inv q
          exact zOk.mv q (fun r h' m2 m4 k => zS_min hd hw a1 a2 a3 m2 m4 k)
        · rw [if_neg h7] at q
          obtain ⟨⟨h5, a1, a2⟩, q5⟩ := zif_inv q
          have h5 : kd = 5 := h5
          clear q
          subst h5
          split at q5
          · obtain ⟨⟨⟨e1, e2, b0⟩, ⟨b1, b2⟩, b3, b4, b5⟩, q6⟩ := zif_inv q5
            clear q5
            subst e1; subst e2
            exact zOk.wr q6 (Nat.le_refl _) (Nat.le_refl _) (fun r h' m2 m4 k => zS_copy hd hw a1 a2 b0 b1 b2 b3 b4 b5 m2 m4 k)
          · cases q5
  | invokevirtual ix =>
    obtain ⟨⟨kd, M1⟩, hw, q⟩ := zopt_inv hs
    obtain ⟨h2, q⟩ := zif_inv q
    have h2 : kd = 2 := h2
    subst h2
    obtain ⟨as, rest, rfl, g1, g2, g3, g4, g5, g6, g7, g8, g9⟩ := zcall_inv q
    cases as with
    | nil => cases g9
    | cons v as =>
      cases v with
      | inl x => cases g9
      | inr a =>
        have g9' : Nat.beq (zK h a).1 (10 + zown M1) = true ∧ Nat.blt (zown M1) 11 = true := by simpa [zrcv] using g9
        have hk : (zK h a).1 = 10 + zown M1 := Nat.eq_of_beq_eq_true g9'.1
        have ho : zown M1 < 11 := Nat.blt_eq.mp g9'.2
        have hl : as.length = znp M1 := by simpa using g2
        exact fun r1 h1 r h' m1 m2 m3 m4 IH k => zS_virtual hd hw g1 hl g3 g4 g5 (by show as.length + 1 ≤ _; rw [hl]; exact g6) g7 g8 hk ho m1 m2 m3 m4 IH k
  | invokespecial ix =>
    obtain ⟨⟨kd, M1⟩, hw, q⟩ := zopt_inv hs
    dsimp only at q
    by_cases h3 : kd = 3
    · rw [if_pos h3] at q
      subst h3
      obtain ⟨as, rest, rfl, g1, g2, g3, g4, g5, g6, g7, g8, g9⟩ := zcall_inv q
      cases as with
      | nil => cases g9
      | cons v as =>
        cases v with
        | inl x => cases g9
        | inr a =>
          have ha : a ≠ 0 := by
            intro h0
            subst h0
            cases g9
          have hl : as.length = znp M1 := by simpa using g2
          exact fun r1 h1 r h' m1 m2 m3 m4 IH k => zS_special hd hw g1 hl g3 g4 g5 (by show as.length + 1 ≤ _; rw [hl]; exact g6) g7 g8 ha m1 m2 m3 m4 IH k
    · rw [if_neg h3] at q
      obtain ⟨⟨h4, a1, a2⟩, q4⟩ := zif_inv q
      have h4 : kd = 4 := h4
      clear q
      subst h4
      obtain ⟨a, t, rfl, q5⟩ := zr1_inv q4
      obtain ⟨⟨ha, h8⟩, q6⟩ := zif_inv q5
      exact zOk.mv q6 (fun r h' _ _ k => zS_objInit hd hw a1 a2 ha h8 k)
  | ireturn =>
    simp only [zstep] at hs
    split at hs
    · obtain ⟨hr, q⟩ := zif_inv hs
      cases q
      exact zS_ireturn hd hr
    · cases hs
  | areturn =>
    simp only [zstep] at hs
    split at hs
    · split at hs
      · rename_i hr
        cases hs
        exact zS_areturn hd hr
      · cases hs
    · cases hs
  | return_ =>
    simp only [zstep] at hs
    split at hs
    · split at hs
      · rename_i hr
        cases hs
        exact zS_return hd hr
      · cases hs
    · cases hs
  | _ => exact nomatch (show (none : Option zSR) = some o from hs)
theorem zsound : ∀ (n M pc : Nat) (ls : zL) (st : List zV) (h : zH) (r : Option zV) (h' : zH), zrun n M pc ls st h = some (r, h') → (zn h ≤ zn h' ∧ zs h ≤ zs h') ∧ zSnd D cA B b L xs M pc ls st h r h'
  | 0, M, pc, ls, st, h, r, h', hr => by cases hr
  | n + 1, M, pc, ls, st, h, r, h', hr => by
    unfold zrun at hr
    cases hd : zdec M pc with
    | none => rw [hd] at hr; cases hr
    | some i =>
      rw [hd] at hr
      dsimp only at hr
      cases hs : zstep M i pc ls st h with
      | none => rw [hs] at hr; cases hr
      | some o =>
        rw [hs] at hr
        have hok := zstep_ok (D := D) (cA := cA) (B := B) (b := b) (L := L) (xs := xs) hd hs
        cases o with
        | inl q =>
          dsimp only at hr
          obtain ⟨⟨m1, m2⟩, hk⟩ := hok
          obtain ⟨⟨m3, m4⟩, IH⟩ := zsound n M q.1 q.2.1 q.2.2.1 q.2.2.2 r h' hr
          exact ⟨⟨Nat.le_trans m1 m3, Nat.le_trans m2 m4⟩, hk r h' m3 m4 IH⟩
        | inr o =>
          cases o with
          | inl r1 =>
            cases hr
            exact ⟨⟨Nat.le_refl _, Nat.le_refl _⟩, hok⟩
          | inr q =>
            dsimp only at hr
            cases hc : zrun n q.1 0 (zent q.1 q.2.1) [] h with
            | none => rw [hc] at hr; cases hr
            | some w =>
              rw [hc] at hr
              dsimp only at hr
              obtain ⟨⟨m1, m2⟩, IH1⟩ := zsound n q.1 0 (zent q.1 q.2.1) [] h w.1 w.2 hc
              obtain ⟨⟨m3, m4⟩, IH2⟩ := zsound n M (pc + 3) ls (w.1.toList ++ q.2.2) w.2 r h' hr
              exact ⟨⟨Nat.le_trans m1 m3, Nat.le_trans m2 m4⟩, hok w.1 w.2 r h' m1 m3 m2 m4 IH1 IH2⟩
end zMain
