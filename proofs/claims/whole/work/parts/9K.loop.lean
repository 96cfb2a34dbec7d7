/-! THE LAW -/
section lLoop
variable {L : Nat} {g : Nat → Int} {Q : Option zV → zH → Prop}
theorem l_loop (hL : L ≤ 2560) (hg : ∀ i, -2147483648 ≤ g i ∧ g i < 2147483648) (hQ : ∀ h', zn h' ≤ 600000 → zs h' ≤ 7302250 → Q (some (.inl 1)) h') : ∀ (d : Nat) {h : zH} {x3 B : Int} {N M : Nat}, 0 ≤ x3 → (L : Int) ≤ x3 + 5 * d → d ≤ 512 → Inv L g B N M h → B + 95 * d ≤ 50000 → N + 170 * d ≤ 100000 → M + 10500 * d ≤ 6000000 → zE 0 18 [some (.inr 1), some (.inr 2), some (.inr 29), some (.inl x3)] [] h Q := by
  intro d
  induction d with
  | zero =>
    intro h x3 B N M h0 h1 hd V hB hN hM
    obtain ⟨w, c, l, R, hm, hR, hG, hK, hA⟩ := id V
    rw [xL_law_18, hK]
    refine ⟨⟨by show 1 ≤ 5; decide, by show 5 ≤ 5; decide⟩, ?_⟩
    have e : zw ((((5, L) : Nat × Nat).2 : Int) - 5) = (L : Int) - 5 := zw_eq (by show -2147483648 ≤ (L : Int) - 5; omega) (by show (L : Int) - 5 < 2147483648; omega)
    rw [e, if_pos (by omega), xL_law_704]
    have z1 := R.2.2.2.2.2.2.2.2.2.1
    exact ⟨Or.inr rfl, hQ h (by have := z1.2.2.1; omega) (by have := z1.2.2.2; omega)⟩
  | succ d ih =>
    intro h x3 B N M h0 h1 hd V hB hN hM
    obtain ⟨w, c, l, R, hm, hR, hG, hK, hA⟩ := id V
    rw [xL_law_18, hK]
    refine ⟨⟨by show 1 ≤ 5; decide, by show 5 ≤ 5; decide⟩, ?_⟩
    have e : zw ((((5, L) : Nat × Nat).2 : Int) - 5) = (L : Int) - 5 := zw_eq (by show -2147483648 ≤ (L : Int) - 5; omega) (by show (L : Int) - 5 < 2147483648; omega)
    rw [e]
    by_cases z : (L : Int) - 5 < x3
    · rw [if_pos z, xL_law_704]
      have z1 := R.2.2.2.2.2.2.2.2.2.1
      exact ⟨Or.inr rfl, hQ h (by have := z1.2.2.1; omega) (by have := z1.2.2.2; omega)⟩
    · rw [if_neg z, xL_law_26, hK]
      have e698 : ∀ {h' : zH} {B' : Int} {N' M' : Nat}, Inv L g B' N' M' h' → B' ≤ B + 95 → N' ≤ N + 170 → M' ≤ M + 10500 → zE 0 698 [some (.inr 1), some (.inr 2), some (.inr 29), some (.inl x3)] [] h' Q := by
        intro h' B' N' M' V' b1 b2 b3
        rw [xL_law_698, zw_eq (by omega) (by omega)]
        exact ih (by omega) (by omega) (by omega) V' (by omega) (by omega) (by omega)
      have nx : Nxt L g B N M x3 Q := fun h' V' => e698 (B' := B + 95) (N' := N + 170) (M' := M + 10500) V' (Int.le_refl _) (Nat.le_refl _) (Nat.le_refl _)
      have hx : 0 ≤ x3 ∧ x3 + 5 ≤ (L : Int) ∧ L ≤ 2560 := by omega
      have hB5 : B ≤ 50000 := by omega
      refine ⟨Or.inr rfl, ⟨h0, by show x3 < (L : Int); omega⟩, ?_⟩
      by_cases y : zand (zA h 1 x3.toNat) 31 < 0 ∨ 19 < zand (zA h 1 x3.toNat) 31
      · rw [if_pos y]
        exact e698 V (by omega) (by omega) (by omega)
      · rw [if_neg y]
        generalize zand (zA h 1 x3.toNat) 31 = v at y ⊢
        have hv : v = 0 ∨ v = 1 ∨ v = 2 ∨ v = 3 ∨ v = 4 ∨ v = 5 ∨ v = 6 ∨ v = 7 ∨ v = 8 ∨ v = 9 ∨ v = 10 ∨ v = 11 ∨ v = 12 ∨ v = 13 ∨ v = 14 ∨ v = 15 ∨ v = 16 ∨ v = 17 ∨ v = 18 ∨ v = 19 := by omega
        rcases hv with q | q | q | q | q | q | q | q | q | q | q | q | q | q | q | q | q | q | q | q <;> subst q
        · exact o_open V hB5 hx hg nx
        · exact o_program V hB5 hx hg nx
        · exact o_key V hB5 hx hg nx
        · exact o_write V hB5 hx hg nx
        · exact o_move V hB5 hx hg nx
        · exact o_wipe V hB5 hx hg nx
        · exact o_scroll V hB5 hx hg nx
        · exact o_pen V hB5 hx hg nx
        · exact o_tick V hB5 hx hg nx
        · exact o_round V hB5 hx hg nx
        · exact o_carry V hB5 hx hg nx
        · exact o_roam V hB5 hx hg nx
        · exact o_cell V hB5 hx hg nx
        · exact o_cursor V hB5 hx hg nx
        · exact o_alike V hB5 hx hg nx
        · exact o_state V hB5 hx hg nx
        · exact o_kept V hB5 hx hg nx
        · exact o_guess V hB5 hx hg nx
        · exact o_letter V hB5 hx hg nx
        · exact o_count V hB5 hx hg nx
theorem f29_M {h h' : zH} {z d : Nat} {I : Nat → Int} {A : Nat → Nat → Int} (F : f29 h h' z d) : f29 h (zM h' I A) z d := by
  obtain ⟨a1, a2, a3, a4, a5, a6, a7, a8, a9⟩ := F
  exact ⟨a1, a2, a3, a4, fun f x hx => (zI_Mp (by omega)).trans (a5 f x hx), a6, fun a ha => (zA_Mp (by omega)).trans (a7 a ha), a8, a9⟩
theorem k23_K : zK (k23 L g) 1 = (5, L) := rfl
theorem k23_A : zA (k23 L g) 1 = g := by
  funext i
  rfl
theorem l_law (hL : L ≤ 2560) (hg : ∀ i, -2147483648 ≤ g i ∧ g i < 2147483648) (hQ : ∀ h', zn h' ≤ 600000 → zs h' ≤ 7302250 → Q (some (.inl 1)) h') : zE 0 0 zls0 [] (zh0 L g) Q := by
  show zE 0 0 [some (.inr 1), none, none, none] [] (zh0 L g) Q
  rw [xL_law_0, xL_law_3]
  refine ⟨by show 2 ≠ 0; decide, i_class fun h1 S1 => ?_⟩
  simp only [Option.toList_none, List.nil_append]
  obtain ⟨hc, s0, s1, g1, l0', l1', z1, m1⟩ := id S1.1
  have hz : zn h1 = 29 := Nat.le_antisymm z1.2.2.1 z1.1
  rw [xL_law_7, hz, xL_law_11]
  refine ⟨by decide, i_model hz fun I A hR => ?_⟩
  simp only [Option.toList_none, List.nil_append]
  have F : f29 h1 (zM (j19 h1) I A) 48 117370 := f29_M (j_f hz (fun x hx => z1.2.1 x (by omega)))
  have S2 := S1.grow F
  have RC := S2.toC
  have G0 : Good 1 (c0 0 2 5) l0 := good_0 (by unfold openOK; omega)
  have hm : mOK (zM (j19 h1) I A) := mOK_M.2 (j_ok hz)
  have k1 : zK h1 1 = (5, L) := m1.2.2.2.2.1.trans k23_K
  have a1 : zA h1 1 = g := m1.2.2.2.2.2.trans k23_A
  have V : Inv L g 1 48 (3057 + 117370) (zM (j19 h1) I A) := ⟨w0, c0 0 2 5, l0, RC, hm, hR.eq G0 (fun f _ => zI_Mq) (fun a p1 p2 => zA_Mq p1 p2), G0, (F.2.2.2.1 1 (by decide)).trans k1, (F.2.2.2.2.2.2.1 1 (by decide)).trans a1⟩
  rw [xL_law_15]
  have e2 : zn (zh0 L g) = 2 := rfl
  rw [e2]
  exact l_loop hL hg hQ 512 (by omega) (by omega) (Nat.le_refl _) V (by omega) (by omega) (by omega)
theorem l_start {L : Nat} {xs : Nat → Int32} (hL : L ≤ 2560) : zE 0 0 zls0 [] (zh0 L (fun i => (xs i).toInt)) (fun r h' => r = some (.inl 1) ∧ zn h' ≤ 600000 ∧ zs h' ≤ 7302250) :=
  l_law hL (fun i => z32 (xs i)) (fun h' h1 h2 => ⟨rfl, h1, h2⟩)
end lLoop
