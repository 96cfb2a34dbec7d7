/-! THE CLASS'S STATES: made, kept, begun anew -/
/-- a new screen at the next address, its cells behind it -/
def zNS (h : zH) : zH := zAs (zsR (znA (znO h 6 3) 1 192) 384 (zn h) (zn h + 1)) (zn h + 1) (fun k => if k < 192 then 32 else 0)
/-- a new state's screen: at the next address -/
def zNT (h : zH) (t : Nat) : zH := zsR (zNS h) 448 t (zn h)
section zNew
variable {h : zH} {t f x y : Nat} {Q : Option zV → zH → Prop}
theorem zn_NS : zn (zNS h) = zn h + 2 := rfl
theorem zs_NS : zs (zNS h) = zs h + 195 := rfl
theorem zK_NS : zK (zNS h) x = if x = zn h + 1 then (1, 192) else if x = zn h then (16, 0) else zK h x := rfl
theorem zI_NS : zI (zNS h) f x = if x = zn h then 0 else zI h f x := rfl
theorem zR_NS : zR (zNS h) f x = if f = 384 ∧ x = zn h then zn h + 1 else if x = zn h then 0 else zR h f x := rfl
theorem zA_NS : zA (zNS h) x y = if x = zn h + 1 then (if y < 192 then 32 else 0) else zA h x y := by
  show (if x = zn h + 1 then (if y < 192 then 32 else 0) else if x = zn h + 1 then 0 else zA h x y) = _
  by_cases hx : x = zn h + 1
  · rw [if_pos hx, if_pos hx]
  · rw [if_neg hx, if_neg hx, if_neg hx]
theorem zB_NS : zB (zNS h) x y = if x = zn h + 1 then 0 else zB h x y := rfl
theorem c_Sinit (hz : 2 ≤ zn h) (hQ : Q none (zNS h)) : zE 52 0 [some (.inr (zn h))] [] (znO h 6 3) Q := by
  rw [xX7_init_0, xX7_init_4, xX7_init_10, xX7_init_13]
  have e1 : zR (zsR (znA (znO h 6 3) 1 (192 : Int).toNat) 384 (zn h) (zn (znO h 6 3))) 384 (zn h) = zn h + 1 := if_pos ⟨rfl, rfl⟩
  have e2 : zK (zsR (znA (znO h 6 3) 1 (192 : Int).toNat) 384 (zn h) (zn (znO h 6 3))) (zn h) = (16, 0) := by
    rw [zK_sR, zK_nA, zn_nO, if_neg (by omega), zK_nO, if_pos rfl]
  have e3 : zK (zsR (znA (znO h 6 3) 1 (192 : Int).toNat) 384 (zn h) (zn (znO h 6 3))) (zn h + 1) = (1, 192) := by
    rw [zK_sR, zK_nA, zn_nO, if_pos rfl]
    rfl
  have e4 : zK (znA (znO h 6 3) 1 (192 : Int).toNat) (zn h) = (16, 0) := e2
  rw [e1]
  refine ⟨by omega, ⟨by omega, by omega⟩, by rw [e4], by rw [e2], c_fill (N := 192) e3 (by omega) ?_⟩
  simp only [Option.toList_none, List.nil_append]
  rw [xX7_init_22]
  have e5 : (fun k => if k < 192 then (32 : Int) else zA (zsR (znA (znO h 6 3) 1 (192 : Int).toNat) 384 (zn h) (zn (znO h 6 3))) (zn h + 1) k) = (fun k => if k < 192 then 32 else 0) := by
    funext k
    rw [zA_sR, zA_nA, zn_nO, if_pos rfl]
  rw [e5]
  exact hQ
theorem c_Tinit (hz : 2 ≤ zn h) (ht0 : t ≠ 0) (htn : t < zn h) (hk : (zK h t).1 = 17) (hQ : Q none (zNT h t)) : zE 64 0 [some (.inr t)] [] h Q := by
  rw [xX8_init_0, xX8_init_4, xX8_init_8]
  refine ⟨ht0, by omega, c_Sinit hz ?_⟩
  simp only [Option.toList_none, List.nil_append]
  rw [xX8_init_12, zK_NS, if_neg (by omega), if_neg (by omega), xX8_init_15]
  exact ⟨hk, hQ⟩
theorem c_become {n k : Int} (hk : (zK h t).1 = 17) (hQ : Q none (zsI (zsI h 449 t n) 450 t k)) : zE 65 0 [some (.inr t), some (.inl n), some (.inl k)] [] h Q := by
  rw [xX8_become_0, xX8_become_5, xX8_become_10]
  exact ⟨hk, hk, hQ⟩
/-- what keeping a state does: its numbers, its screen as another's, it is the newest -/
def zKp (h : zH) (so t o : Nat) (number took : Int) (n : Nat) : zH :=
  zsI (zsR (zScr (zsI (zsI h 449 t number) 450 t took) (zR h 448 t) (fun k => if k < 192 then zA h (zR h 384 o) k else zA h (zR h 384 (zR h 448 t)) k) (zI h 385 o) (zI h 386 o)) 513 so t) 514 so (n : Nat)
theorem c_keep_t {so ra n o : Nat} {number took : Int} (hso : (zK h so).1 = 18) (hsz : zI h 514 so = n) (hn : n < 32) (hk : (zK h t).1 = 17) (hs : sOK h (zR h 448 t)) (ho : sOK h o) (hto : zR h 448 t ≠ o)
    (hQ : Q none (zKp h so t o number took (n + 1))) : zE 71 53 [some (.inr so), some (.inl number), some (.inl took), some (.inr o), some (.inr t)] [] h Q := by
  rw [xX9_keep_53]
  refine ⟨hk, c_become hk ?_⟩
  simp only [Option.toList_none, List.nil_append]
  rw [xX9_keep_60]
  refine ⟨hk, hs.1, c_copyFrom hs ho hto ?_⟩
  simp only [Option.toList_none, List.nil_append]
  rw [xX9_keep_69, xX9_keep_75, xX9_keep_85]
  refine ⟨hso, hso, hso, ?_⟩
  have e1 : zI (zsR (zScr (zsI (zsI h 449 t number) 450 t took) (zR (zsI (zsI h 449 t number) 450 t took) 448 t) (fun k => if k < 192 then zA (zsI (zsI h 449 t number) 450 t took) (zR (zsI (zsI h 449 t number) 450 t took) 384 o) k else zA (zsI (zsI h 449 t number) 450 t took) (zR (zsI (zsI h 449 t number) 450 t took) 384 (zR (zsI (zsI h 449 t number) 450 t took) 448 t)) k) (zI (zsI (zsI h 449 t number) 450 t took) 385 o) (zI (zsI (zsI h 449 t number) 450 t took) 386 o)) 513 so t) 514 so = n := by
    rw [zI_sR, zI_Scr, if_neg (by omega), if_neg (by omega), zI_sI, if_neg (by omega), zI_sI, if_neg (by omega)]
    exact hsz
  rw [e1, zw_eq (by omega) (by omega)]
  have e2 : zI (zsI (zsI h 449 t number) 450 t took) 385 o = zI h 385 o := by
    rw [zI_sI, if_neg (by omega), zI_sI, if_neg (by omega)]
  have e3 : zI (zsI (zsI h 449 t number) 450 t took) 386 o = zI h 386 o := by
    rw [zI_sI, if_neg (by omega), zI_sI, if_neg (by omega)]
  rw [e2, e3]
  exact hQ
/-- States.keep where the next row is there already -/
theorem c_keep1 {so ra n o : Nat} {number took : Int} (hso : (zK h so).1 = 18) (hra : zR h 512 so = ra) (hkr : zK h ra = (2, 32)) (hsz : zI h 514 so = n) (hn : n < 32) (ht : zB h ra n = t) (ht0 : t ≠ 0) (hk : (zK h t).1 = 17) (hs : sOK h (zR h 448 t)) (ho : sOK h o) (hto : zR h 448 t ≠ o)
    (hQ : Q none (zKp h so t o number took (n + 1))) : zE 71 0 [some (.inr so), some (.inl number), some (.inl took), some (.inr o), none] [] h Q := by
  rw [xX9_keep_0, hsz, if_neg (by omega), xX9_keep_7, hsz, if_pos (by omega), xX9_keep_17, hsz, hra, hkr, Int.toNat_natCast, ht, if_pos ht0]
  exact ⟨hso, hso, hso, hso, ⟨by show 2 ≤ 2; omega, by show 2 ≤ 4; omega⟩, ⟨by omega, by show (n : Int) < (32 : Nat); omega⟩, c_keep_t (ra := ra) hso hsz hn hk hs ho hto hQ⟩
/-- States.keep where the next row is made -/
theorem c_keep0 {so ra n o : Nat} {number took : Int} (hso : (zK h so).1 = 18) (hra : zR h 512 so = ra) (hkr : zK h ra = (2, 32)) (hsz : zI h 514 so = n) (hn : n < 32) (ht : zB h ra n = 0) (ho : sOK h o) (hz : 2 ≤ zn h) (hson : so < zn h) (hran : ra < zn h) (hon : o < zn h) (hoc : zR h 384 o < zn h)
    (hQ : Q none (zKp (zsB (zNT (znO h 7 3) (zn h)) ra n (zn h)) so (zn h) o number took (n + 1))) : zE 71 0 [some (.inr so), some (.inl number), some (.inl took), some (.inr o), none] [] h Q := by
  rw [xX9_keep_0, hsz, if_neg (by omega), xX9_keep_7, hsz, if_pos (by omega), xX9_keep_17, hsz, hra, hkr, Int.toNat_natCast, ht, if_neg (fun q => q rfl), xX9_keep_33, xX9_keep_36]
  refine ⟨hso, hso, hso, hso, ⟨by show 2 ≤ 2; omega, by show 2 ≤ 4; omega⟩, ⟨by omega, by show (n : Int) < (32 : Nat); omega⟩, by omega, c_Tinit (by rw [zn_nO]; omega) (by omega) (by rw [zn_nO]; omega) (by rw [zK_nO, if_pos rfl]) ?_⟩
  simp only [Option.toList_none, List.nil_append]
  have hK : ∀ x, x < zn h → zK (zNT (znO h 7 3) (zn h)) x = zK h x := fun x hx => by
    show zK (zNS (znO h 7 3)) x = _
    rw [zK_NS, zn_nO, if_neg (by omega), if_neg (by omega), zK_nO, if_neg (by omega)]
  have hR : ∀ f x, x < zn h → zR (zNT (znO h 7 3) (zn h)) f x = zR h f x := fun f x hx => by
    unfold zNT
    rw [zR_sR, if_neg (by omega), zR_NS, zn_nO, if_neg (by omega), if_neg (by omega), zR_nO, if_neg (by omega)]
  have hI : ∀ f x, x < zn h → zI (zNT (znO h 7 3) (zn h)) f x = zI h f x := fun f x hx => by
    show zI (zNS (znO h 7 3)) f x = _
    rw [zI_NS, zn_nO, if_neg (by omega), zI_nO, if_neg (by omega)]
  have hKn : zK (zNT (znO h 7 3) (zn h)) (zn h) = (17, 0) := by
    show zK (zNS (znO h 7 3)) (zn h) = _
    rw [zK_NS, zn_nO, if_neg (by omega), if_neg (by omega), zK_nO, if_pos rfl]
  have hKs : zK (zNT (znO h 7 3) (zn h)) (zn h + 1) = (16, 0) := by
    show zK (zNS (znO h 7 3)) (zn h + 1) = _
    rw [zK_NS, zn_nO, if_neg (by omega), if_pos rfl]
  have hKc : zK (zNT (znO h 7 3) (zn h)) (zn h + 2) = (1, 192) := by
    show zK (zNS (znO h 7 3)) (zn h + 2) = _
    rw [zK_NS, zn_nO, if_pos rfl]
  have hRs : zR (zNT (znO h 7 3) (zn h)) 448 (zn h) = zn h + 1 := by
    unfold zNT
    rw [zR_sR, if_pos ⟨rfl, rfl⟩, zn_nO]
  have hRc : zR (zNT (znO h 7 3) (zn h)) 384 (zn h + 1) = zn h + 2 := by
    unfold zNT
    rw [zR_sR, if_neg (by omega), zR_NS, zn_nO, if_pos ⟨rfl, rfl⟩]
  rw [xX9_keep_40, hR _ _ hson, hra, hK _ hson, hK _ hran, hkr, hI _ _ hson, hsz, Int.toNat_natCast, hKn]
  refine ⟨hso, hso, ⟨by show 2 ≤ 2; omega, by show 2 ≤ 4; omega⟩, rfl, ⟨by omega, by show (n : Int) < (32 : Nat); omega⟩, ?_⟩
  refine c_keep_t (ra := ra) (n := n) ?_ ?_ hn ?_ ?_ ?_ ?_ hQ
  · rw [zK_sB, hK _ hson]; exact hso
  · rw [zI_sB, hI _ _ hson]; exact hsz
  · rw [zK_sB, hKn]
  · refine ⟨?_, ?_⟩
    · rw [zK_sB, zR_sB, hRs, hKs]
    · rw [zK_sB, zR_sB, hRs, hRc, hKc]
  · refine ⟨?_, ?_⟩
    · rw [zK_sB, hK _ hon]; exact ho.1
    · rw [zK_sB, zR_sB, hR _ _ hon, hK _ hoc]; exact ho.2
  · rw [zR_sB, hRs]; omega
/-- States.reset -/
theorem c_Sreset {so ra : Nat} (hso : (zK h so).1 = 18) (hra : zR h 512 so = ra) (hkr : zK h ra = (2, 32)) (ht : zB h ra 0 = t) (ht0 : t ≠ 0) (hk : (zK h t).1 = 17) (hs : sOK h (zR h 448 t))
    (hQ : Q none (zsI (zsR (zsI (zsI (zScr h (zR h 448 t) (s_blank (zA h (zR h 384 (zR h 448 t)))) 0 0) 449 t 0) 450 t 0) 513 so t) 514 so 1)) : zE 67 0 [some (.inr so), none] [] h Q := by
  rw [xX9_reset_0, hra, hkr, show (0 : Int).toNat = 0 from rfl, ht, if_pos ht0, xX9_reset_12]
  refine ⟨hso, ⟨by show 2 ≤ 2; omega, by show 2 ≤ 4; omega⟩, ⟨by omega, by show (0 : Int) < (32 : Nat); omega⟩, hk, hs.1, ?_⟩
  have hcl : zE 53 0 [some (.inr (zR h 448 t))] [] (zScr h (zR h 448 t) (zA h (zR h 384 (zR h 448 t))) (zI h 385 (zR h 448 t)) (zI h 386 (zR h 448 t))) (fun r h' => zE 67 19 [some (.inr so), some (.inr t)] (r.toList ++ []) h' Q) := by
    refine c_clear hs ?_
    simp only [Option.toList_none, List.nil_append]
    rw [xX9_reset_19]
    refine ⟨hk, c_become hk ?_⟩
    simp only [Option.toList_none, List.nil_append]
    rw [xX9_reset_25, xX9_reset_30, xX9_reset_35]
    exact ⟨hso, hso, hQ⟩
  rw [zScr_id] at hcl
  exact hcl
end zNew
