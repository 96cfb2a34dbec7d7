/-! WHAT NEVER CHANGES OF THE CLASS'S OBJECTS (printed by gen4.py) -/
def cOK (h : zH) : Prop := (zK h 0).1 = 0 ∧ (zK h 2).1 = 19 ∧ (zK h 3).1 = 15 ∧ (zK h 5).1 = 18 ∧ (zK h 10).1 = 12 ∧ (zK h 12).1 = 16 ∧ (zK h 14).1 = 10 ∧ (zK h 15).1 = 16 ∧ (zK h 17).1 = 18 ∧ (zK h 22).1 = 14 ∧ (zK h 24).1 = 14 ∧ (zK h 26).1 = 13 ∧ zK h 4 = (1, 1000) ∧ zK h 6 = (2, 32) ∧ zK h 11 = (4, 60) ∧ zK h 13 = (1, 192) ∧ zK h 16 = (1, 192) ∧ zK h 18 = (2, 32) ∧ zK h 23 = (3, 40) ∧ zK h 25 = (3, 40) ∧ zK h 27 = (1, 1010) ∧ zK h 28 = (1, 7) ∧ zR h 0 14 = 15 ∧ zR h 1 14 = 17 ∧ zR h 128 10 = 11 ∧ zR h 192 26 = 27 ∧ zR h 256 22 = 23 ∧ zR h 256 24 = 25 ∧ zR h 320 3 = 4 ∧ zR h 321 3 = 5 ∧ zR h 322 3 = 10 ∧ zR h 323 3 = 12 ∧ zR h 384 12 = 13 ∧ zR h 384 15 = 16 ∧ zR h 512 5 = 6 ∧ zR h 512 17 = 18 ∧ zR h 576 2 = 3 ∧ zR h 577 2 = 14 ∧ zR h 578 2 = 22 ∧ zR h 579 2 = 24 ∧ zR h 580 2 = 26 ∧ zR h 581 2 = 28
theorem cOK.k0 {h : zH} (hc : cOK h) : (zK h 0).1 = 0 := hc.1
theorem cOK.k2 {h : zH} (hc : cOK h) : (zK h 2).1 = 19 := hc.2.1
theorem cOK.k3 {h : zH} (hc : cOK h) : (zK h 3).1 = 15 := hc.2.2.1
theorem cOK.k5 {h : zH} (hc : cOK h) : (zK h 5).1 = 18 := hc.2.2.2.1
theorem cOK.k10 {h : zH} (hc : cOK h) : (zK h 10).1 = 12 := hc.2.2.2.2.1
theorem cOK.k12 {h : zH} (hc : cOK h) : (zK h 12).1 = 16 := hc.2.2.2.2.2.1
theorem cOK.k14 {h : zH} (hc : cOK h) : (zK h 14).1 = 10 := hc.2.2.2.2.2.2.1
theorem cOK.k15 {h : zH} (hc : cOK h) : (zK h 15).1 = 16 := hc.2.2.2.2.2.2.2.1
theorem cOK.k17 {h : zH} (hc : cOK h) : (zK h 17).1 = 18 := hc.2.2.2.2.2.2.2.2.1
theorem cOK.k22 {h : zH} (hc : cOK h) : (zK h 22).1 = 14 := hc.2.2.2.2.2.2.2.2.2.1
theorem cOK.k24 {h : zH} (hc : cOK h) : (zK h 24).1 = 14 := hc.2.2.2.2.2.2.2.2.2.2.1
theorem cOK.k26 {h : zH} (hc : cOK h) : (zK h 26).1 = 13 := hc.2.2.2.2.2.2.2.2.2.2.2.1
theorem cOK.k4 {h : zH} (hc : cOK h) : zK h 4 = (1, 1000) := hc.2.2.2.2.2.2.2.2.2.2.2.2.1
theorem cOK.k6 {h : zH} (hc : cOK h) : zK h 6 = (2, 32) := hc.2.2.2.2.2.2.2.2.2.2.2.2.2.1
theorem cOK.k11 {h : zH} (hc : cOK h) : zK h 11 = (4, 60) := hc.2.2.2.2.2.2.2.2.2.2.2.2.2.2.1
theorem cOK.k13 {h : zH} (hc : cOK h) : zK h 13 = (1, 192) := hc.2.2.2.2.2.2.2.2.2.2.2.2.2.2.2.1
theorem cOK.k16 {h : zH} (hc : cOK h) : zK h 16 = (1, 192) := hc.2.2.2.2.2.2.2.2.2.2.2.2.2.2.2.2.1
theorem cOK.k18 {h : zH} (hc : cOK h) : zK h 18 = (2, 32) := hc.2.2.2.2.2.2.2.2.2.2.2.2.2.2.2.2.2.1
theorem cOK.k23 {h : zH} (hc : cOK h) : zK h 23 = (3, 40) := hc.2.2.2.2.2.2.2.2.2.2.2.2.2.2.2.2.2.2.1
theorem cOK.k25 {h : zH} (hc : cOK h) : zK h 25 = (3, 40) := hc.2.2.2.2.2.2.2.2.2.2.2.2.2.2.2.2.2.2.2.1
theorem cOK.k27 {h : zH} (hc : cOK h) : zK h 27 = (1, 1010) := hc.2.2.2.2.2.2.2.2.2.2.2.2.2.2.2.2.2.2.2.2.1
theorem cOK.k28 {h : zH} (hc : cOK h) : zK h 28 = (1, 7) := hc.2.2.2.2.2.2.2.2.2.2.2.2.2.2.2.2.2.2.2.2.2.1
theorem cOK.r0_14 {h : zH} (hc : cOK h) : zR h 0 14 = 15 := hc.2.2.2.2.2.2.2.2.2.2.2.2.2.2.2.2.2.2.2.2.2.2.1
theorem cOK.r1_14 {h : zH} (hc : cOK h) : zR h 1 14 = 17 := hc.2.2.2.2.2.2.2.2.2.2.2.2.2.2.2.2.2.2.2.2.2.2.2.1
theorem cOK.r128_10 {h : zH} (hc : cOK h) : zR h 128 10 = 11 := hc.2.2.2.2.2.2.2.2.2.2.2.2.2.2.2.2.2.2.2.2.2.2.2.2.1
theorem cOK.r192_26 {h : zH} (hc : cOK h) : zR h 192 26 = 27 := hc.2.2.2.2.2.2.2.2.2.2.2.2.2.2.2.2.2.2.2.2.2.2.2.2.2.1
theorem cOK.r256_22 {h : zH} (hc : cOK h) : zR h 256 22 = 23 := hc.2.2.2.2.2.2.2.2.2.2.2.2.2.2.2.2.2.2.2.2.2.2.2.2.2.2.1
theorem cOK.r256_24 {h : zH} (hc : cOK h) : zR h 256 24 = 25 := hc.2.2.2.2.2.2.2.2.2.2.2.2.2.2.2.2.2.2.2.2.2.2.2.2.2.2.2.1
theorem cOK.r320_3 {h : zH} (hc : cOK h) : zR h 320 3 = 4 := hc.2.2.2.2.2.2.2.2.2.2.2.2.2.2.2.2.2.2.2.2.2.2.2.2.2.2.2.2.1
theorem cOK.r321_3 {h : zH} (hc : cOK h) : zR h 321 3 = 5 := hc.2.2.2.2.2.2.2.2.2.2.2.2.2.2.2.2.2.2.2.2.2.2.2.2.2.2.2.2.2.1
theorem cOK.r322_3 {h : zH} (hc : cOK h) : zR h 322 3 = 10 := hc.2.2.2.2.2.2.2.2.2.2.2.2.2.2.2.2.2.2.2.2.2.2.2.2.2.2.2.2.2.2.1
theorem cOK.r323_3 {h : zH} (hc : cOK h) : zR h 323 3 = 12 := hc.2.2.2.2.2.2.2.2.2.2.2.2.2.2.2.2.2.2.2.2.2.2.2.2.2.2.2.2.2.2.2.1
theorem cOK.r384_12 {h : zH} (hc : cOK h) : zR h 384 12 = 13 := hc.2.2.2.2.2.2.2.2.2.2.2.2.2.2.2.2.2.2.2.2.2.2.2.2.2.2.2.2.2.2.2.2.1
theorem cOK.r384_15 {h : zH} (hc : cOK h) : zR h 384 15 = 16 := hc.2.2.2.2.2.2.2.2.2.2.2.2.2.2.2.2.2.2.2.2.2.2.2.2.2.2.2.2.2.2.2.2.2.1
theorem cOK.r512_5 {h : zH} (hc : cOK h) : zR h 512 5 = 6 := hc.2.2.2.2.2.2.2.2.2.2.2.2.2.2.2.2.2.2.2.2.2.2.2.2.2.2.2.2.2.2.2.2.2.2.1
theorem cOK.r512_17 {h : zH} (hc : cOK h) : zR h 512 17 = 18 := hc.2.2.2.2.2.2.2.2.2.2.2.2.2.2.2.2.2.2.2.2.2.2.2.2.2.2.2.2.2.2.2.2.2.2.2.1
theorem cOK.r576_2 {h : zH} (hc : cOK h) : zR h 576 2 = 3 := hc.2.2.2.2.2.2.2.2.2.2.2.2.2.2.2.2.2.2.2.2.2.2.2.2.2.2.2.2.2.2.2.2.2.2.2.2.1
theorem cOK.r577_2 {h : zH} (hc : cOK h) : zR h 577 2 = 14 := hc.2.2.2.2.2.2.2.2.2.2.2.2.2.2.2.2.2.2.2.2.2.2.2.2.2.2.2.2.2.2.2.2.2.2.2.2.2.1
theorem cOK.r578_2 {h : zH} (hc : cOK h) : zR h 578 2 = 22 := hc.2.2.2.2.2.2.2.2.2.2.2.2.2.2.2.2.2.2.2.2.2.2.2.2.2.2.2.2.2.2.2.2.2.2.2.2.2.2.1
theorem cOK.r579_2 {h : zH} (hc : cOK h) : zR h 579 2 = 24 := hc.2.2.2.2.2.2.2.2.2.2.2.2.2.2.2.2.2.2.2.2.2.2.2.2.2.2.2.2.2.2.2.2.2.2.2.2.2.2.2.1
theorem cOK.r580_2 {h : zH} (hc : cOK h) : zR h 580 2 = 26 := hc.2.2.2.2.2.2.2.2.2.2.2.2.2.2.2.2.2.2.2.2.2.2.2.2.2.2.2.2.2.2.2.2.2.2.2.2.2.2.2.2.1
theorem cOK.r581_2 {h : zH} (hc : cOK h) : zR h 581 2 = 28 := hc.2.2.2.2.2.2.2.2.2.2.2.2.2.2.2.2.2.2.2.2.2.2.2.2.2.2.2.2.2.2.2.2.2.2.2.2.2.2.2.2.2
theorem cOK.fr {h h' : zH} (hc : cOK h) (hK : ∀ x, x < 48 → zK h' x = zK h x) (hR : ∀ f x, x < 48 → f ≠ 513 → zR h' f x = zR h f x) : cOK h' := by
  refine ⟨?_, ?_, ?_, ?_, ?_, ?_, ?_, ?_, ?_, ?_, ?_, ?_, ?_, ?_, ?_, ?_, ?_, ?_, ?_, ?_, ?_, ?_, ?_, ?_, ?_, ?_, ?_, ?_, ?_, ?_, ?_, ?_, ?_, ?_, ?_, ?_, ?_, ?_, ?_, ?_, ?_, ?_⟩
  · rw [hK _ (by decide)]; exact hc.k0
  · rw [hK _ (by decide)]; exact hc.k2
  · rw [hK _ (by decide)]; exact hc.k3
  · rw [hK _ (by decide)]; exact hc.k5
  · rw [hK _ (by decide)]; exact hc.k10
  · rw [hK _ (by decide)]; exact hc.k12
  · rw [hK _ (by decide)]; exact hc.k14
  · rw [hK _ (by decide)]; exact hc.k15
  · rw [hK _ (by decide)]; exact hc.k17
  · rw [hK _ (by decide)]; exact hc.k22
  · rw [hK _ (by decide)]; exact hc.k24
  · rw [hK _ (by decide)]; exact hc.k26
  · rw [hK _ (by decide)]; exact hc.k4
  · rw [hK _ (by decide)]; exact hc.k6
  · rw [hK _ (by decide)]; exact hc.k11
  · rw [hK _ (by decide)]; exact hc.k13
  · rw [hK _ (by decide)]; exact hc.k16
  · rw [hK _ (by decide)]; exact hc.k18
  · rw [hK _ (by decide)]; exact hc.k23
  · rw [hK _ (by decide)]; exact hc.k25
  · rw [hK _ (by decide)]; exact hc.k27
  · rw [hK _ (by decide)]; exact hc.k28
  · rw [hR _ _ (by decide) (by decide)]; exact hc.r0_14
  · rw [hR _ _ (by decide) (by decide)]; exact hc.r1_14
  · rw [hR _ _ (by decide) (by decide)]; exact hc.r128_10
  · rw [hR _ _ (by decide) (by decide)]; exact hc.r192_26
  · rw [hR _ _ (by decide) (by decide)]; exact hc.r256_22
  · rw [hR _ _ (by decide) (by decide)]; exact hc.r256_24
  · rw [hR _ _ (by decide) (by decide)]; exact hc.r320_3
  · rw [hR _ _ (by decide) (by decide)]; exact hc.r321_3
  · rw [hR _ _ (by decide) (by decide)]; exact hc.r322_3
  · rw [hR _ _ (by decide) (by decide)]; exact hc.r323_3
  · rw [hR _ _ (by decide) (by decide)]; exact hc.r384_12
  · rw [hR _ _ (by decide) (by decide)]; exact hc.r384_15
  · rw [hR _ _ (by decide) (by decide)]; exact hc.r512_5
  · rw [hR _ _ (by decide) (by decide)]; exact hc.r512_17
  · rw [hR _ _ (by decide) (by decide)]; exact hc.r576_2
  · rw [hR _ _ (by decide) (by decide)]; exact hc.r577_2
  · rw [hR _ _ (by decide) (by decide)]; exact hc.r578_2
  · rw [hR _ _ (by decide) (by decide)]; exact hc.r579_2
  · rw [hR _ _ (by decide) (by decide)]; exact hc.r580_2
  · rw [hR _ _ (by decide) (by decide)]; exact hc.r581_2
