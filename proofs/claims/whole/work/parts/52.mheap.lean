/-! THE MODEL'S HEAP: its fields (object 29) and its arrays (30 to 47) as functions -/
def zM (h : zH) (I : Nat → Int) (A : Nat → Nat → Int) : zH := (zK h, fun f x => if x = 29 then I f else zI h f x, zR h, fun x i => if 29 < x ∧ x < 48 then A x i else zA h x i, zB h, zn h, zs h)
def mOK (h : zH) : Prop := (zK h 29).1 = 20 ∧ zR h 640 29 = 30 ∧ zR h 641 29 = 31 ∧ zR h 642 29 = 32 ∧ zR h 643 29 = 33 ∧ zR h 644 29 = 34 ∧ zR h 645 29 = 35 ∧ zR h 660 29 = 36 ∧ zR h 669 29 = 37 ∧ zR h 670 29 = 38 ∧ zR h 671 29 = 39 ∧ zR h 672 29 = 40 ∧ zR h 673 29 = 41 ∧ zR h 680 29 = 42 ∧ zR h 681 29 = 43 ∧ zR h 682 29 = 44 ∧ zR h 683 29 = 45 ∧ zR h 684 29 = 46 ∧ zR h 685 29 = 47 ∧ zK h 30 = (1, 13248) ∧ zK h 31 = (1, 13248) ∧ zK h 32 = (1, 69) ∧ zK h 33 = (1, 69) ∧ zK h 34 = (1, 69) ∧ zK h 35 = (1, 69) ∧ zK h 36 = (1, 1000) ∧ zK h 37 = (1, 10) ∧ zK h 38 = (1, 2) ∧ zK h 39 = (1, 88000) ∧ zK h 40 = (1, 80) ∧ zK h 41 = (1, 1100) ∧ zK h 42 = (1, 60) ∧ zK h 43 = (1, 60) ∧ zK h 44 = (1, 60) ∧ zK h 45 = (1, 60) ∧ zK h 46 = (1, 60) ∧ zK h 47 = (1, 60)
theorem mOK.k29 {h : zH} (hm : mOK h) : (zK h 29).1 = 20 := hm.1
theorem mOK.r640 {h : zH} (hm : mOK h) : zR h 640 29 = 30 := hm.2.1
theorem mOK.r641 {h : zH} (hm : mOK h) : zR h 641 29 = 31 := hm.2.2.1
theorem mOK.r642 {h : zH} (hm : mOK h) : zR h 642 29 = 32 := hm.2.2.2.1
theorem mOK.r643 {h : zH} (hm : mOK h) : zR h 643 29 = 33 := hm.2.2.2.2.1
theorem mOK.r644 {h : zH} (hm : mOK h) : zR h 644 29 = 34 := hm.2.2.2.2.2.1
theorem mOK.r645 {h : zH} (hm : mOK h) : zR h 645 29 = 35 := hm.2.2.2.2.2.2.1
theorem mOK.r660 {h : zH} (hm : mOK h) : zR h 660 29 = 36 := hm.2.2.2.2.2.2.2.1
theorem mOK.r669 {h : zH} (hm : mOK h) : zR h 669 29 = 37 := hm.2.2.2.2.2.2.2.2.1
theorem mOK.r670 {h : zH} (hm : mOK h) : zR h 670 29 = 38 := hm.2.2.2.2.2.2.2.2.2.1
theorem mOK.r671 {h : zH} (hm : mOK h) : zR h 671 29 = 39 := hm.2.2.2.2.2.2.2.2.2.2.1
theorem mOK.r672 {h : zH} (hm : mOK h) : zR h 672 29 = 40 := hm.2.2.2.2.2.2.2.2.2.2.2.1
theorem mOK.r673 {h : zH} (hm : mOK h) : zR h 673 29 = 41 := hm.2.2.2.2.2.2.2.2.2.2.2.2.1
theorem mOK.r680 {h : zH} (hm : mOK h) : zR h 680 29 = 42 := hm.2.2.2.2.2.2.2.2.2.2.2.2.2.1
theorem mOK.r681 {h : zH} (hm : mOK h) : zR h 681 29 = 43 := hm.2.2.2.2.2.2.2.2.2.2.2.2.2.2.1
theorem mOK.r682 {h : zH} (hm : mOK h) : zR h 682 29 = 44 := hm.2.2.2.2.2.2.2.2.2.2.2.2.2.2.2.1
theorem mOK.r683 {h : zH} (hm : mOK h) : zR h 683 29 = 45 := hm.2.2.2.2.2.2.2.2.2.2.2.2.2.2.2.2.1
theorem mOK.r684 {h : zH} (hm : mOK h) : zR h 684 29 = 46 := hm.2.2.2.2.2.2.2.2.2.2.2.2.2.2.2.2.2.1
theorem mOK.r685 {h : zH} (hm : mOK h) : zR h 685 29 = 47 := hm.2.2.2.2.2.2.2.2.2.2.2.2.2.2.2.2.2.2.1
theorem mOK.k30 {h : zH} (hm : mOK h) : zK h 30 = (1, 13248) := hm.2.2.2.2.2.2.2.2.2.2.2.2.2.2.2.2.2.2.2.1
theorem mOK.k31 {h : zH} (hm : mOK h) : zK h 31 = (1, 13248) := hm.2.2.2.2.2.2.2.2.2.2.2.2.2.2.2.2.2.2.2.2.1
theorem mOK.k32 {h : zH} (hm : mOK h) : zK h 32 = (1, 69) := hm.2.2.2.2.2.2.2.2.2.2.2.2.2.2.2.2.2.2.2.2.2.1
theorem mOK.k33 {h : zH} (hm : mOK h) : zK h 33 = (1, 69) := hm.2.2.2.2.2.2.2.2.2.2.2.2.2.2.2.2.2.2.2.2.2.2.1
theorem mOK.k34 {h : zH} (hm : mOK h) : zK h 34 = (1, 69) := hm.2.2.2.2.2.2.2.2.2.2.2.2.2.2.2.2.2.2.2.2.2.2.2.1
theorem mOK.k35 {h : zH} (hm : mOK h) : zK h 35 = (1, 69) := hm.2.2.2.2.2.2.2.2.2.2.2.2.2.2.2.2.2.2.2.2.2.2.2.2.1
theorem mOK.k36 {h : zH} (hm : mOK h) : zK h 36 = (1, 1000) := hm.2.2.2.2.2.2.2.2.2.2.2.2.2.2.2.2.2.2.2.2.2.2.2.2.2.1
theorem mOK.k37 {h : zH} (hm : mOK h) : zK h 37 = (1, 10) := hm.2.2.2.2.2.2.2.2.2.2.2.2.2.2.2.2.2.2.2.2.2.2.2.2.2.2.1
theorem mOK.k38 {h : zH} (hm : mOK h) : zK h 38 = (1, 2) := hm.2.2.2.2.2.2.2.2.2.2.2.2.2.2.2.2.2.2.2.2.2.2.2.2.2.2.2.1
theorem mOK.k39 {h : zH} (hm : mOK h) : zK h 39 = (1, 88000) := hm.2.2.2.2.2.2.2.2.2.2.2.2.2.2.2.2.2.2.2.2.2.2.2.2.2.2.2.2.1
theorem mOK.k40 {h : zH} (hm : mOK h) : zK h 40 = (1, 80) := hm.2.2.2.2.2.2.2.2.2.2.2.2.2.2.2.2.2.2.2.2.2.2.2.2.2.2.2.2.2.1
theorem mOK.k41 {h : zH} (hm : mOK h) : zK h 41 = (1, 1100) := hm.2.2.2.2.2.2.2.2.2.2.2.2.2.2.2.2.2.2.2.2.2.2.2.2.2.2.2.2.2.2.1
theorem mOK.k42 {h : zH} (hm : mOK h) : zK h 42 = (1, 60) := hm.2.2.2.2.2.2.2.2.2.2.2.2.2.2.2.2.2.2.2.2.2.2.2.2.2.2.2.2.2.2.2.1
theorem mOK.k43 {h : zH} (hm : mOK h) : zK h 43 = (1, 60) := hm.2.2.2.2.2.2.2.2.2.2.2.2.2.2.2.2.2.2.2.2.2.2.2.2.2.2.2.2.2.2.2.2.1
theorem mOK.k44 {h : zH} (hm : mOK h) : zK h 44 = (1, 60) := hm.2.2.2.2.2.2.2.2.2.2.2.2.2.2.2.2.2.2.2.2.2.2.2.2.2.2.2.2.2.2.2.2.2.1
theorem mOK.k45 {h : zH} (hm : mOK h) : zK h 45 = (1, 60) := hm.2.2.2.2.2.2.2.2.2.2.2.2.2.2.2.2.2.2.2.2.2.2.2.2.2.2.2.2.2.2.2.2.2.2.1
theorem mOK.k46 {h : zH} (hm : mOK h) : zK h 46 = (1, 60) := hm.2.2.2.2.2.2.2.2.2.2.2.2.2.2.2.2.2.2.2.2.2.2.2.2.2.2.2.2.2.2.2.2.2.2.2.1
theorem mOK.k47 {h : zH} (hm : mOK h) : zK h 47 = (1, 60) := hm.2.2.2.2.2.2.2.2.2.2.2.2.2.2.2.2.2.2.2.2.2.2.2.2.2.2.2.2.2.2.2.2.2.2.2.2
section zMs
variable {h : zH} {I : Nat → Int} {A : Nat → Nat → Int} {f a i x y : Nat} {v : Int}
theorem zK_M : zK (zM h I A) = zK h := rfl
theorem zR_M : zR (zM h I A) = zR h := rfl
theorem zB_M : zB (zM h I A) = zB h := rfl
theorem zn_M : zn (zM h I A) = zn h := rfl
theorem zs_M : zs (zM h I A) = zs h := rfl
theorem mOK_M : mOK (zM h I A) ↔ mOK h := Iff.rfl
theorem zI_M : zI (zM h I A) f 29 = I f := rfl
theorem zI_Mo (hx : x ≠ 29) : zI (zM h I A) f x = zI h f x := if_neg hx
theorem zA_M (hx : 29 < x ∧ x < 48) : zA (zM h I A) x = A x := funext fun i => if_pos hx
theorem zA_Mo (hx : ¬ (29 < x ∧ x < 48)) : zA (zM h I A) x = zA h x := funext fun i => if_neg hx
theorem zsI_M : zsI (zM h I A) f 29 v = zM h (fup I f v) A := by
  refine zH_ext rfl ?_ rfl rfl rfl rfl rfl
  funext g x
  show (if g = f ∧ x = 29 then v else if x = 29 then I g else zI h g x) = if x = 29 then (if g = f then v else I g) else zI h g x
  by_cases h1 : x = 29 <;> by_cases h2 : g = f <;> simp [h1, h2]
theorem zsA_M (ha : 29 < a ∧ a < 48) : zsA (zM h I A) a i v = zM h I (zu A a i v) := by
  refine zH_ext rfl rfl rfl ?_ rfl rfl rfl
  funext x j
  show (if x = a ∧ j = i then v else if 29 < x ∧ x < 48 then A x j else zA h x j) = if 29 < x ∧ x < 48 then (if x = a ∧ j = i then v else A x j) else zA h x j
  by_cases h1 : x = a ∧ j = i
  · rw [if_pos h1, if_pos (by omega), if_pos h1]
  · rw [if_neg h1, if_neg h1]
theorem zM_id (hI : ∀ f, zI h f 29 = I f) (hA : ∀ a, 29 < a → a < 48 → zA h a = A a) : zM h I A = h := by
  refine zH_ext rfl ?_ rfl ?_ rfl rfl rfl
  · funext f x
    show (if x = 29 then I f else zI h f x) = zI h f x
    by_cases h1 : x = 29
    · rw [if_pos h1, h1, hI]
    · rw [if_neg h1]
  · funext x j
    show (if 29 < x ∧ x < 48 then A x j else zA h x j) = zA h x j
    by_cases h1 : 29 < x ∧ x < 48
    · rw [if_pos h1, hA x h1.1 h1.2]
    · rw [if_neg h1]
theorem zM_M {I' : Nat → Int} {A' : Nat → Nat → Int} : zM (zM h I A) I' A' = zM h I' A' := by
  refine zH_ext rfl ?_ rfl ?_ rfl rfl rfl
  · funext f x
    show (if x = 29 then I' f else if x = 29 then I f else zI h f x) = if x = 29 then I' f else zI h f x
    by_cases h1 : x = 29 <;> simp [h1]
  · funext x j
    show (if 29 < x ∧ x < 48 then A' x j else if 29 < x ∧ x < 48 then A x j else zA h x j) = if 29 < x ∧ x < 48 then A' x j else zA h x j
    by_cases h1 : 29 < x ∧ x < 48 <;> simp [h1]
theorem fup_s {g : Nat → Int} {k : Nat} {v : Int} : fup g k v k = v := if_pos rfl
theorem fup_n {g : Nat → Int} {k j : Nat} {v : Int} (h : j ≠ k) : fup g k v j = g j := if_neg h
theorem zu_s : zu A a i v a i = v := if_pos ⟨rfl, rfl⟩
theorem zu_na (h : x ≠ a) : zu A a i v x y = A x y := if_neg (fun q => h q.1)
theorem zu_ni (h : y ≠ i) : zu A a i v x y = A x y := if_neg (fun q => h q.2)
theorem zu_row (h : x ≠ a) : zu A a i v x = A x := funext fun _ => zu_na h
theorem zA_M30 : zA (zM h I A) 30 i = A 30 i := congrFun (zA_M (by decide)) i
theorem zsA_M30 : zsA (zM h I A) 30 i v = zM h I (zu A 30 i v) := zsA_M (by decide)
theorem zA_M31 : zA (zM h I A) 31 i = A 31 i := congrFun (zA_M (by decide)) i
theorem zsA_M31 : zsA (zM h I A) 31 i v = zM h I (zu A 31 i v) := zsA_M (by decide)
theorem zA_M32 : zA (zM h I A) 32 i = A 32 i := congrFun (zA_M (by decide)) i
theorem zsA_M32 : zsA (zM h I A) 32 i v = zM h I (zu A 32 i v) := zsA_M (by decide)
theorem zA_M33 : zA (zM h I A) 33 i = A 33 i := congrFun (zA_M (by decide)) i
theorem zsA_M33 : zsA (zM h I A) 33 i v = zM h I (zu A 33 i v) := zsA_M (by decide)
theorem zA_M34 : zA (zM h I A) 34 i = A 34 i := congrFun (zA_M (by decide)) i
theorem zsA_M34 : zsA (zM h I A) 34 i v = zM h I (zu A 34 i v) := zsA_M (by decide)
theorem zA_M35 : zA (zM h I A) 35 i = A 35 i := congrFun (zA_M (by decide)) i
theorem zsA_M35 : zsA (zM h I A) 35 i v = zM h I (zu A 35 i v) := zsA_M (by decide)
theorem zA_M36 : zA (zM h I A) 36 i = A 36 i := congrFun (zA_M (by decide)) i
theorem zsA_M36 : zsA (zM h I A) 36 i v = zM h I (zu A 36 i v) := zsA_M (by decide)
theorem zA_M37 : zA (zM h I A) 37 i = A 37 i := congrFun (zA_M (by decide)) i
theorem zsA_M37 : zsA (zM h I A) 37 i v = zM h I (zu A 37 i v) := zsA_M (by decide)
theorem zA_M38 : zA (zM h I A) 38 i = A 38 i := congrFun (zA_M (by decide)) i
theorem zsA_M38 : zsA (zM h I A) 38 i v = zM h I (zu A 38 i v) := zsA_M (by decide)
theorem zA_M39 : zA (zM h I A) 39 i = A 39 i := congrFun (zA_M (by decide)) i
theorem zsA_M39 : zsA (zM h I A) 39 i v = zM h I (zu A 39 i v) := zsA_M (by decide)
theorem zA_M40 : zA (zM h I A) 40 i = A 40 i := congrFun (zA_M (by decide)) i
theorem zsA_M40 : zsA (zM h I A) 40 i v = zM h I (zu A 40 i v) := zsA_M (by decide)
theorem zA_M41 : zA (zM h I A) 41 i = A 41 i := congrFun (zA_M (by decide)) i
theorem zsA_M41 : zsA (zM h I A) 41 i v = zM h I (zu A 41 i v) := zsA_M (by decide)
theorem zA_M42 : zA (zM h I A) 42 i = A 42 i := congrFun (zA_M (by decide)) i
theorem zsA_M42 : zsA (zM h I A) 42 i v = zM h I (zu A 42 i v) := zsA_M (by decide)
theorem zA_M43 : zA (zM h I A) 43 i = A 43 i := congrFun (zA_M (by decide)) i
theorem zsA_M43 : zsA (zM h I A) 43 i v = zM h I (zu A 43 i v) := zsA_M (by decide)
theorem zA_M44 : zA (zM h I A) 44 i = A 44 i := congrFun (zA_M (by decide)) i
theorem zsA_M44 : zsA (zM h I A) 44 i v = zM h I (zu A 44 i v) := zsA_M (by decide)
theorem zA_M45 : zA (zM h I A) 45 i = A 45 i := congrFun (zA_M (by decide)) i
theorem zsA_M45 : zsA (zM h I A) 45 i v = zM h I (zu A 45 i v) := zsA_M (by decide)
theorem zA_M46 : zA (zM h I A) 46 i = A 46 i := congrFun (zA_M (by decide)) i
theorem zsA_M46 : zsA (zM h I A) 46 i v = zM h I (zu A 46 i v) := zsA_M (by decide)
theorem zA_M47 : zA (zM h I A) 47 i = A 47 i := congrFun (zA_M (by decide)) i
theorem zsA_M47 : zsA (zM h I A) 47 i v = zM h I (zu A 47 i v) := zsA_M (by decide)
end zMs
