section
-- ===== PART A: goes FIRST, ahead of the names: the tables' words, and 'selects' of the private methods out of them =====
/-- a private method of a class that the tables say can be made, by its rows of tables_1 -/
def lw_okq (q : MethodName × Nat) : Prop := (q.1.cls ≠ "java/lang/invoke/MethodHandle" ∧ q.1.cls ≠ "java/lang/invoke/VarHandle") ∧ Cond.instantiable q.1.cls q.2 ∈ tables_1 ∧ Cond.privateMethod q.1 ∈ tables_1 ∧ Cond.instanceMethod q.1 ∈ tables_1
theorem lw_p0 : lw_okq (⟨"FarTypewriter", "startOver", "(III)V"⟩, 9) := ⟨⟨by decide +kernel, by decide +kernel⟩, List.mem_of_getElem? (i := 17) (by decide +kernel), List.mem_of_getElem? (i := 274) (by decide +kernel), List.mem_of_getElem? (i := 275) (by decide +kernel)⟩
theorem lw_p1 : lw_okq (⟨"FarTypewriter$Guesses", "isLaid", "(LFarTypewriter$Guess;Z)Z"⟩, 7) := ⟨⟨by decide +kernel, by decide +kernel⟩, List.mem_of_getElem? (i := 111) (by decide +kernel), List.mem_of_getElem? (i := 370) (by decide +kernel), List.mem_of_getElem? (i := 371) (by decide +kernel)⟩
theorem lw_p2 : lw_okq (⟨"FarTypewriter$Guesses", "foreseeSign", "(IIII)V"⟩, 7) := ⟨⟨by decide +kernel, by decide +kernel⟩, List.mem_of_getElem? (i := 111) (by decide +kernel), List.mem_of_getElem? (i := 375) (by decide +kernel), List.mem_of_getElem? (i := 376) (by decide +kernel)⟩
theorem lw_p3 : lw_okq (⟨"FarTypewriter$Guesses", "append", "(III)LFarTypewriter$Guess;"⟩, 7) := ⟨⟨by decide +kernel, by decide +kernel⟩, List.mem_of_getElem? (i := 111) (by decide +kernel), List.mem_of_getElem? (i := 379) (by decide +kernel), List.mem_of_getElem? (i := 380) (by decide +kernel)⟩
theorem lw_p4 : lw_okq (⟨"FarTypewriter", "runTick", "()I"⟩, 9) := ⟨⟨by decide +kernel, by decide +kernel⟩, List.mem_of_getElem? (i := 17) (by decide +kernel), List.mem_of_getElem? (i := 471) (by decide +kernel), List.mem_of_getElem? (i := 472) (by decide +kernel)⟩
theorem lw_p5 : lw_okq (⟨"FarTypewriter$Letter", "sumAhead", "(I)I"⟩, 2) := ⟨⟨by decide +kernel, by decide +kernel⟩, List.mem_of_getElem? (i := 253) (by decide +kernel), List.mem_of_getElem? (i := 549) (by decide +kernel), List.mem_of_getElem? (i := 550) (by decide +kernel)⟩
theorem lw_p6 : lw_okq (⟨"FarTypewriter", "send", "(LFarTypewriter$Line;)V"⟩, 9) := ⟨⟨by decide +kernel, by decide +kernel⟩, List.mem_of_getElem? (i := 17) (by decide +kernel), List.mem_of_getElem? (i := 559) (by decide +kernel), List.mem_of_getElem? (i := 560) (by decide +kernel)⟩
theorem lw_p7 : lw_okq (⟨"FarTypewriter", "deliver", "(ILFarTypewriter$Letter;Z)V"⟩, 9) := ⟨⟨by decide +kernel, by decide +kernel⟩, List.mem_of_getElem? (i := 17) (by decide +kernel), List.mem_of_getElem? (i := 592) (by decide +kernel), List.mem_of_getElem? (i := 593) (by decide +kernel)⟩
theorem lw_p8 : lw_okq (⟨"FarTypewriter$FarEnd", "press", "(I)V"⟩, 11) := ⟨⟨by decide +kernel, by decide +kernel⟩, List.mem_of_getElem? (i := 188) (by decide +kernel), List.mem_of_getElem? (i := 610) (by decide +kernel), List.mem_of_getElem? (i := 611) (by decide +kernel)⟩
theorem lw_p9 : lw_okq (⟨"FarTypewriter$FarEnd", "pressPass", "(I)V"⟩, 11) := ⟨⟨by decide +kernel, by decide +kernel⟩, List.mem_of_getElem? (i := 188) (by decide +kernel), List.mem_of_getElem? (i := 614) (by decide +kernel), List.mem_of_getElem? (i := 615) (by decide +kernel)⟩
theorem lw_p10 : lw_okq (⟨"FarTypewriter$FarEnd", "pressPager", "(I)V"⟩, 11) := ⟨⟨by decide +kernel, by decide +kernel⟩, List.mem_of_getElem? (i := 188) (by decide +kernel), List.mem_of_getElem? (i := 625) (by decide +kernel), List.mem_of_getElem? (i := 626) (by decide +kernel)⟩
theorem lw_p11 : lw_okq (⟨"FarTypewriter$FarEnd", "isLeftByLines", "(I)Z"⟩, 11) := ⟨⟨by decide +kernel, by decide +kernel⟩, List.mem_of_getElem? (i := 188) (by decide +kernel), List.mem_of_getElem? (i := 631) (by decide +kernel), List.mem_of_getElem? (i := 632) (by decide +kernel)⟩
theorem lw_p12 : lw_okq (⟨"FarTypewriter$FarEnd", "echo", "(I)V"⟩, 11) := ⟨⟨by decide +kernel, by decide +kernel⟩, List.mem_of_getElem? (i := 188) (by decide +kernel), List.mem_of_getElem? (i := 635) (by decide +kernel), List.mem_of_getElem? (i := 636) (by decide +kernel)⟩
theorem lw_p13 : lw_okq (⟨"FarTypewriter$FarEnd", "believe", "(I)V"⟩, 11) := ⟨⟨by decide +kernel, by decide +kernel⟩, List.mem_of_getElem? (i := 188) (by decide +kernel), List.mem_of_getElem? (i := 644) (by decide +kernel), List.mem_of_getElem? (i := 645) (by decide +kernel)⟩
theorem lw_p14 : lw_okq (⟨"FarTypewriter$States", "moveFirstBehind", "()V"⟩, 3) := ⟨⟨by decide +kernel, by decide +kernel⟩, List.mem_of_getElem? (i := 31) (by decide +kernel), List.mem_of_getElem? (i := 655) (by decide +kernel), List.mem_of_getElem? (i := 656) (by decide +kernel)⟩
theorem lw_p15 : lw_okq (⟨"FarTypewriter$NearEnd", "takeState", "(LFarTypewriter$Letter;ILFarTypewriter$State;)V"⟩, 11) := ⟨⟨by decide +kernel, by decide +kernel⟩, List.mem_of_getElem? (i := 25) (by decide +kernel), List.mem_of_getElem? (i := 667) (by decide +kernel), List.mem_of_getElem? (i := 668) (by decide +kernel)⟩
def lw_privs_1 : List (MethodName × Nat) := [(⟨"FarTypewriter", "startOver", "(III)V"⟩, 9), (⟨"FarTypewriter$Guesses", "isLaid", "(LFarTypewriter$Guess;Z)Z"⟩, 7), (⟨"FarTypewriter$Guesses", "foreseeSign", "(IIII)V"⟩, 7), (⟨"FarTypewriter$Guesses", "append", "(III)LFarTypewriter$Guess;"⟩, 7), (⟨"FarTypewriter", "runTick", "()I"⟩, 9), (⟨"FarTypewriter$Letter", "sumAhead", "(I)I"⟩, 2), (⟨"FarTypewriter", "send", "(LFarTypewriter$Line;)V"⟩, 9), (⟨"FarTypewriter", "deliver", "(ILFarTypewriter$Letter;Z)V"⟩, 9), (⟨"FarTypewriter$FarEnd", "press", "(I)V"⟩, 11), (⟨"FarTypewriter$FarEnd", "pressPass", "(I)V"⟩, 11), (⟨"FarTypewriter$FarEnd", "pressPager", "(I)V"⟩, 11), (⟨"FarTypewriter$FarEnd", "isLeftByLines", "(I)Z"⟩, 11), (⟨"FarTypewriter$FarEnd", "echo", "(I)V"⟩, 11), (⟨"FarTypewriter$FarEnd", "believe", "(I)V"⟩, 11), (⟨"FarTypewriter$States", "moveFirstBehind", "()V"⟩, 3), (⟨"FarTypewriter$NearEnd", "takeState", "(LFarTypewriter$Letter;ILFarTypewriter$State;)V"⟩, 11)]
theorem lw_r1 : ∀ q ∈ lw_privs_1, lw_okq q := List.forall_mem_cons.mpr ⟨lw_p0, List.forall_mem_cons.mpr ⟨lw_p1, List.forall_mem_cons.mpr ⟨lw_p2, List.forall_mem_cons.mpr ⟨lw_p3, List.forall_mem_cons.mpr ⟨lw_p4, List.forall_mem_cons.mpr ⟨lw_p5, List.forall_mem_cons.mpr ⟨lw_p6, List.forall_mem_cons.mpr ⟨lw_p7, List.forall_mem_cons.mpr ⟨lw_p8, List.forall_mem_cons.mpr ⟨lw_p9, List.forall_mem_cons.mpr ⟨lw_p10, List.forall_mem_cons.mpr ⟨lw_p11, List.forall_mem_cons.mpr ⟨lw_p12, List.forall_mem_cons.mpr ⟨lw_p13, List.forall_mem_cons.mpr ⟨lw_p14, List.forall_mem_cons.mpr ⟨lw_p15, fun _ h => absurd h List.not_mem_nil⟩⟩⟩⟩⟩⟩⟩⟩⟩⟩⟩⟩⟩⟩⟩⟩
theorem lw_p16 : lw_okq (⟨"FarTypewriter$Guesses", "takeBackFrom", "(I)V"⟩, 7) := ⟨⟨by decide +kernel, by decide +kernel⟩, List.mem_of_getElem? (i := 111) (by decide +kernel), List.mem_of_getElem? (i := 696) (by decide +kernel), List.mem_of_getElem? (i := 697) (by decide +kernel)⟩
theorem lw_p17 : lw_okq (⟨"FarTypewriter$Guesses", "dropFirst", "(I)V"⟩, 7) := ⟨⟨by decide +kernel, by decide +kernel⟩, List.mem_of_getElem? (i := 111) (by decide +kernel), List.mem_of_getElem? (i := 700) (by decide +kernel), List.mem_of_getElem? (i := 701) (by decide +kernel)⟩
theorem lw_p18 : lw_okq (⟨"FarTypewriter$Guesses", "swap", "(II)V"⟩, 7) := ⟨⟨by decide +kernel, by decide +kernel⟩, List.mem_of_getElem? (i := 111) (by decide +kernel), List.mem_of_getElem? (i := 704) (by decide +kernel), List.mem_of_getElem? (i := 705) (by decide +kernel)⟩
theorem lw_p19 : lw_okq (⟨"FarTypewriter", "lineOf", "(I)LFarTypewriter$Line;"⟩, 9) := ⟨⟨by decide +kernel, by decide +kernel⟩, List.mem_of_getElem? (i := 17) (by decide +kernel), List.mem_of_getElem? (i := 712) (by decide +kernel), List.mem_of_getElem? (i := 713) (by decide +kernel)⟩
theorem lw_p20 : lw_okq (⟨"FarTypewriterModel", "begins", "(III)V"⟩, 46) := ⟨⟨by decide +kernel, by decide +kernel⟩, List.mem_of_getElem? (i := 787) (by decide +kernel), List.mem_of_getElem? (i := 794) (by decide +kernel), List.mem_of_getElem? (i := 795) (by decide +kernel)⟩
theorem lw_p21 : lw_okq (⟨"FarTypewriterModel", "blank", "(III)V"⟩, 46) := ⟨⟨by decide +kernel, by decide +kernel⟩, List.mem_of_getElem? (i := 787) (by decide +kernel), List.mem_of_getElem? (i := 798) (by decide +kernel), List.mem_of_getElem? (i := 799) (by decide +kernel)⟩
theorem lw_p22 : lw_okq (⟨"FarTypewriterModel", "puts", "(I)V"⟩, 46) := ⟨⟨by decide +kernel, by decide +kernel⟩, List.mem_of_getElem? (i := 787) (by decide +kernel), List.mem_of_getElem? (i := 956) (by decide +kernel), List.mem_of_getElem? (i := 957) (by decide +kernel)⟩
theorem lw_p23 : lw_okq (⟨"FarTypewriterModel", "newLine", "()V"⟩, 46) := ⟨⟨by decide +kernel, by decide +kernel⟩, List.mem_of_getElem? (i := 787) (by decide +kernel), List.mem_of_getElem? (i := 960) (by decide +kernel), List.mem_of_getElem? (i := 961) (by decide +kernel)⟩
theorem lw_p24 : lw_okq (⟨"FarTypewriterModel", "scrolls", "(II)V"⟩, 46) := ⟨⟨by decide +kernel, by decide +kernel⟩, List.mem_of_getElem? (i := 787) (by decide +kernel), List.mem_of_getElem? (i := 964) (by decide +kernel), List.mem_of_getElem? (i := 965) (by decide +kernel)⟩
theorem lw_p25 : lw_okq (⟨"FarTypewriterModel", "back", "()V"⟩, 46) := ⟨⟨by decide +kernel, by decide +kernel⟩, List.mem_of_getElem? (i := 787) (by decide +kernel), List.mem_of_getElem? (i := 968) (by decide +kernel), List.mem_of_getElem? (i := 969) (by decide +kernel)⟩
theorem lw_p26 : lw_okq (⟨"FarTypewriterModel", "farTick", "()V"⟩, 46) := ⟨⟨by decide +kernel, by decide +kernel⟩, List.mem_of_getElem? (i := 787) (by decide +kernel), List.mem_of_getElem? (i := 995) (by decide +kernel), List.mem_of_getElem? (i := 996) (by decide +kernel)⟩
theorem lw_p27 : lw_okq (⟨"FarTypewriterModel", "farNewest", "()I"⟩, 46) := ⟨⟨by decide +kernel, by decide +kernel⟩, List.mem_of_getElem? (i := 787) (by decide +kernel), List.mem_of_getElem? (i := 999) (by decide +kernel), List.mem_of_getElem? (i := 1000) (by decide +kernel)⟩
theorem lw_p28 : lw_okq (⟨"FarTypewriterModel", "sameCells", "(II)Z"⟩, 46) := ⟨⟨by decide +kernel, by decide +kernel⟩, List.mem_of_getElem? (i := 787) (by decide +kernel), List.mem_of_getElem? (i := 1003) (by decide +kernel), List.mem_of_getElem? (i := 1004) (by decide +kernel)⟩
theorem lw_p29 : lw_okq (⟨"FarTypewriterModel", "copies", "(II)V"⟩, 46) := ⟨⟨by decide +kernel, by decide +kernel⟩, List.mem_of_getElem? (i := 787) (by decide +kernel), List.mem_of_getElem? (i := 1007) (by decide +kernel), List.mem_of_getElem? (i := 1008) (by decide +kernel)⟩
theorem lw_p30 : lw_okq (⟨"FarTypewriterModel", "adds", "(I)V"⟩, 46) := ⟨⟨by decide +kernel, by decide +kernel⟩, List.mem_of_getElem? (i := 787) (by decide +kernel), List.mem_of_getElem? (i := 1011) (by decide +kernel), List.mem_of_getElem? (i := 1012) (by decide +kernel)⟩
theorem lw_p31 : lw_okq (⟨"FarTypewriterModel", "addsTwo", "(I)V"⟩, 46) := ⟨⟨by decide +kernel, by decide +kernel⟩, List.mem_of_getElem? (i := 787) (by decide +kernel), List.mem_of_getElem? (i := 1015) (by decide +kernel), List.mem_of_getElem? (i := 1016) (by decide +kernel)⟩
def lw_privs_2 : List (MethodName × Nat) := [(⟨"FarTypewriter$Guesses", "takeBackFrom", "(I)V"⟩, 7), (⟨"FarTypewriter$Guesses", "dropFirst", "(I)V"⟩, 7), (⟨"FarTypewriter$Guesses", "swap", "(II)V"⟩, 7), (⟨"FarTypewriter", "lineOf", "(I)LFarTypewriter$Line;"⟩, 9), (⟨"FarTypewriterModel", "begins", "(III)V"⟩, 46), (⟨"FarTypewriterModel", "blank", "(III)V"⟩, 46), (⟨"FarTypewriterModel", "puts", "(I)V"⟩, 46), (⟨"FarTypewriterModel", "newLine", "()V"⟩, 46), (⟨"FarTypewriterModel", "scrolls", "(II)V"⟩, 46), (⟨"FarTypewriterModel", "back", "()V"⟩, 46), (⟨"FarTypewriterModel", "farTick", "()V"⟩, 46), (⟨"FarTypewriterModel", "farNewest", "()I"⟩, 46), (⟨"FarTypewriterModel", "sameCells", "(II)Z"⟩, 46), (⟨"FarTypewriterModel", "copies", "(II)V"⟩, 46), (⟨"FarTypewriterModel", "adds", "(I)V"⟩, 46), (⟨"FarTypewriterModel", "addsTwo", "(I)V"⟩, 46)]
theorem lw_r2 : ∀ q ∈ lw_privs_2, lw_okq q := List.forall_mem_cons.mpr ⟨lw_p16, List.forall_mem_cons.mpr ⟨lw_p17, List.forall_mem_cons.mpr ⟨lw_p18, List.forall_mem_cons.mpr ⟨lw_p19, List.forall_mem_cons.mpr ⟨lw_p20, List.forall_mem_cons.mpr ⟨lw_p21, List.forall_mem_cons.mpr ⟨lw_p22, List.forall_mem_cons.mpr ⟨lw_p23, List.forall_mem_cons.mpr ⟨lw_p24, List.forall_mem_cons.mpr ⟨lw_p25, List.forall_mem_cons.mpr ⟨lw_p26, List.forall_mem_cons.mpr ⟨lw_p27, List.forall_mem_cons.mpr ⟨lw_p28, List.forall_mem_cons.mpr ⟨lw_p29, List.forall_mem_cons.mpr ⟨lw_p30, List.forall_mem_cons.mpr ⟨lw_p31, fun _ h => absurd h List.not_mem_nil⟩⟩⟩⟩⟩⟩⟩⟩⟩⟩⟩⟩⟩⟩⟩⟩
theorem lw_p32 : lw_okq (⟨"FarTypewriterModel", "stateOf", "(III)I"⟩, 46) := ⟨⟨by decide +kernel, by decide +kernel⟩, List.mem_of_getElem? (i := 787) (by decide +kernel), List.mem_of_getElem? (i := 1019) (by decide +kernel), List.mem_of_getElem? (i := 1020) (by decide +kernel)⟩
theorem lw_p33 : lw_okq (⟨"FarTypewriterModel", "difference", "(II)V"⟩, 46) := ⟨⟨by decide +kernel, by decide +kernel⟩, List.mem_of_getElem? (i := 787) (by decide +kernel), List.mem_of_getElem? (i := 1023) (by decide +kernel), List.mem_of_getElem? (i := 1024) (by decide +kernel)⟩
theorem lw_p34 : lw_okq (⟨"FarTypewriterModel", "rowsOf", "(IIZ)I"⟩, 46) := ⟨⟨by decide +kernel, by decide +kernel⟩, List.mem_of_getElem? (i := 787) (by decide +kernel), List.mem_of_getElem? (i := 1027) (by decide +kernel), List.mem_of_getElem? (i := 1028) (by decide +kernel)⟩
theorem lw_p35 : lw_okq (⟨"FarTypewriterModel", "differs", "(III)Z"⟩, 46) := ⟨⟨by decide +kernel, by decide +kernel⟩, List.mem_of_getElem? (i := 787) (by decide +kernel), List.mem_of_getElem? (i := 1031) (by decide +kernel), List.mem_of_getElem? (i := 1032) (by decide +kernel)⟩
theorem lw_p36 : lw_okq (⟨"FarTypewriterModel", "areLike", "(II)Z"⟩, 46) := ⟨⟨by decide +kernel, by decide +kernel⟩, List.mem_of_getElem? (i := 787) (by decide +kernel), List.mem_of_getElem? (i := 1035) (by decide +kernel), List.mem_of_getElem? (i := 1036) (by decide +kernel)⟩
theorem lw_p37 : lw_okq (⟨"FarTypewriterModel", "sends", "(I)V"⟩, 46) := ⟨⟨by decide +kernel, by decide +kernel⟩, List.mem_of_getElem? (i := 787) (by decide +kernel), List.mem_of_getElem? (i := 1039) (by decide +kernel), List.mem_of_getElem? (i := 1040) (by decide +kernel)⟩
theorem lw_p38 : lw_okq (⟨"FarTypewriterModel", "sumOf", "(I)I"⟩, 46) := ⟨⟨by decide +kernel, by decide +kernel⟩, List.mem_of_getElem? (i := 787) (by decide +kernel), List.mem_of_getElem? (i := 1043) (by decide +kernel), List.mem_of_getElem? (i := 1044) (by decide +kernel)⟩
theorem lw_p39 : lw_okq (⟨"FarTypewriterModel", "nearTick", "()V"⟩, 46) := ⟨⟨by decide +kernel, by decide +kernel⟩, List.mem_of_getElem? (i := 787) (by decide +kernel), List.mem_of_getElem? (i := 1048) (by decide +kernel), List.mem_of_getElem? (i := 1049) (by decide +kernel)⟩
theorem lw_p40 : lw_okq (⟨"FarTypewriterModel", "nearNewest", "()I"⟩, 46) := ⟨⟨by decide +kernel, by decide +kernel⟩, List.mem_of_getElem? (i := 787) (by decide +kernel), List.mem_of_getElem? (i := 1052) (by decide +kernel), List.mem_of_getElem? (i := 1053) (by decide +kernel)⟩
theorem lw_p41 : lw_okq (⟨"FarTypewriterModel", "isLetterOf", "(II)Z"⟩, 46) := ⟨⟨by decide +kernel, by decide +kernel⟩, List.mem_of_getElem? (i := 787) (by decide +kernel), List.mem_of_getElem? (i := 1060) (by decide +kernel), List.mem_of_getElem? (i := 1061) (by decide +kernel)⟩
theorem lw_p42 : lw_okq (⟨"FarTypewriterModel", "takesHand", "(II)V"⟩, 46) := ⟨⟨by decide +kernel, by decide +kernel⟩, List.mem_of_getElem? (i := 787) (by decide +kernel), List.mem_of_getElem? (i := 1064) (by decide +kernel), List.mem_of_getElem? (i := 1065) (by decide +kernel)⟩
theorem lw_p43 : lw_okq (⟨"FarTypewriterModel", "drops", "(II)V"⟩, 46) := ⟨⟨by decide +kernel, by decide +kernel⟩, List.mem_of_getElem? (i := 787) (by decide +kernel), List.mem_of_getElem? (i := 1068) (by decide +kernel), List.mem_of_getElem? (i := 1069) (by decide +kernel)⟩
theorem lw_p44 : lw_okq (⟨"FarTypewriterModel", "taken", "(IZ)V"⟩, 46) := ⟨⟨by decide +kernel, by decide +kernel⟩, List.mem_of_getElem? (i := 787) (by decide +kernel), List.mem_of_getElem? (i := 1072) (by decide +kernel), List.mem_of_getElem? (i := 1073) (by decide +kernel)⟩
theorem lw_p45 : lw_okq (⟨"FarTypewriterModel", "twoAt", "(I)I"⟩, 46) := ⟨⟨by decide +kernel, by decide +kernel⟩, List.mem_of_getElem? (i := 787) (by decide +kernel), List.mem_of_getElem? (i := 1076) (by decide +kernel), List.mem_of_getElem? (i := 1077) (by decide +kernel)⟩
theorem lw_p46 : lw_okq (⟨"FarTypewriterModel", "byFar", "()V"⟩, 46) := ⟨⟨by decide +kernel, by decide +kernel⟩, List.mem_of_getElem? (i := 787) (by decide +kernel), List.mem_of_getElem? (i := 1080) (by decide +kernel), List.mem_of_getElem? (i := 1081) (by decide +kernel)⟩
theorem lw_p47 : lw_okq (⟨"FarTypewriterModel", "takesKey", "(I)V"⟩, 46) := ⟨⟨by decide +kernel, by decide +kernel⟩, List.mem_of_getElem? (i := 787) (by decide +kernel), List.mem_of_getElem? (i := 1084) (by decide +kernel), List.mem_of_getElem? (i := 1085) (by decide +kernel)⟩
def lw_privs_3 : List (MethodName × Nat) := [(⟨"FarTypewriterModel", "stateOf", "(III)I"⟩, 46), (⟨"FarTypewriterModel", "difference", "(II)V"⟩, 46), (⟨"FarTypewriterModel", "rowsOf", "(IIZ)I"⟩, 46), (⟨"FarTypewriterModel", "differs", "(III)Z"⟩, 46), (⟨"FarTypewriterModel", "areLike", "(II)Z"⟩, 46), (⟨"FarTypewriterModel", "sends", "(I)V"⟩, 46), (⟨"FarTypewriterModel", "sumOf", "(I)I"⟩, 46), (⟨"FarTypewriterModel", "nearTick", "()V"⟩, 46), (⟨"FarTypewriterModel", "nearNewest", "()I"⟩, 46), (⟨"FarTypewriterModel", "isLetterOf", "(II)Z"⟩, 46), (⟨"FarTypewriterModel", "takesHand", "(II)V"⟩, 46), (⟨"FarTypewriterModel", "drops", "(II)V"⟩, 46), (⟨"FarTypewriterModel", "taken", "(IZ)V"⟩, 46), (⟨"FarTypewriterModel", "twoAt", "(I)I"⟩, 46), (⟨"FarTypewriterModel", "byFar", "()V"⟩, 46), (⟨"FarTypewriterModel", "takesKey", "(I)V"⟩, 46)]
theorem lw_r3 : ∀ q ∈ lw_privs_3, lw_okq q := List.forall_mem_cons.mpr ⟨lw_p32, List.forall_mem_cons.mpr ⟨lw_p33, List.forall_mem_cons.mpr ⟨lw_p34, List.forall_mem_cons.mpr ⟨lw_p35, List.forall_mem_cons.mpr ⟨lw_p36, List.forall_mem_cons.mpr ⟨lw_p37, List.forall_mem_cons.mpr ⟨lw_p38, List.forall_mem_cons.mpr ⟨lw_p39, List.forall_mem_cons.mpr ⟨lw_p40, List.forall_mem_cons.mpr ⟨lw_p41, List.forall_mem_cons.mpr ⟨lw_p42, List.forall_mem_cons.mpr ⟨lw_p43, List.forall_mem_cons.mpr ⟨lw_p44, List.forall_mem_cons.mpr ⟨lw_p45, List.forall_mem_cons.mpr ⟨lw_p46, List.forall_mem_cons.mpr ⟨lw_p47, fun _ h => absurd h List.not_mem_nil⟩⟩⟩⟩⟩⟩⟩⟩⟩⟩⟩⟩⟩⟩⟩⟩
theorem lw_p48 : lw_okq (⟨"FarTypewriterModel", "echo", "(I)V"⟩, 46) := ⟨⟨by decide +kernel, by decide +kernel⟩, List.mem_of_getElem? (i := 787) (by decide +kernel), List.mem_of_getElem? (i := 1088) (by decide +kernel), List.mem_of_getElem? (i := 1089) (by decide +kernel)⟩
theorem lw_p49 : lw_okq (⟨"FarTypewriterModel", "lines", "(I)V"⟩, 46) := ⟨⟨by decide +kernel, by decide +kernel⟩, List.mem_of_getElem? (i := 787) (by decide +kernel), List.mem_of_getElem? (i := 1092) (by decide +kernel), List.mem_of_getElem? (i := 1093) (by decide +kernel)⟩
theorem lw_p50 : lw_okq (⟨"FarTypewriterModel", "pass", "(I)V"⟩, 46) := ⟨⟨by decide +kernel, by decide +kernel⟩, List.mem_of_getElem? (i := 787) (by decide +kernel), List.mem_of_getElem? (i := 1096) (by decide +kernel), List.mem_of_getElem? (i := 1097) (by decide +kernel)⟩
theorem lw_p51 : lw_okq (⟨"FarTypewriterModel", "pages", "(I)V"⟩, 46) := ⟨⟨by decide +kernel, by decide +kernel⟩, List.mem_of_getElem? (i := 787) (by decide +kernel), List.mem_of_getElem? (i := 1100) (by decide +kernel), List.mem_of_getElem? (i := 1101) (by decide +kernel)⟩
theorem lw_p52 : lw_okq (⟨"FarTypewriterModel", "goBelow", "(III)I"⟩, 46) := ⟨⟨by decide +kernel, by decide +kernel⟩, List.mem_of_getElem? (i := 787) (by decide +kernel), List.mem_of_getElem? (i := 1104) (by decide +kernel), List.mem_of_getElem? (i := 1105) (by decide +kernel)⟩
theorem lw_p53 : lw_okq (⟨"FarTypewriterModel", "byNear", "()V"⟩, 46) := ⟨⟨by decide +kernel, by decide +kernel⟩, List.mem_of_getElem? (i := 787) (by decide +kernel), List.mem_of_getElem? (i := 1108) (by decide +kernel), List.mem_of_getElem? (i := 1109) (by decide +kernel)⟩
theorem lw_p54 : lw_okq (⟨"FarTypewriterModel", "laid", "(III)V"⟩, 46) := ⟨⟨by decide +kernel, by decide +kernel⟩, List.mem_of_getElem? (i := 787) (by decide +kernel), List.mem_of_getElem? (i := 1112) (by decide +kernel), List.mem_of_getElem? (i := 1113) (by decide +kernel)⟩
theorem lw_p55 : lw_okq (⟨"FarTypewriterModel", "settles", "()V"⟩, 46) := ⟨⟨by decide +kernel, by decide +kernel⟩, List.mem_of_getElem? (i := 787) (by decide +kernel), List.mem_of_getElem? (i := 1116) (by decide +kernel), List.mem_of_getElem? (i := 1117) (by decide +kernel)⟩
theorem lw_p56 : lw_okq (⟨"FarTypewriterModel", "guess", "(IIII)V"⟩, 46) := ⟨⟨by decide +kernel, by decide +kernel⟩, List.mem_of_getElem? (i := 787) (by decide +kernel), List.mem_of_getElem? (i := 1133) (by decide +kernel), List.mem_of_getElem? (i := 1134) (by decide +kernel)⟩
theorem lw_p57 : lw_okq (⟨"FarTypewriterModel", "screenOf", "(I)I"⟩, 46) := ⟨⟨by decide +kernel, by decide +kernel⟩, List.mem_of_getElem? (i := 787) (by decide +kernel), List.mem_of_getElem? (i := 1141) (by decide +kernel), List.mem_of_getElem? (i := 1142) (by decide +kernel)⟩
def lw_privs_4 : List (MethodName × Nat) := [(⟨"FarTypewriterModel", "echo", "(I)V"⟩, 46), (⟨"FarTypewriterModel", "lines", "(I)V"⟩, 46), (⟨"FarTypewriterModel", "pass", "(I)V"⟩, 46), (⟨"FarTypewriterModel", "pages", "(I)V"⟩, 46), (⟨"FarTypewriterModel", "goBelow", "(III)I"⟩, 46), (⟨"FarTypewriterModel", "byNear", "()V"⟩, 46), (⟨"FarTypewriterModel", "laid", "(III)V"⟩, 46), (⟨"FarTypewriterModel", "settles", "()V"⟩, 46), (⟨"FarTypewriterModel", "guess", "(IIII)V"⟩, 46), (⟨"FarTypewriterModel", "screenOf", "(I)I"⟩, 46)]
theorem lw_r4 : ∀ q ∈ lw_privs_4, lw_okq q := List.forall_mem_cons.mpr ⟨lw_p48, List.forall_mem_cons.mpr ⟨lw_p49, List.forall_mem_cons.mpr ⟨lw_p50, List.forall_mem_cons.mpr ⟨lw_p51, List.forall_mem_cons.mpr ⟨lw_p52, List.forall_mem_cons.mpr ⟨lw_p53, List.forall_mem_cons.mpr ⟨lw_p54, List.forall_mem_cons.mpr ⟨lw_p55, List.forall_mem_cons.mpr ⟨lw_p56, List.forall_mem_cons.mpr ⟨lw_p57, fun _ h => absurd h List.not_mem_nil⟩⟩⟩⟩⟩⟩⟩⟩⟩⟩
def lw_privs : List (MethodName × Nat) := lw_privs_1 ++ (lw_privs_2 ++ (lw_privs_3 ++ (lw_privs_4)))
def lw_tbl : List Cond := k2_sels lw_privs ++ tables_1
theorem lw_privs_ok : ∀ q ∈ lw_privs, lw_okq q := by
  show ∀ q ∈ lw_privs_1 ++ (lw_privs_2 ++ (lw_privs_3 ++ (lw_privs_4))), lw_okq q
  exact List.forall_mem_append.mpr ⟨lw_r1, List.forall_mem_append.mpr ⟨lw_r2, List.forall_mem_append.mpr ⟨lw_r3, lw_r4⟩⟩⟩
end
section
def RX0 : String := "FarTypewriter$Diff"
def TX0 : u_T := fun k => match k with
  | _ => ("", "", "", false)
def tyX0 : Nat → FieldType := fun k => match k with
  | _ => .int
abbrev wsX00 : List Cond := u_ws RX0 TX0 0
theorem nmX0 : ∀ a, a < 0 → ∀ b, b < 0 → a ≠ b → (TX0 a).2.1 ≠ (TX0 b).2.1 := by decide +kernel
theorem tyX0_ok : ∀ k, k < 0 → parseFieldDescriptor (TX0 k).2.2.1 = some (tyX0 k) := by decide +kernel
abbrev cX0_append : ByteArray := prog_2_method_2_code
def yX0_append : MethodName := ⟨RX0, "append", "(LFarTypewriter$Letter;LFarTypewriter$Screen;LFarTypewriter$Screen;)V"⟩
abbrev cX0_appendRow : ByteArray := prog_2_method_3_code
def yX0_appendRow : MethodName := ⟨RX0, "appendRow", "(LFarTypewriter$Letter;LFarTypewriter$Screen;III)V"⟩
abbrev cX0_bestShift : ByteArray := prog_2_method_4_code
def yX0_bestShift : MethodName := ⟨RX0, "bestShift", "(LFarTypewriter$Screen;LFarTypewriter$Screen;)I"⟩
abbrev cX0_bytesFor : ByteArray := prog_2_method_5_code
def yX0_bytesFor : MethodName := ⟨RX0, "bytesFor", "(LFarTypewriter$Screen;LFarTypewriter$Screen;I)I"⟩
abbrev cX0_firstChange : ByteArray := prog_2_method_6_code
def yX0_firstChange : MethodName := ⟨RX0, "firstChange", "(LFarTypewriter$Screen;LFarTypewriter$Screen;II)I"⟩
abbrev cX0_lastChange : ByteArray := prog_2_method_7_code
def yX0_lastChange : MethodName := ⟨RX0, "lastChange", "(LFarTypewriter$Screen;LFarTypewriter$Screen;II)I"⟩
abbrev cX0_isUniform : ByteArray := prog_2_method_8_code
def yX0_isUniform : MethodName := ⟨RX0, "isUniform", "(LFarTypewriter$Screen;III)Z"⟩
abbrev cX0_lay : ByteArray := prog_2_method_9_code
def yX0_lay : MethodName := ⟨RX0, "lay", "(LFarTypewriter$Letter;LFarTypewriter$Screen;)V"⟩
abbrev cX0_layRow : ByteArray := prog_2_method_10_code
def yX0_layRow : MethodName := ⟨RX0, "layRow", "(LFarTypewriter$Letter;ILFarTypewriter$Screen;)V"⟩
def RX1 : String := "FarTypewriter$FarEnd"
def TX1 : u_T := fun k => match k with
  | 0 => ("FarTypewriter$FarEnd", "screen", "LFarTypewriter$Screen;", true)
  | 1 => ("FarTypewriter$FarEnd", "states", "LFarTypewriter$States;", true)
  | 2 => ("FarTypewriter$FarEnd", "program", "I", false)
  | 3 => ("FarTypewriter$FarEnd", "passed", "I", false)
  | 4 => ("FarTypewriter$FarEnd", "pen", "I", false)
  | 5 => ("FarTypewriter$FarEnd", "took", "I", false)
  | 6 => ("FarTypewriter$FarEnd", "sure", "I", false)
  | 7 => ("FarTypewriter$FarEnd", "numberInLast", "I", false)
  | 8 => ("FarTypewriter$FarEnd", "last", "I", false)
  | 9 => ("FarTypewriter$FarEnd", "address", "I", false)
  | _ => ("FarTypewriter$FarEnd", "owes", "Z", false)
def tyX1 : Nat → FieldType := fun k => match k with
  | 0 => .object "FarTypewriter$Screen"
  | 1 => .object "FarTypewriter$States"
  | 2 => .int
  | 3 => .int
  | 4 => .int
  | 5 => .int
  | 6 => .int
  | 7 => .int
  | 8 => .int
  | 9 => .int
  | _ => .boolean
abbrev wsX10 : List Cond := u_ws RX1 TX1 11
theorem nmX1 : ∀ a, a < 11 → ∀ b, b < 11 → a ≠ b → (TX1 a).2.1 ≠ (TX1 b).2.1 := by decide +kernel
theorem tyX1_ok : ∀ k, k < 11 → parseFieldDescriptor (TX1 k).2.2.1 = some (tyX1 k) := by decide +kernel
abbrev cX1_init : ByteArray := prog_3_method_1_code
def yX1_init : MethodName := ⟨RX1, "<init>", "()V"⟩
abbrev cX1_reset : ByteArray := prog_3_method_2_code
def yX1_reset : MethodName := ⟨RX1, "reset", "(I)V"⟩
abbrev cX1_keepState : ByteArray := prog_3_method_3_code
def yX1_keepState : MethodName := ⟨RX1, "keepState", "()V"⟩
abbrev cX1_isDue : ByteArray := prog_3_method_4_code
def yX1_isDue : MethodName := ⟨RX1, "isDue", "(III)Z"⟩
abbrev cX1_compose : ByteArray := prog_3_method_5_code
def yX1_compose : MethodName := ⟨RX1, "compose", "(LFarTypewriter$Letter;I)V"⟩
abbrev cX1_take : ByteArray := prog_3_method_6_code
def yX1_take : MethodName := ⟨RX1, "take", "(LFarTypewriter$Letter;)I"⟩
abbrev cX1_believe : ByteArray := prog_3_method_7_code
def yX1_believe : MethodName := ⟨RX1, "believe", "(I)V"⟩
abbrev cX1_press : ByteArray := prog_3_method_8_code
def yX1_press : MethodName := ⟨RX1, "press", "(I)V"⟩
abbrev cX1_isLeftByLines : ByteArray := prog_3_method_9_code
def yX1_isLeftByLines : MethodName := ⟨RX1, "isLeftByLines", "(I)Z"⟩
abbrev cX1_echo : ByteArray := prog_3_method_10_code
def yX1_echo : MethodName := ⟨RX1, "echo", "(I)V"⟩
abbrev cX1_pressPass : ByteArray := prog_3_method_11_code
def yX1_pressPass : MethodName := ⟨RX1, "pressPass", "(I)V"⟩
abbrev cX1_pressPager : ByteArray := prog_3_method_12_code
def yX1_pressPager : MethodName := ⟨RX1, "pressPager", "(I)V"⟩
abbrev cX1_report : ByteArray := prog_3_method_13_code
def yX1_report : MethodName := ⟨RX1, "report", "(I)I"⟩
def RX2 : String := "FarTypewriter$Guess"
def TX2 : u_T := fun k => match k with
  | 0 => ("FarTypewriter$Guess", "key", "I", false)
  | 1 => ("FarTypewriter$Guess", "age", "I", false)
  | 2 => ("FarTypewriter$Guess", "row", "I", false)
  | 3 => ("FarTypewriter$Guess", "column", "I", false)
  | 4 => ("FarTypewriter$Guess", "sign", "I", false)
  | 5 => ("FarTypewriter$Guess", "rowBehind", "I", false)
  | _ => ("FarTypewriter$Guess", "columnBehind", "I", false)
def tyX2 : Nat → FieldType := fun k => match k with
  | 0 => .int
  | 1 => .int
  | 2 => .int
  | 3 => .int
  | 4 => .int
  | 5 => .int
  | _ => .int
abbrev wsX20 : List Cond := u_ws RX2 TX2 7
theorem nmX2 : ∀ a, a < 7 → ∀ b, b < 7 → a ≠ b → (TX2 a).2.1 ≠ (TX2 b).2.1 := by decide +kernel
theorem tyX2_ok : ∀ k, k < 7 → parseFieldDescriptor (TX2 k).2.2.1 = some (tyX2 k) := by decide +kernel
abbrev cX2_init : ByteArray := prog_4_method_1_code
def yX2_init : MethodName := ⟨RX2, "<init>", "()V"⟩
abbrev cX2_isRight : ByteArray := prog_4_method_2_code
def yX2_isRight : MethodName := ⟨RX2, "isRight", "(LFarTypewriter$State;)Z"⟩
def RX3 : String := "FarTypewriter$Guesses"
def TX3 : u_T := fun k => match k with
  | 0 => ("FarTypewriter$Guesses", "rows", "[LFarTypewriter$Guess;", true)
  | 1 => ("FarTypewriter$Guesses", "size", "I", false)
  | 2 => ("FarTypewriter$Guesses", "age", "I", false)
  | 3 => ("FarTypewriter$Guesses", "confirmed", "I", false)
  | 4 => ("FarTypewriter$Guesses", "right", "I", false)
  | 5 => ("FarTypewriter$Guesses", "wrong", "I", false)
  | _ => ("FarTypewriter$Guesses", "takenBack", "I", false)
def tyX3 : Nat → FieldType := fun k => match k with
  | 0 => .array (.object "FarTypewriter$Guess")
  | 1 => .int
  | 2 => .int
  | 3 => .int
  | 4 => .int
  | 5 => .int
  | _ => .int
abbrev wsX30 : List Cond := u_ws RX3 TX3 7
theorem nmX3 : ∀ a, a < 7 → ∀ b, b < 7 → a ≠ b → (TX3 a).2.1 ≠ (TX3 b).2.1 := by decide +kernel
theorem tyX3_ok : ∀ k, k < 7 → parseFieldDescriptor (TX3 k).2.2.1 = some (tyX3 k) := by decide +kernel
abbrev cX3_init : ByteArray := prog_5_method_1_code
def yX3_init : MethodName := ⟨RX3, "<init>", "()V"⟩
abbrev cX3_reset : ByteArray := prog_5_method_2_code
def yX3_reset : MethodName := ⟨RX3, "reset", "()V"⟩
abbrev cX3_foresee : ByteArray := prog_5_method_3_code
def yX3_foresee : MethodName := ⟨RX3, "foresee", "(IILFarTypewriter$Screen;)V"⟩
abbrev cX3_foreseeSign : ByteArray := prog_5_method_4_code
def yX3_foreseeSign : MethodName := ⟨RX3, "foreseeSign", "(IIII)V"⟩
abbrev cX3_append : ByteArray := prog_5_method_5_code
def yX3_append : MethodName := ⟨RX3, "append", "(III)LFarTypewriter$Guess;"⟩
abbrev cX3_settle : ByteArray := prog_5_method_6_code
def yX3_settle : MethodName := ⟨RX3, "settle", "(LFarTypewriter$State;)V"⟩
abbrev cX3_takeBackFrom : ByteArray := prog_5_method_7_code
def yX3_takeBackFrom : MethodName := ⟨RX3, "takeBackFrom", "(I)V"⟩
abbrev cX3_dropFirst : ByteArray := prog_5_method_8_code
def yX3_dropFirst : MethodName := ⟨RX3, "dropFirst", "(I)V"⟩
abbrev cX3_swap : ByteArray := prog_5_method_9_code
def yX3_swap : MethodName := ⟨RX3, "swap", "(II)V"⟩
abbrev cX3_find : ByteArray := prog_5_method_10_code
def yX3_find : MethodName := ⟨RX3, "find", "(I)LFarTypewriter$Guess;"⟩
abbrev cX3_isLaid : ByteArray := prog_5_method_11_code
def yX3_isLaid : MethodName := ⟨RX3, "isLaid", "(LFarTypewriter$Guess;Z)Z"⟩
abbrev cX3_lastLaid : ByteArray := prog_5_method_12_code
def yX3_lastLaid : MethodName := ⟨RX3, "lastLaid", "(Z)LFarTypewriter$Guess;"⟩
abbrev cX3_signAt : ByteArray := prog_5_method_13_code
def yX3_signAt : MethodName := ⟨RX3, "signAt", "(IIZ)I"⟩
abbrev cX3_report : ByteArray := prog_5_method_14_code
def yX3_report : MethodName := ⟨RX3, "report", "(II)I"⟩
def RX4 : String := "FarTypewriter$Letter"
def TX4 : u_T := fun k => match k with
  | 0 => ("FarTypewriter$Letter", "bytes", "[I", false)
  | _ => ("FarTypewriter$Letter", "length", "I", false)
def tyX4 : Nat → FieldType := fun k => match k with
  | 0 => .array .int
  | _ => .int
abbrev wsX40 : List Cond := u_ws RX4 TX4 2
theorem nmX4 : ∀ a, a < 2 → ∀ b, b < 2 → a ≠ b → (TX4 a).2.1 ≠ (TX4 b).2.1 := by decide +kernel
theorem tyX4_ok : ∀ k, k < 2 → parseFieldDescriptor (TX4 k).2.2.1 = some (tyX4 k) := by decide +kernel
abbrev cX4_init : ByteArray := prog_6_method_1_code
def yX4_init : MethodName := ⟨RX4, "<init>", "(I)V"⟩
abbrev cX4_put : ByteArray := prog_6_method_2_code
def yX4_put : MethodName := ⟨RX4, "put", "(I)V"⟩
abbrev cX4_putNumber : ByteArray := prog_6_method_3_code
def yX4_putNumber : MethodName := ⟨RX4, "putNumber", "(I)V"⟩
abbrev cX4_seal : ByteArray := prog_6_method_4_code
def yX4_seal : MethodName := ⟨RX4, "seal", "()V"⟩
abbrev cX4_at : ByteArray := prog_6_method_5_code
def yX4_at : MethodName := ⟨RX4, "at", "(I)I"⟩
abbrev cX4_numberAt : ByteArray := prog_6_method_6_code
def yX4_numberAt : MethodName := ⟨RX4, "numberAt", "(I)I"⟩
abbrev cX4_isWhole : ByteArray := prog_6_method_7_code
def yX4_isWhole : MethodName := ⟨RX4, "isWhole", "(I)Z"⟩
abbrev cX4_bend : ByteArray := prog_6_method_8_code
def yX4_bend : MethodName := ⟨RX4, "bend", "(II)Z"⟩
abbrev cX4_copyFrom : ByteArray := prog_6_method_9_code
def yX4_copyFrom : MethodName := ⟨RX4, "copyFrom", "(LFarTypewriter$Letter;)V"⟩
abbrev cX4_sumAhead : ByteArray := prog_6_method_10_code
def yX4_sumAhead : MethodName := ⟨RX4, "sumAhead", "(I)I"⟩
def RX5 : String := "FarTypewriter$Line"
def TX5 : u_T := fun k => match k with
  | 0 => ("FarTypewriter$Line", "letters", "[LFarTypewriter$Letter;", true)
  | _ => ("FarTypewriter$Line", "size", "I", false)
def tyX5 : Nat → FieldType := fun k => match k with
  | 0 => .array (.object "FarTypewriter$Letter")
  | _ => .int
abbrev wsX50 : List Cond := u_ws RX5 TX5 2
theorem nmX5 : ∀ a, a < 2 → ∀ b, b < 2 → a ≠ b → (TX5 a).2.1 ≠ (TX5 b).2.1 := by decide +kernel
theorem tyX5_ok : ∀ k, k < 2 → parseFieldDescriptor (TX5 k).2.2.1 = some (tyX5 k) := by decide +kernel
abbrev cX5_init : ByteArray := prog_7_method_1_code
def yX5_init : MethodName := ⟨RX5, "<init>", "()V"⟩
abbrev cX5_find : ByteArray := prog_7_method_2_code
def yX5_find : MethodName := ⟨RX5, "find", "(I)LFarTypewriter$Letter;"⟩
abbrev cX5_append : ByteArray := prog_7_method_3_code
def yX5_append : MethodName := ⟨RX5, "append", "(LFarTypewriter$Letter;)Z"⟩
abbrev cX5_takeOut : ByteArray := prog_7_method_4_code
def yX5_takeOut : MethodName := ⟨RX5, "takeOut", "(I)V"⟩
def RX6 : String := "FarTypewriter$NearEnd"
def TX6 : u_T := fun k => match k with
  | 0 => ("FarTypewriter$NearEnd", "keys", "[I", true)
  | 1 => ("FarTypewriter$NearEnd", "states", "LFarTypewriter$States;", true)
  | 2 => ("FarTypewriter$NearEnd", "guesses", "LFarTypewriter$Guesses;", true)
  | 3 => ("FarTypewriter$NearEnd", "laid", "LFarTypewriter$Screen;", true)
  | 4 => ("FarTypewriter$NearEnd", "typed", "I", false)
  | 5 => ("FarTypewriter$NearEnd", "known", "I", false)
  | 6 => ("FarTypewriter$NearEnd", "typedInLast", "I", false)
  | 7 => ("FarTypewriter$NearEnd", "last", "I", false)
  | 8 => ("FarTypewriter$NearEnd", "sureTold", "I", false)
  | 9 => ("FarTypewriter$NearEnd", "owes", "Z", false)
  | _ => ("FarTypewriter$NearEnd", "address", "I", false)
def tyX6 : Nat → FieldType := fun k => match k with
  | 0 => .array .int
  | 1 => .object "FarTypewriter$States"
  | 2 => .object "FarTypewriter$Guesses"
  | 3 => .object "FarTypewriter$Screen"
  | 4 => .int
  | 5 => .int
  | 6 => .int
  | 7 => .int
  | 8 => .int
  | 9 => .boolean
  | _ => .int
abbrev wsX60 : List Cond := u_ws RX6 TX6 11
theorem nmX6 : ∀ a, a < 11 → ∀ b, b < 11 → a ≠ b → (TX6 a).2.1 ≠ (TX6 b).2.1 := by decide +kernel
theorem tyX6_ok : ∀ k, k < 11 → parseFieldDescriptor (TX6 k).2.2.1 = some (tyX6 k) := by decide +kernel
abbrev cX6_init : ByteArray := prog_8_method_1_code
def yX6_init : MethodName := ⟨RX6, "<init>", "()V"⟩
abbrev cX6_reset : ByteArray := prog_8_method_2_code
def yX6_reset : MethodName := ⟨RX6, "reset", "()V"⟩
abbrev cX6_type : ByteArray := prog_8_method_3_code
def yX6_type : MethodName := ⟨RX6, "type", "(IZ)I"⟩
abbrev cX6_isDue : ByteArray := prog_8_method_4_code
def yX6_isDue : MethodName := ⟨RX6, "isDue", "(III)Z"⟩
abbrev cX6_compose : ByteArray := prog_8_method_5_code
def yX6_compose : MethodName := ⟨RX6, "compose", "(LFarTypewriter$Letter;I)V"⟩
abbrev cX6_take : ByteArray := prog_8_method_6_code
def yX6_take : MethodName := ⟨RX6, "take", "(LFarTypewriter$Letter;)I"⟩
abbrev cX6_takeState : ByteArray := prog_8_method_7_code
def yX6_takeState : MethodName := ⟨RX6, "takeState", "(LFarTypewriter$Letter;ILFarTypewriter$State;)V"⟩
abbrev cX6_report : ByteArray := prog_8_method_8_code
def yX6_report : MethodName := ⟨RX6, "report", "(I)I"⟩
def RX7 : String := "FarTypewriter$Screen"
def TX7 : u_T := fun k => match k with
  | 0 => ("FarTypewriter$Screen", "cells", "[I", true)
  | 1 => ("FarTypewriter$Screen", "row", "I", false)
  | _ => ("FarTypewriter$Screen", "column", "I", false)
def tyX7 : Nat → FieldType := fun k => match k with
  | 0 => .array .int
  | 1 => .int
  | _ => .int
abbrev wsX70 : List Cond := u_ws RX7 TX7 3
theorem nmX7 : ∀ a, a < 3 → ∀ b, b < 3 → a ≠ b → (TX7 a).2.1 ≠ (TX7 b).2.1 := by decide +kernel
theorem tyX7_ok : ∀ k, k < 3 → parseFieldDescriptor (TX7 k).2.2.1 = some (tyX7 k) := by decide +kernel
abbrev cX7_init : ByteArray := prog_9_method_1_code
def yX7_init : MethodName := ⟨RX7, "<init>", "()V"⟩
abbrev cX7_clear : ByteArray := prog_9_method_2_code
def yX7_clear : MethodName := ⟨RX7, "clear", "()V"⟩
abbrev cX7_copyFrom : ByteArray := prog_9_method_3_code
def yX7_copyFrom : MethodName := ⟨RX7, "copyFrom", "(LFarTypewriter$Screen;)V"⟩
abbrev cX7_isLike : ByteArray := prog_9_method_4_code
def yX7_isLike : MethodName := ⟨RX7, "isLike", "(LFarTypewriter$Screen;)Z"⟩
abbrev cX7_at : ByteArray := prog_9_method_5_code
def yX7_at : MethodName := ⟨RX7, "at", "(II)I"⟩
abbrev cX7_set : ByteArray := prog_9_method_6_code
def yX7_set : MethodName := ⟨RX7, "set", "(III)V"⟩
abbrev cX7_putSign : ByteArray := prog_9_method_7_code
def yX7_putSign : MethodName := ⟨RX7, "putSign", "(II)V"⟩
abbrev cX7_newLine : ByteArray := prog_9_method_8_code
def yX7_newLine : MethodName := ⟨RX7, "newLine", "()V"⟩
abbrev cX7_rubOut : ByteArray := prog_9_method_9_code
def yX7_rubOut : MethodName := ⟨RX7, "rubOut", "()V"⟩
abbrev cX7_step : ByteArray := prog_9_method_10_code
def yX7_step : MethodName := ⟨RX7, "step", "(II)V"⟩
abbrev cX7_scrollBy : ByteArray := prog_9_method_11_code
def yX7_scrollBy : MethodName := ⟨RX7, "scrollBy", "(I)V"⟩
abbrev cX7_fillRow : ByteArray := prog_9_method_12_code
def yX7_fillRow : MethodName := ⟨RX7, "fillRow", "(II)V"⟩
def RX8 : String := "FarTypewriter$State"
def TX8 : u_T := fun k => match k with
  | 0 => ("FarTypewriter$State", "screen", "LFarTypewriter$Screen;", true)
  | 1 => ("FarTypewriter$State", "number", "I", false)
  | _ => ("FarTypewriter$State", "took", "I", false)
def tyX8 : Nat → FieldType := fun k => match k with
  | 0 => .object "FarTypewriter$Screen"
  | 1 => .int
  | _ => .int
abbrev wsX80 : List Cond := u_ws RX8 TX8 3
theorem nmX8 : ∀ a, a < 3 → ∀ b, b < 3 → a ≠ b → (TX8 a).2.1 ≠ (TX8 b).2.1 := by decide +kernel
theorem tyX8_ok : ∀ k, k < 3 → parseFieldDescriptor (TX8 k).2.2.1 = some (tyX8 k) := by decide +kernel
abbrev cX8_init : ByteArray := prog_10_method_1_code
def yX8_init : MethodName := ⟨RX8, "<init>", "()V"⟩
abbrev cX8_become : ByteArray := prog_10_method_2_code
def yX8_become : MethodName := ⟨RX8, "become", "(II)V"⟩
def RX9 : String := "FarTypewriter$States"
def TX9 : u_T := fun k => match k with
  | 0 => ("FarTypewriter$States", "rows", "[LFarTypewriter$State;", true)
  | 1 => ("FarTypewriter$States", "newest", "LFarTypewriter$State;", false)
  | _ => ("FarTypewriter$States", "size", "I", false)
def tyX9 : Nat → FieldType := fun k => match k with
  | 0 => .array (.object "FarTypewriter$State")
  | 1 => .object "FarTypewriter$State"
  | _ => .int
abbrev wsX90 : List Cond := u_ws RX9 TX9 3
theorem nmX9 : ∀ a, a < 3 → ∀ b, b < 3 → a ≠ b → (TX9 a).2.1 ≠ (TX9 b).2.1 := by decide +kernel
theorem tyX9_ok : ∀ k, k < 3 → parseFieldDescriptor (TX9 k).2.2.1 = some (tyX9 k) := by decide +kernel
abbrev cX9_init : ByteArray := prog_11_method_1_code
def yX9_init : MethodName := ⟨RX9, "<init>", "()V"⟩
abbrev cX9_reset : ByteArray := prog_11_method_2_code
def yX9_reset : MethodName := ⟨RX9, "reset", "()V"⟩
abbrev cX9_find : ByteArray := prog_11_method_3_code
def yX9_find : MethodName := ⟨RX9, "find", "(I)LFarTypewriter$State;"⟩
abbrev cX9_findNumber : ByteArray := prog_11_method_4_code
def yX9_findNumber : MethodName := ⟨RX9, "findNumber", "(I)LFarTypewriter$State;"⟩
abbrev cX9_isFull : ByteArray := prog_11_method_5_code
def yX9_isFull : MethodName := ⟨RX9, "isFull", "()Z"⟩
abbrev cX9_keep : ByteArray := prog_11_method_6_code
def yX9_keep : MethodName := ⟨RX9, "keep", "(IILFarTypewriter$Screen;)V"⟩
abbrev cX9_dropBelow : ByteArray := prog_11_method_7_code
def yX9_dropBelow : MethodName := ⟨RX9, "dropBelow", "(I)V"⟩
abbrev cX9_isBelow : ByteArray := prog_11_method_8_code
def yX9_isBelow : MethodName := ⟨RX9, "isBelow", "(LFarTypewriter$State;I)Z"⟩
abbrev cX9_moveFirstBehind : ByteArray := prog_11_method_9_code
def yX9_moveFirstBehind : MethodName := ⟨RX9, "moveFirstBehind", "()V"⟩
def RX10 : String := "FarTypewriter"
def TX10 : u_T := fun k => match k with
  | 0 => ("FarTypewriter", "near", "LFarTypewriter$NearEnd;", true)
  | 1 => ("FarTypewriter", "far", "LFarTypewriter$FarEnd;", true)
  | 2 => ("FarTypewriter", "toFar", "LFarTypewriter$Line;", true)
  | 3 => ("FarTypewriter", "toNear", "LFarTypewriter$Line;", true)
  | 4 => ("FarTypewriter", "draft", "LFarTypewriter$Letter;", true)
  | 5 => ("FarTypewriter", "tally", "[I", true)
  | 6 => ("FarTypewriter", "clock", "I", false)
  | 7 => ("FarTypewriter", "frame", "I", false)
  | _ => ("FarTypewriter", "again", "I", false)
def tyX10 : Nat → FieldType := fun k => match k with
  | 0 => .object "FarTypewriter$NearEnd"
  | 1 => .object "FarTypewriter$FarEnd"
  | 2 => .object "FarTypewriter$Line"
  | 3 => .object "FarTypewriter$Line"
  | 4 => .object "FarTypewriter$Letter"
  | 5 => .array .int
  | 6 => .int
  | 7 => .int
  | _ => .int
abbrev wsX100 : List Cond := u_ws RX10 TX10 9
theorem nmX10 : ∀ a, a < 9 → ∀ b, b < 9 → a ≠ b → (TX10 a).2.1 ≠ (TX10 b).2.1 := by decide +kernel
theorem tyX10_ok : ∀ k, k < 9 → parseFieldDescriptor (TX10 k).2.2.1 = some (tyX10 k) := by decide +kernel
abbrev cX10_init : ByteArray := prog_1_method_1_code
def yX10_init : MethodName := ⟨RX10, "<init>", "()V"⟩
abbrev cX10_open : ByteArray := prog_1_method_2_code
def yX10_open : MethodName := ⟨RX10, "open", "(III)Z"⟩
abbrev cX10_program : ByteArray := prog_1_method_3_code
def yX10_program : MethodName := ⟨RX10, "program", "(I)I"⟩
abbrev cX10_key : ByteArray := prog_1_method_4_code
def yX10_key : MethodName := ⟨RX10, "key", "(I)I"⟩
abbrev cX10_write : ByteArray := prog_1_method_5_code
def yX10_write : MethodName := ⟨RX10, "write", "(I)Z"⟩
abbrev cX10_move : ByteArray := prog_1_method_6_code
def yX10_move : MethodName := ⟨RX10, "move", "(II)Z"⟩
abbrev cX10_wipe : ByteArray := prog_1_method_7_code
def yX10_wipe : MethodName := ⟨RX10, "wipe", "(I)Z"⟩
abbrev cX10_scroll : ByteArray := prog_1_method_8_code
def yX10_scroll : MethodName := ⟨RX10, "scroll", "(I)Z"⟩
abbrev cX10_pen : ByteArray := prog_1_method_9_code
def yX10_pen : MethodName := ⟨RX10, "pen", "(I)I"⟩
abbrev cX10_tick : ByteArray := prog_1_method_10_code
def yX10_tick : MethodName := ⟨RX10, "tick", "()I"⟩
abbrev cX10_round : ByteArray := prog_1_method_11_code
def yX10_round : MethodName := ⟨RX10, "round", "()I"⟩
abbrev cX10_carry : ByteArray := prog_1_method_12_code
def yX10_carry : MethodName := ⟨RX10, "carry", "(IIII)I"⟩
abbrev cX10_roam : ByteArray := prog_1_method_13_code
def yX10_roam : MethodName := ⟨RX10, "roam", "()I"⟩
abbrev cX10_cell : ByteArray := prog_1_method_14_code
def yX10_cell : MethodName := ⟨RX10, "cell", "(IIII)I"⟩
abbrev cX10_cursor : ByteArray := prog_1_method_15_code
def yX10_cursor : MethodName := ⟨RX10, "cursor", "(II)I"⟩
abbrev cX10_alike : ByteArray := prog_1_method_16_code
def yX10_alike : MethodName := ⟨RX10, "alike", "()Z"⟩
abbrev cX10_state : ByteArray := prog_1_method_17_code
def yX10_state : MethodName := ⟨RX10, "state", "(II)I"⟩
abbrev cX10_kept : ByteArray := prog_1_method_18_code
def yX10_kept : MethodName := ⟨RX10, "kept", "(II)I"⟩
abbrev cX10_guess : ByteArray := prog_1_method_19_code
def yX10_guess : MethodName := ⟨RX10, "guess", "(II)I"⟩
abbrev cX10_letter : ByteArray := prog_1_method_20_code
def yX10_letter : MethodName := ⟨RX10, "letter", "(III)I"⟩
abbrev cX10_count : ByteArray := prog_1_method_21_code
def yX10_count : MethodName := ⟨RX10, "count", "(I)I"⟩
abbrev cX10_startOver : ByteArray := prog_1_method_22_code
def yX10_startOver : MethodName := ⟨RX10, "startOver", "(III)V"⟩
abbrev cX10_runTick : ByteArray := prog_1_method_23_code
def yX10_runTick : MethodName := ⟨RX10, "runTick", "()I"⟩
abbrev cX10_send : ByteArray := prog_1_method_24_code
def yX10_send : MethodName := ⟨RX10, "send", "(LFarTypewriter$Line;)V"⟩
abbrev cX10_deliver : ByteArray := prog_1_method_25_code
def yX10_deliver : MethodName := ⟨RX10, "deliver", "(ILFarTypewriter$Letter;Z)V"⟩
abbrev cX10_lineOf : ByteArray := prog_1_method_26_code
def yX10_lineOf : MethodName := ⟨RX10, "lineOf", "(I)LFarTypewriter$Line;"⟩
abbrev cX10_canCarry : ByteArray := prog_1_method_27_code
def yX10_canCarry : MethodName := ⟨RX10, "canCarry", "(LFarTypewriter$Letter;II)Z"⟩
abbrev cX10_isProgram : ByteArray := prog_1_method_28_code
def yX10_isProgram : MethodName := ⟨RX10, "isProgram", "(I)Z"⟩
abbrev cX10_isSign : ByteArray := prog_1_method_29_code
def yX10_isSign : MethodName := ⟨RX10, "isSign", "(I)Z"⟩
abbrev cX10_isKey : ByteArray := prog_1_method_30_code
def yX10_isKey : MethodName := ⟨RX10, "isKey", "(I)Z"⟩
abbrev cX10_isPlace : ByteArray := prog_1_method_31_code
def yX10_isPlace : MethodName := ⟨RX10, "isPlace", "(II)Z"⟩
def RX11 : String := "FarTypewriterModel"
def TX11 : u_T := fun k => match k with
  | 0 => ("FarTypewriterModel", "letter", "[I", true)
  | 1 => ("FarTypewriterModel", "mark", "[I", true)
  | 2 => ("FarTypewriterModel", "cursorRow", "[I", true)
  | 3 => ("FarTypewriterModel", "cursorColumn", "[I", true)
  | 4 => ("FarTypewriterModel", "number", "[I", true)
  | 5 => ("FarTypewriterModel", "tookThen", "[I", true)
  | 6 => ("FarTypewriterModel", "pen", "I", false)
  | 7 => ("FarTypewriterModel", "program", "I", false)
  | 8 => ("FarTypewriterModel", "passed", "I", false)
  | 9 => ("FarTypewriterModel", "frame", "I", false)
  | 10 => ("FarTypewriterModel", "again", "I", false)
  | 11 => ("FarTypewriterModel", "clock", "I", false)
  | 12 => ("FarTypewriterModel", "took", "I", false)
  | 13 => ("FarTypewriterModel", "sure", "I", false)
  | 14 => ("FarTypewriterModel", "farStates", "I", false)
  | 15 => ("FarTypewriterModel", "farLast", "I", false)
  | 16 => ("FarTypewriterModel", "farSent", "I", false)
  | 17 => ("FarTypewriterModel", "farOwes", "Z", false)
  | 18 => ("FarTypewriterModel", "farAddress", "I", false)
  | 19 => ("FarTypewriterModel", "mostKeys", "I", false)
  | 20 => ("FarTypewriterModel", "key", "[I", true)
  | 21 => ("FarTypewriterModel", "keys", "I", false)
  | 22 => ("FarTypewriterModel", "known", "I", false)
  | 23 => ("FarTypewriterModel", "nearStates", "I", false)
  | 24 => ("FarTypewriterModel", "nearLast", "I", false)
  | 25 => ("FarTypewriterModel", "nearSent", "I", false)
  | 26 => ("FarTypewriterModel", "nearOwes", "Z", false)
  | 27 => ("FarTypewriterModel", "address", "I", false)
  | 28 => ("FarTypewriterModel", "sureTold", "I", false)
  | 29 => ("FarTypewriterModel", "counts", "[I", true)
  | 30 => ("FarTypewriterModel", "many", "[I", true)
  | 31 => ("FarTypewriterModel", "bytes", "[I", true)
  | 32 => ("FarTypewriterModel", "sizes", "[I", true)
  | 33 => ("FarTypewriterModel", "hand", "[I", true)
  | 34 => ("FarTypewriterModel", "size", "I", false)
  | 35 => ("FarTypewriterModel", "first", "I", false)
  | 36 => ("FarTypewriterModel", "last", "I", false)
  | 37 => ("FarTypewriterModel", "guesses", "I", false)
  | 38 => ("FarTypewriterModel", "confirmed", "I", false)
  | 39 => ("FarTypewriterModel", "age", "I", false)
  | 40 => ("FarTypewriterModel", "guessKey", "[I", true)
  | 41 => ("FarTypewriterModel", "guessAge", "[I", true)
  | 42 => ("FarTypewriterModel", "guessCell", "[I", true)
  | 43 => ("FarTypewriterModel", "guessLetter", "[I", true)
  | 44 => ("FarTypewriterModel", "guessRow", "[I", true)
  | _ => ("FarTypewriterModel", "guessColumn", "[I", true)
def tyX11 : Nat → FieldType := fun k => match k with
  | 0 => .array .int
  | 1 => .array .int
  | 2 => .array .int
  | 3 => .array .int
  | 4 => .array .int
  | 5 => .array .int
  | 6 => .int
  | 7 => .int
  | 8 => .int
  | 9 => .int
  | 10 => .int
  | 11 => .int
  | 12 => .int
  | 13 => .int
  | 14 => .int
  | 15 => .int
  | 16 => .int
  | 17 => .boolean
  | 18 => .int
  | 19 => .int
  | 20 => .array .int
  | 21 => .int
  | 22 => .int
  | 23 => .int
  | 24 => .int
  | 25 => .int
  | 26 => .boolean
  | 27 => .int
  | 28 => .int
  | 29 => .array .int
  | 30 => .array .int
  | 31 => .array .int
  | 32 => .array .int
  | 33 => .array .int
  | 34 => .int
  | 35 => .int
  | 36 => .int
  | 37 => .int
  | 38 => .int
  | 39 => .int
  | 40 => .array .int
  | 41 => .array .int
  | 42 => .array .int
  | 43 => .array .int
  | 44 => .array .int
  | _ => .array .int
abbrev wsX110 : List Cond := u_ws RX11 TX11 46
theorem nmX11 : ∀ a, a < 46 → ∀ b, b < 46 → a ≠ b → (TX11 a).2.1 ≠ (TX11 b).2.1 := by decide +kernel
theorem tyX11_ok : ∀ k, k < 46 → parseFieldDescriptor (TX11 k).2.2.1 = some (tyX11 k) := by decide +kernel
abbrev cX11_init : ByteArray := prog_13_method_1_code
def yX11_init : MethodName := ⟨RX11, "<init>", "()V"⟩
abbrev cX11_blank : ByteArray := prog_13_method_2_code
def yX11_blank : MethodName := ⟨RX11, "blank", "(III)V"⟩
abbrev cX11_copies : ByteArray := prog_13_method_3_code
def yX11_copies : MethodName := ⟨RX11, "copies", "(II)V"⟩
abbrev cX11_scrolls : ByteArray := prog_13_method_4_code
def yX11_scrolls : MethodName := ⟨RX11, "scrolls", "(II)V"⟩
abbrev cX11_newLine : ByteArray := prog_13_method_5_code
def yX11_newLine : MethodName := ⟨RX11, "newLine", "()V"⟩
abbrev cX11_puts : ByteArray := prog_13_method_6_code
def yX11_puts : MethodName := ⟨RX11, "puts", "(I)V"⟩
abbrev cX11_back : ByteArray := prog_13_method_7_code
def yX11_back : MethodName := ⟨RX11, "back", "()V"⟩
abbrev cX11_isLetter : ByteArray := prog_13_method_8_code
def yX11_isLetter : MethodName := ⟨RX11, "isLetter", "(I)Z"⟩
abbrev cX11_echo : ByteArray := prog_13_method_9_code
def yX11_echo : MethodName := ⟨RX11, "echo", "(I)V"⟩
abbrev cX11_lines : ByteArray := prog_13_method_10_code
def yX11_lines : MethodName := ⟨RX11, "lines", "(I)V"⟩
abbrev cX11_pass : ByteArray := prog_13_method_11_code
def yX11_pass : MethodName := ⟨RX11, "pass", "(I)V"⟩
abbrev cX11_pages : ByteArray := prog_13_method_12_code
def yX11_pages : MethodName := ⟨RX11, "pages", "(I)V"⟩
abbrev cX11_takesKey : ByteArray := prog_13_method_13_code
def yX11_takesKey : MethodName := ⟨RX11, "takesKey", "(I)V"⟩
abbrev cX11_begins : ByteArray := prog_13_method_14_code
def yX11_begins : MethodName := ⟨RX11, "begins", "(III)V"⟩
abbrev cX11_open : ByteArray := prog_13_method_15_code
def yX11_open : MethodName := ⟨RX11, "open", "(III)Z"⟩
abbrev cX11_program : ByteArray := prog_13_method_16_code
def yX11_program : MethodName := ⟨RX11, "program", "(I)I"⟩
abbrev cX11_write : ByteArray := prog_13_method_17_code
def yX11_write : MethodName := ⟨RX11, "write", "(I)Z"⟩
abbrev cX11_isCell : ByteArray := prog_13_method_18_code
def yX11_isCell : MethodName := ⟨RX11, "isCell", "(II)Z"⟩
abbrev cX11_move : ByteArray := prog_13_method_19_code
def yX11_move : MethodName := ⟨RX11, "move", "(II)Z"⟩
abbrev cX11_wipe : ByteArray := prog_13_method_20_code
def yX11_wipe : MethodName := ⟨RX11, "wipe", "(I)Z"⟩
abbrev cX11_scroll : ByteArray := prog_13_method_21_code
def yX11_scroll : MethodName := ⟨RX11, "scroll", "(I)Z"⟩
abbrev cX11_pen : ByteArray := prog_13_method_22_code
def yX11_pen : MethodName := ⟨RX11, "pen", "(I)I"⟩
abbrev cX11_adds : ByteArray := prog_13_method_23_code
def yX11_adds : MethodName := ⟨RX11, "adds", "(I)V"⟩
abbrev cX11_addsTwo : ByteArray := prog_13_method_24_code
def yX11_addsTwo : MethodName := ⟨RX11, "addsTwo", "(I)V"⟩
abbrev cX11_sumOf : ByteArray := prog_13_method_25_code
def yX11_sumOf : MethodName := ⟨RX11, "sumOf", "(I)I"⟩
abbrev cX11_sends : ByteArray := prog_13_method_26_code
def yX11_sends : MethodName := ⟨RX11, "sends", "(I)V"⟩
abbrev cX11_farNewest : ByteArray := prog_13_method_27_code
def yX11_farNewest : MethodName := ⟨RX11, "farNewest", "()I"⟩
abbrev cX11_nearNewest : ByteArray := prog_13_method_28_code
def yX11_nearNewest : MethodName := ⟨RX11, "nearNewest", "()I"⟩
abbrev cX11_sameCells : ByteArray := prog_13_method_29_code
def yX11_sameCells : MethodName := ⟨RX11, "sameCells", "(II)Z"⟩
abbrev cX11_goBelow : ByteArray := prog_13_method_30_code
def yX11_goBelow : MethodName := ⟨RX11, "goBelow", "(III)I"⟩
abbrev cX11_stateOf : ByteArray := prog_13_method_31_code
def yX11_stateOf : MethodName := ⟨RX11, "stateOf", "(III)I"⟩
abbrev cX11_differs : ByteArray := prog_13_method_32_code
def yX11_differs : MethodName := ⟨RX11, "differs", "(III)Z"⟩
abbrev cX11_areLike : ByteArray := prog_13_method_33_code
def yX11_areLike : MethodName := ⟨RX11, "areLike", "(II)Z"⟩
abbrev cX11_rowsOf : ByteArray := prog_13_method_34_code
def yX11_rowsOf : MethodName := ⟨RX11, "rowsOf", "(IIZ)I"⟩
abbrev cX11_difference : ByteArray := prog_13_method_35_code
def yX11_difference : MethodName := ⟨RX11, "difference", "(II)V"⟩
abbrev cX11_laid : ByteArray := prog_13_method_36_code
def yX11_laid : MethodName := ⟨RX11, "laid", "(III)V"⟩
abbrev cX11_farTick : ByteArray := prog_13_method_37_code
def yX11_farTick : MethodName := ⟨RX11, "farTick", "()V"⟩
abbrev cX11_nearTick : ByteArray := prog_13_method_38_code
def yX11_nearTick : MethodName := ⟨RX11, "nearTick", "()V"⟩
abbrev cX11_tick : ByteArray := prog_13_method_39_code
def yX11_tick : MethodName := ⟨RX11, "tick", "()I"⟩
abbrev cX11_twoAt : ByteArray := prog_13_method_40_code
def yX11_twoAt : MethodName := ⟨RX11, "twoAt", "(I)I"⟩
abbrev cX11_byFar : ByteArray := prog_13_method_41_code
def yX11_byFar : MethodName := ⟨RX11, "byFar", "()V"⟩
abbrev cX11_byNear : ByteArray := prog_13_method_42_code
def yX11_byNear : MethodName := ⟨RX11, "byNear", "()V"⟩
abbrev cX11_taken : ByteArray := prog_13_method_43_code
def yX11_taken : MethodName := ⟨RX11, "taken", "(IZ)V"⟩
abbrev cX11_takesHand : ByteArray := prog_13_method_44_code
def yX11_takesHand : MethodName := ⟨RX11, "takesHand", "(II)V"⟩
abbrev cX11_drops : ByteArray := prog_13_method_45_code
def yX11_drops : MethodName := ⟨RX11, "drops", "(II)V"⟩
abbrev cX11_isLetterOf : ByteArray := prog_13_method_46_code
def yX11_isLetterOf : MethodName := ⟨RX11, "isLetterOf", "(II)Z"⟩
abbrev cX11_carry : ByteArray := prog_13_method_47_code
def yX11_carry : MethodName := ⟨RX11, "carry", "(IIII)I"⟩
abbrev cX11_round : ByteArray := prog_13_method_48_code
def yX11_round : MethodName := ⟨RX11, "round", "()I"⟩
abbrev cX11_roam : ByteArray := prog_13_method_49_code
def yX11_roam : MethodName := ⟨RX11, "roam", "()I"⟩
abbrev cX11_guess : ByteArray := prog_13_method_50_code
def yX11_guess : MethodName := ⟨RX11, "guess", "(IIII)V"⟩
abbrev cX11_key : ByteArray := prog_13_method_51_code
def yX11_key : MethodName := ⟨RX11, "key", "(I)I"⟩
abbrev cX11_settles : ByteArray := prog_13_method_52_code
def yX11_settles : MethodName := ⟨RX11, "settles", "()V"⟩
abbrev cX11_screenOf : ByteArray := prog_13_method_53_code
def yX11_screenOf : MethodName := ⟨RX11, "screenOf", "(I)I"⟩
abbrev cX11_cell : ByteArray := prog_13_method_54_code
def yX11_cell : MethodName := ⟨RX11, "cell", "(IIII)I"⟩
abbrev cX11_cursor : ByteArray := prog_13_method_55_code
def yX11_cursor : MethodName := ⟨RX11, "cursor", "(II)I"⟩
abbrev cX11_alike : ByteArray := prog_13_method_56_code
def yX11_alike : MethodName := ⟨RX11, "alike", "()Z"⟩
abbrev cX11_state : ByteArray := prog_13_method_57_code
def yX11_state : MethodName := ⟨RX11, "state", "(II)I"⟩
abbrev cX11_kept : ByteArray := prog_13_method_58_code
def yX11_kept : MethodName := ⟨RX11, "kept", "(II)I"⟩
abbrev cX11_guess_ : ByteArray := prog_13_method_59_code
def yX11_guess_ : MethodName := ⟨RX11, "guess", "(II)I"⟩
abbrev cX11_letter : ByteArray := prog_13_method_60_code
def yX11_letter : MethodName := ⟨RX11, "letter", "(III)I"⟩
abbrev cX11_count : ByteArray := prog_13_method_61_code
def yX11_count : MethodName := ⟨RX11, "count", "(I)I"⟩
def RJ9 : String := "java/lang/Math"
def TJ9 : u_T := fun k => match k with
  | _ => ("", "", "", false)
def tyJ9 : Nat → FieldType := fun k => match k with
  | _ => .int
abbrev wsJ90 : List Cond := u_ws RJ9 TJ9 0
theorem nmJ9 : ∀ a, a < 0 → ∀ b, b < 0 → a ≠ b → (TJ9 a).2.1 ≠ (TJ9 b).2.1 := by decide +kernel
theorem tyJ9_ok : ∀ k, k < 0 → parseFieldDescriptor (TJ9 k).2.2.1 = some (tyJ9 k) := by decide +kernel
abbrev cJ9_max_7cf53 : ByteArray := prog_14_method_65_code
def yJ9_max_7cf53 : MethodName := ⟨RJ9, "max", "(II)I"⟩
abbrev cJ9_min_7cf53 : ByteArray := prog_14_method_69_code
def yJ9_min_7cf53 : MethodName := ⟨RJ9, "min", "(II)I"⟩
def RJ10 : String := "java/lang/System"
def TJ10 : u_T := fun k => match k with
  | _ => ("", "", "", false)
def tyJ10 : Nat → FieldType := fun k => match k with
  | _ => .int
abbrev wsJ100 : List Cond := u_ws RJ10 TJ10 0
theorem nmJ10 : ∀ a, a < 0 → ∀ b, b < 0 → a ≠ b → (TJ10 a).2.1 ≠ (TJ10 b).2.1 := by decide +kernel
theorem tyJ10_ok : ∀ k, k < 0 → parseFieldDescriptor (TJ10 k).2.2.1 = some (tyJ10 k) := by decide +kernel
def RJ7 : String := "java/util/Arrays"
def TJ7 : u_T := fun k => match k with
  | _ => ("", "", "", false)
def tyJ7 : Nat → FieldType := fun k => match k with
  | _ => .int
abbrev wsJ70 : List Cond := u_ws RJ7 TJ7 0
theorem nmJ7 : ∀ a, a < 0 → ∀ b, b < 0 → a ≠ b → (TJ7 a).2.1 ≠ (TJ7 b).2.1 := by decide +kernel
theorem tyJ7_ok : ∀ k, k < 0 → parseFieldDescriptor (TJ7 k).2.2.1 = some (tyJ7 k) := by decide +kernel
abbrev cJ7_fill_53178 : ByteArray := prog_16_method_103_code
def yJ7_fill_53178 : MethodName := ⟨RJ7, "fill", "([II)V"⟩
def RL : String := "FarTypewriterLaw"
abbrev cL_law : ByteArray := code
def yL_law : MethodName := ⟨RL, "law", "([I)Z"⟩
abbrev vwCl : List vw_C := [(RX1, TX1, 11), (RX2, TX2, 7), (RX3, TX3, 7), (RX4, TX4, 2), (RX5, TX5, 2), (RX6, TX6, 11), (RX7, TX7, 3), (RX8, TX8, 3), (RX9, TX9, 3), (RX10, TX10, 9), (RX11, TX11, 46)]
/-- the owners: the eleven classes with objects, then the rest -/
def zO : List String := [RX1, RX2, RX3, RX4, RX5, RX6, RX7, RX8, RX9, RX10, RX11, RX0, RL, RJ9, RJ7]
def zTy : List (Nat → FieldType) := [tyX1, tyX2, tyX3, tyX4, tyX5, tyX6, tyX7, tyX8, tyX9, tyX10, tyX11]
/-- the methods: owner, name, code, locals, answer, parameters, frames below, words of locals below -/
def zmt : List (Nat × MethodName × ByteArray × Nat × Option FieldType × Nat × Nat × Nat) := [
  (12, yL_law, cL_law, 4, (some .boolean), 1, 10, 224),
  (0, yX1_init, cX1_init, 1, none, 0, 4, 83),
  (0, yX1_reset, cX1_reset, 2, none, 1, 3, 64),
  (0, yX1_keepState, cX1_keepState, 3, none, 0, 4, 87),
  (0, yX1_isDue, cX1_isDue, 6, (some .boolean), 3, 0, 0),
  (0, yX1_compose, cX1_compose, 5, none, 2, 5, 122),
  (0, yX1_take, cX1_take, 5, (some .int), 1, 5, 109),
  (0, yX1_believe, cX1_believe, 2, none, 1, 2, 45),
  (0, yX1_press, cX1_press, 2, none, 1, 4, 88),
  (0, yX1_isLeftByLines, cX1_isLeftByLines, 2, (some .boolean), 1, 1, 20),
  (0, yX1_echo, cX1_echo, 2, none, 1, 3, 66),
  (0, yX1_pressPass, cX1_pressPass, 3, none, 1, 3, 66),
  (0, yX1_pressPager, cX1_pressPager, 2, none, 1, 2, 46),
  (0, yX1_report, cX1_report, 2, (some .int), 1, 0, 0),
  (1, yX2_init, cX2_init, 1, none, 0, 1, 20),
  (1, yX2_isRight, cX2_isRight, 2, (some .boolean), 1, 1, 22),
  (2, yX3_init, cX3_init, 1, none, 0, 1, 20),
  (2, yX3_reset, cX3_reset, 1, none, 0, 0, 0),
  (2, yX3_foresee, cX3_foresee, 7, none, 3, 4, 90),
  (2, yX3_foreseeSign, cX3_foreseeSign, 7, none, 4, 3, 64),
  (2, yX3_append, cX3_append, 5, (some (.object "FarTypewriter$Guess")), 3, 2, 40),
  (2, yX3_settle, cX3_settle, 5, none, 1, 2, 45),
  (2, yX3_takeBackFrom, cX3_takeBackFrom, 2, none, 1, 0, 0),
  (2, yX3_dropFirst, cX3_dropFirst, 3, none, 1, 1, 23),
  (2, yX3_swap, cX3_swap, 4, none, 2, 0, 0),
  (2, yX3_find, cX3_find, 2, (some (.object "FarTypewriter$Guess")), 1, 0, 0),
  (2, yX3_isLaid, cX3_isLaid, 3, (some .boolean), 2, 0, 0),
  (2, yX3_lastLaid, cX3_lastLaid, 4, (some (.object "FarTypewriter$Guess")), 1, 1, 22),
  (2, yX3_signAt, cX3_signAt, 6, (some .int), 3, 1, 22),
  (2, yX3_report, cX3_report, 4, (some .int), 2, 1, 22),
  (3, yX4_init, cX4_init, 2, none, 1, 1, 40),
  (3, yX4_put, cX4_put, 2, none, 1, 0, 0),
  (3, yX4_putNumber, cX4_putNumber, 2, none, 1, 1, 21),
  (3, yX4_seal, cX4_seal, 1, none, 0, 2, 44),
  (3, yX4_at, cX4_at, 2, (some .int), 1, 0, 0),
  (3, yX4_numberAt, cX4_numberAt, 2, (some .int), 1, 1, 21),
  (3, yX4_isWhole, cX4_isWhole, 3, (some .boolean), 1, 2, 44),
  (3, yX4_bend, cX4_bend, 3, (some .boolean), 2, 0, 0),
  (3, yX4_copyFrom, cX4_copyFrom, 3, none, 1, 1, 21),
  (3, yX4_sumAhead, cX4_sumAhead, 4, (some .int), 1, 1, 21),
  (4, yX5_init, cX5_init, 1, none, 0, 1, 20),
  (4, yX5_find, cX5_find, 2, (some (.object "FarTypewriter$Letter")), 1, 0, 0),
  (4, yX5_append, cX5_append, 3, (some .boolean), 1, 2, 61),
  (4, yX5_takeOut, cX5_takeOut, 4, none, 1, 0, 0),
  (5, yX6_init, cX6_init, 1, none, 0, 4, 83),
  (5, yX6_reset, cX6_reset, 1, none, 0, 3, 64),
  (5, yX6_type, cX6_type, 3, (some .int), 2, 5, 116),
  (5, yX6_isDue, cX6_isDue, 5, (some .boolean), 3, 0, 0),
  (5, yX6_compose, cX6_compose, 4, none, 2, 3, 64),
  (5, yX6_take, cX6_take, 4, (some .int), 1, 5, 112),
  (5, yX6_takeState, cX6_takeState, 6, none, 3, 4, 87),
  (5, yX6_report, cX6_report, 2, (some .int), 1, 0, 0),
  (6, yX7_init, cX7_init, 1, none, 0, 1, 23),
  (6, yX7_clear, cX7_clear, 1, none, 0, 1, 23),
  (6, yX7_copyFrom, cX7_copyFrom, 2, none, 1, 1, 40),
  (6, yX7_isLike, cX7_isLike, 3, (some .boolean), 1, 0, 0),
  (6, yX7_at, cX7_at, 3, (some .int), 2, 0, 0),
  (6, yX7_set, cX7_set, 4, none, 3, 0, 0),
  (6, yX7_putSign, cX7_putSign, 3, none, 2, 2, 44),
  (6, yX7_newLine, cX7_newLine, 1, none, 0, 1, 24),
  (6, yX7_rubOut, cX7_rubOut, 1, none, 0, 1, 23),
  (6, yX7_step, cX7_step, 5, none, 2, 0, 0),
  (6, yX7_scrollBy, cX7_scrollBy, 5, none, 1, 0, 0),
  (6, yX7_fillRow, cX7_fillRow, 4, none, 2, 1, 23),
  (7, yX8_init, cX8_init, 1, none, 0, 2, 43),
  (7, yX8_become, cX8_become, 3, none, 2, 0, 0),
  (8, yX9_init, cX9_init, 1, none, 0, 3, 63),
  (8, yX9_reset, cX9_reset, 2, none, 0, 2, 43),
  (8, yX9_find, cX9_find, 2, (some (.object "FarTypewriter$State")), 1, 0, 0),
  (8, yX9_findNumber, cX9_findNumber, 4, (some (.object "FarTypewriter$State")), 1, 0, 0),
  (8, yX9_isFull, cX9_isFull, 1, (some .boolean), 0, 0, 0),
  (8, yX9_keep, cX9_keep, 5, none, 3, 3, 63),
  (8, yX9_dropBelow, cX9_dropBelow, 4, none, 1, 1, 22),
  (8, yX9_isBelow, cX9_isBelow, 2, (some .boolean), 2, 0, 0),
  (8, yX9_moveFirstBehind, cX9_moveFirstBehind, 3, none, 0, 0, 0),
  (9, yX10_init, cX10_init, 1, none, 0, 5, 108),
  (9, yX10_open, cX10_open, 5, (some .boolean), 3, 5, 108),
  (9, yX10_program, cX10_program, 3, (some .int), 1, 1, 20),
  (9, yX10_key, cX10_key, 2, (some .int), 1, 6, 138),
  (9, yX10_write, cX10_write, 2, (some .boolean), 1, 3, 66),
  (9, yX10_move, cX10_move, 4, (some .boolean), 2, 1, 21),
  (9, yX10_wipe, cX10_wipe, 3, (some .boolean), 1, 2, 46),
  (9, yX10_scroll, cX10_scroll, 3, (some .boolean), 1, 1, 24),
  (9, yX10_pen, cX10_pen, 3, (some .int), 1, 0, 0),
  (9, yX10_tick, cX10_tick, 1, (some .int), 0, 7, 167),
  (9, yX10_round, cX10_round, 5, (some .int), 0, 7, 167),
  (9, yX10_carry, cX10_carry, 8, (some .int), 4, 7, 159),
  (9, yX10_roam, cX10_roam, 1, (some .int), 0, 0, 0),
  (9, yX10_cell, cX10_cell, 8, (some .int), 4, 2, 47),
  (9, yX10_cursor, cX10_cursor, 5, (some .int), 2, 2, 45),
  (9, yX10_alike, cX10_alike, 1, (some .boolean), 0, 1, 22),
  (9, yX10_state, cX10_state, 3, (some .int), 2, 1, 21),
  (9, yX10_kept, cX10_kept, 4, (some .int), 2, 1, 21),
  (9, yX10_guess, cX10_guess, 3, (some .int), 2, 2, 45),
  (9, yX10_letter, cX10_letter, 6, (some .int), 3, 1, 21),
  (9, yX10_count, cX10_count, 2, (some .int), 1, 0, 0),
  (9, yX10_startOver, cX10_startOver, 4, none, 3, 4, 85),
  (9, yX10_runTick, cX10_runTick, 2, (some .int), 0, 6, 146),
  (9, yX10_send, cX10_send, 2, none, 1, 3, 83),
  (9, yX10_deliver, cX10_deliver, 5, none, 3, 6, 135),
  (9, yX10_lineOf, cX10_lineOf, 2, (some (.object "FarTypewriter$Line")), 1, 0, 0),
  (9, yX10_canCarry, cX10_canCarry, 3, (some .boolean), 3, 0, 0),
  (9, yX10_isProgram, cX10_isProgram, 1, (some .boolean), 1, 0, 0),
  (9, yX10_isSign, cX10_isSign, 1, (some .boolean), 1, 0, 0),
  (9, yX10_isKey, cX10_isKey, 1, (some .boolean), 1, 1, 20),
  (9, yX10_isPlace, cX10_isPlace, 2, (some .boolean), 2, 0, 0),
  (10, yX11_init, cX11_init, 1, none, 0, 2, 48),
  (10, yX11_blank, cX11_blank, 5, none, 3, 0, 0),
  (10, yX11_copies, cX11_copies, 4, none, 2, 0, 0),
  (10, yX11_scrolls, cX11_scrolls, 4, none, 2, 1, 24),
  (10, yX11_newLine, cX11_newLine, 1, none, 0, 2, 47),
  (10, yX11_puts, cX11_puts, 3, none, 1, 3, 67),
  (10, yX11_back, cX11_back, 2, none, 0, 1, 24),
  (10, yX11_isLetter, cX11_isLetter, 1, (some .boolean), 1, 0, 0),
  (10, yX11_echo, cX11_echo, 2, none, 1, 4, 89),
  (10, yX11_lines, cX11_lines, 2, none, 1, 5, 110),
  (10, yX11_pass, cX11_pass, 3, none, 1, 4, 89),
  (10, yX11_pages, cX11_pages, 3, none, 1, 2, 47),
  (10, yX11_takesKey, cX11_takesKey, 2, none, 1, 6, 131),
  (10, yX11_begins, cX11_begins, 5, none, 3, 1, 24),
  (10, yX11_open, cX11_open, 4, (some .boolean), 3, 2, 48),
  (10, yX11_program, cX11_program, 3, (some .int), 1, 0, 0),
  (10, yX11_write, cX11_write, 2, (some .boolean), 1, 4, 89),
  (10, yX11_isCell, cX11_isCell, 2, (some .boolean), 2, 0, 0),
  (10, yX11_move, cX11_move, 3, (some .boolean), 2, 1, 21),
  (10, yX11_wipe, cX11_wipe, 2, (some .boolean), 1, 1, 24),
  (10, yX11_scroll, cX11_scroll, 2, (some .boolean), 1, 2, 47),
  (10, yX11_pen, cX11_pen, 3, (some .int), 1, 0, 0),
  (10, yX11_adds, cX11_adds, 2, none, 1, 0, 0),
  (10, yX11_addsTwo, cX11_addsTwo, 2, none, 1, 1, 21),
  (10, yX11_sumOf, cX11_sumOf, 4, (some .int), 1, 0, 0),
  (10, yX11_sends, cX11_sends, 4, none, 1, 2, 42),
  (10, yX11_farNewest, cX11_farNewest, 1, (some .int), 0, 0, 0),
  (10, yX11_nearNewest, cX11_nearNewest, 1, (some .int), 0, 0, 0),
  (10, yX11_sameCells, cX11_sameCells, 4, (some .boolean), 2, 0, 0),
  (10, yX11_goBelow, cX11_goBelow, 6, (some .int), 3, 1, 23),
  (10, yX11_stateOf, cX11_stateOf, 5, (some .int), 3, 0, 0),
  (10, yX11_differs, cX11_differs, 7, (some .boolean), 3, 0, 0),
  (10, yX11_areLike, cX11_areLike, 6, (some .boolean), 2, 0, 0),
  (10, yX11_rowsOf, cX11_rowsOf, 9, (some .int), 3, 1, 26),
  (10, yX11_difference, cX11_difference, 7, none, 2, 2, 54),
  (10, yX11_laid, cX11_laid, 10, none, 3, 2, 47),
  (10, yX11_farTick, cX11_farTick, 4, none, 0, 3, 80),
  (10, yX11_nearTick, cX11_nearTick, 3, none, 0, 3, 65),
  (10, yX11_tick, cX11_tick, 2, (some .int), 0, 4, 103),
  (10, yX11_twoAt, cX11_twoAt, 2, (some .int), 1, 0, 0),
  (10, yX11_byFar, cX11_byFar, 4, none, 0, 7, 152),
  (10, yX11_byNear, cX11_byNear, 5, none, 0, 3, 76),
  (10, yX11_taken, cX11_taken, 5, none, 2, 8, 175),
  (10, yX11_takesHand, cX11_takesHand, 4, none, 2, 0, 0),
  (10, yX11_drops, cX11_drops, 6, none, 2, 0, 0),
  (10, yX11_isLetterOf, cX11_isLetterOf, 3, (some .boolean), 2, 0, 0),
  (10, yX11_carry, cX11_carry, 6, (some .int), 4, 9, 199),
  (10, yX11_round, cX11_round, 3, (some .int), 0, 9, 199),
  (10, yX11_roam, cX11_roam, 1, (some .int), 0, 0, 0),
  (10, yX11_guess, cX11_guess, 5, none, 4, 0, 0),
  (10, yX11_key, cX11_key, 7, (some .int), 1, 1, 24),
  (10, yX11_settles, cX11_settles, 5, none, 0, 1, 20),
  (10, yX11_screenOf, cX11_screenOf, 3, (some .int), 1, 1, 23),
  (10, yX11_cell, cX11_cell, 7, (some .int), 4, 2, 45),
  (10, yX11_cursor, cX11_cursor, 4, (some .int), 2, 2, 45),
  (10, yX11_alike, cX11_alike, 1, (some .boolean), 0, 1, 23),
  (10, yX11_state, cX11_state, 4, (some .int), 2, 1, 20),
  (10, yX11_kept, cX11_kept, 3, (some .int), 2, 0, 0),
  (10, yX11_guess_, cX11_guess_, 3, (some .int), 2, 0, 0),
  (10, yX11_letter, cX11_letter, 5, (some .int), 3, 1, 22),
  (10, yX11_count, cX11_count, 2, (some .int), 1, 0, 0),
  (11, yX0_append, cX0_append, 6, none, 3, 4, 97),
  (11, yX0_appendRow, cX0_appendRow, 9, none, 5, 2, 46),
  (11, yX0_bestShift, cX0_bestShift, 6, (some .int), 2, 3, 72),
  (11, yX0_bytesFor, cX0_bytesFor, 7, (some .int), 3, 2, 46),
  (11, yX0_firstChange, cX0_firstChange, 5, (some .int), 4, 1, 22),
  (11, yX0_lastChange, cX0_lastChange, 5, (some .int), 4, 1, 22),
  (11, yX0_isUniform, cX0_isUniform, 5, (some .boolean), 4, 1, 22),
  (11, yX0_lay, cX0_lay, 6, none, 2, 2, 51),
  (11, yX0_layRow, cX0_layRow, 9, none, 3, 1, 23),
  (14, yJ7_fill_53178, cJ7_fill_53178, 4, none, 2, 0, 0)]
abbrev mL_law : Nat := 0
abbrev mX1_init : Nat := 1
abbrev mX1_reset : Nat := 2
abbrev mX1_keepState : Nat := 3
abbrev mX1_isDue : Nat := 4
abbrev mX1_compose : Nat := 5
abbrev mX1_take : Nat := 6
abbrev mX1_believe : Nat := 7
abbrev mX1_press : Nat := 8
abbrev mX1_isLeftByLines : Nat := 9
abbrev mX1_echo : Nat := 10
abbrev mX1_pressPass : Nat := 11
abbrev mX1_pressPager : Nat := 12
abbrev mX1_report : Nat := 13
abbrev mX2_init : Nat := 14
abbrev mX2_isRight : Nat := 15
abbrev mX3_init : Nat := 16
abbrev mX3_reset : Nat := 17
abbrev mX3_foresee : Nat := 18
abbrev mX3_foreseeSign : Nat := 19
abbrev mX3_append : Nat := 20
abbrev mX3_settle : Nat := 21
abbrev mX3_takeBackFrom : Nat := 22
abbrev mX3_dropFirst : Nat := 23
abbrev mX3_swap : Nat := 24
abbrev mX3_find : Nat := 25
abbrev mX3_isLaid : Nat := 26
abbrev mX3_lastLaid : Nat := 27
abbrev mX3_signAt : Nat := 28
abbrev mX3_report : Nat := 29
abbrev mX4_init : Nat := 30
abbrev mX4_put : Nat := 31
abbrev mX4_putNumber : Nat := 32
abbrev mX4_seal : Nat := 33
abbrev mX4_at : Nat := 34
abbrev mX4_numberAt : Nat := 35
abbrev mX4_isWhole : Nat := 36
abbrev mX4_bend : Nat := 37
abbrev mX4_copyFrom : Nat := 38
abbrev mX4_sumAhead : Nat := 39
abbrev mX5_init : Nat := 40
abbrev mX5_find : Nat := 41
abbrev mX5_append : Nat := 42
abbrev mX5_takeOut : Nat := 43
abbrev mX6_init : Nat := 44
abbrev mX6_reset : Nat := 45
abbrev mX6_type : Nat := 46
abbrev mX6_isDue : Nat := 47
abbrev mX6_compose : Nat := 48
abbrev mX6_take : Nat := 49
abbrev mX6_takeState : Nat := 50
abbrev mX6_report : Nat := 51
abbrev mX7_init : Nat := 52
abbrev mX7_clear : Nat := 53
abbrev mX7_copyFrom : Nat := 54
abbrev mX7_isLike : Nat := 55
abbrev mX7_at : Nat := 56
abbrev mX7_set : Nat := 57
abbrev mX7_putSign : Nat := 58
abbrev mX7_newLine : Nat := 59
abbrev mX7_rubOut : Nat := 60
abbrev mX7_step : Nat := 61
abbrev mX7_scrollBy : Nat := 62
abbrev mX7_fillRow : Nat := 63
abbrev mX8_init : Nat := 64
abbrev mX8_become : Nat := 65
abbrev mX9_init : Nat := 66
abbrev mX9_reset : Nat := 67
abbrev mX9_find : Nat := 68
abbrev mX9_findNumber : Nat := 69
abbrev mX9_isFull : Nat := 70
abbrev mX9_keep : Nat := 71
abbrev mX9_dropBelow : Nat := 72
abbrev mX9_isBelow : Nat := 73
abbrev mX9_moveFirstBehind : Nat := 74
abbrev mX10_init : Nat := 75
abbrev mX10_open : Nat := 76
abbrev mX10_program : Nat := 77
abbrev mX10_key : Nat := 78
abbrev mX10_write : Nat := 79
abbrev mX10_move : Nat := 80
abbrev mX10_wipe : Nat := 81
abbrev mX10_scroll : Nat := 82
abbrev mX10_pen : Nat := 83
abbrev mX10_tick : Nat := 84
abbrev mX10_round : Nat := 85
abbrev mX10_carry : Nat := 86
abbrev mX10_roam : Nat := 87
abbrev mX10_cell : Nat := 88
abbrev mX10_cursor : Nat := 89
abbrev mX10_alike : Nat := 90
abbrev mX10_state : Nat := 91
abbrev mX10_kept : Nat := 92
abbrev mX10_guess : Nat := 93
abbrev mX10_letter : Nat := 94
abbrev mX10_count : Nat := 95
abbrev mX10_startOver : Nat := 96
abbrev mX10_runTick : Nat := 97
abbrev mX10_send : Nat := 98
abbrev mX10_deliver : Nat := 99
abbrev mX10_lineOf : Nat := 100
abbrev mX10_canCarry : Nat := 101
abbrev mX10_isProgram : Nat := 102
abbrev mX10_isSign : Nat := 103
abbrev mX10_isKey : Nat := 104
abbrev mX10_isPlace : Nat := 105
abbrev mX11_init : Nat := 106
abbrev mX11_blank : Nat := 107
abbrev mX11_copies : Nat := 108
abbrev mX11_scrolls : Nat := 109
abbrev mX11_newLine : Nat := 110
abbrev mX11_puts : Nat := 111
abbrev mX11_back : Nat := 112
abbrev mX11_isLetter : Nat := 113
abbrev mX11_echo : Nat := 114
abbrev mX11_lines : Nat := 115
abbrev mX11_pass : Nat := 116
abbrev mX11_pages : Nat := 117
abbrev mX11_takesKey : Nat := 118
abbrev mX11_begins : Nat := 119
abbrev mX11_open : Nat := 120
abbrev mX11_program : Nat := 121
abbrev mX11_write : Nat := 122
abbrev mX11_isCell : Nat := 123
abbrev mX11_move : Nat := 124
abbrev mX11_wipe : Nat := 125
abbrev mX11_scroll : Nat := 126
abbrev mX11_pen : Nat := 127
abbrev mX11_adds : Nat := 128
abbrev mX11_addsTwo : Nat := 129
abbrev mX11_sumOf : Nat := 130
abbrev mX11_sends : Nat := 131
abbrev mX11_farNewest : Nat := 132
abbrev mX11_nearNewest : Nat := 133
abbrev mX11_sameCells : Nat := 134
abbrev mX11_goBelow : Nat := 135
abbrev mX11_stateOf : Nat := 136
abbrev mX11_differs : Nat := 137
abbrev mX11_areLike : Nat := 138
abbrev mX11_rowsOf : Nat := 139
abbrev mX11_difference : Nat := 140
abbrev mX11_laid : Nat := 141
abbrev mX11_farTick : Nat := 142
abbrev mX11_nearTick : Nat := 143
abbrev mX11_tick : Nat := 144
abbrev mX11_twoAt : Nat := 145
abbrev mX11_byFar : Nat := 146
abbrev mX11_byNear : Nat := 147
abbrev mX11_taken : Nat := 148
abbrev mX11_takesHand : Nat := 149
abbrev mX11_drops : Nat := 150
abbrev mX11_isLetterOf : Nat := 151
abbrev mX11_carry : Nat := 152
abbrev mX11_round : Nat := 153
abbrev mX11_roam : Nat := 154
abbrev mX11_guess : Nat := 155
abbrev mX11_key : Nat := 156
abbrev mX11_settles : Nat := 157
abbrev mX11_screenOf : Nat := 158
abbrev mX11_cell : Nat := 159
abbrev mX11_cursor : Nat := 160
abbrev mX11_alike : Nat := 161
abbrev mX11_state : Nat := 162
abbrev mX11_kept : Nat := 163
abbrev mX11_guess_ : Nat := 164
abbrev mX11_letter : Nat := 165
abbrev mX11_count : Nat := 166
abbrev mX0_append : Nat := 167
abbrev mX0_appendRow : Nat := 168
abbrev mX0_bestShift : Nat := 169
abbrev mX0_bytesFor : Nat := 170
abbrev mX0_firstChange : Nat := 171
abbrev mX0_lastChange : Nat := 172
abbrev mX0_isUniform : Nat := 173
abbrev mX0_lay : Nat := 174
abbrev mX0_layRow : Nat := 175
abbrev mJ7_fill_53178 : Nat := 176
def zcm : List (Nat × Nat × Nat × Nat) := [(0, 3, 4, 0), (0, 11, 3, 52), (0, 20, 3, 66), (0, 32, 2, 53), (0, 35, 2, 67), (0, 68, 2, 55), (0, 72, 2, 70), (0, 79, 2, 71), (0, 83, 2, 69), (0, 92, 2, 31), (0, 96, 2, 32), (0, 105, 0, 167), (0, 111, 2, 33), (0, 114, 2, 36), (0, 118, 2, 35), (0, 122, 2, 34), (0, 125, 2, 8), (0, 128, 6, 0), (0, 134, 2, 7), (0, 137, 2, 72), (0, 140, 2, 11), (0, 143, 2, 12), (0, 146, 2, 59), (0, 149, 2, 58), (0, 153, 2, 9), (0, 156, 2, 10), (0, 159, 1, 103), (0, 162, 2, 60), (0, 165, 2, 61), (0, 168, 7, 0), (0, 171, 2, 62), (0, 174, 2, 63), (1, 3, 4, 0), (1, 27, 2, 56), (2, 3, 4, 0), (2, 36, 2, 27), (2, 54, 1, 103), (2, 58, 2, 19), (2, 62, 2, 20), (2, 71, 3, 14), (2, 81, 2, 15), (2, 85, 6, 0), (2, 91, 2, 22), (2, 95, 2, 23), (2, 98, 2, 24), (2, 102, 2, 25), (2, 106, 2, 26), (3, 3, 4, 0), (3, 9, 6, 0), (3, 25, 2, 31), (3, 29, 2, 39), (3, 33, 2, 32), (3, 36, 2, 34), (3, 39, 2, 35), (4, 3, 4, 0), (4, 24, 3, 30), (4, 27, 2, 38), (5, 3, 4, 0), (5, 17, 3, 66), (5, 24, 3, 16), (5, 31, 3, 52), (5, 40, 2, 67), (5, 43, 2, 17), (5, 75, 2, 18), (5, 84, 2, 31), (5, 88, 2, 32), (5, 94, 6, 0), (5, 100, 2, 33), (5, 103, 2, 36), (5, 107, 2, 34), (5, 111, 2, 35), (5, 114, 2, 69), (5, 118, 2, 50), (5, 122, 2, 72), (5, 125, 2, 70), (5, 129, 2, 54), (5, 133, 0, 174), (5, 139, 2, 71), (5, 142, 2, 21), (6, 3, 4, 0), (6, 15, 0, 176), (6, 28, 5, 0), (6, 34, 2, 57), (6, 38, 2, 59), (6, 41, 2, 62), (7, 1, 4, 0), (7, 9, 3, 52), (8, 3, 4, 0), (8, 17, 3, 64), (8, 30, 2, 53), (8, 35, 2, 65), (8, 42, 2, 54), (8, 46, 0, 73), (8, 50, 2, 74), (9, 3, 4, 0), (9, 11, 3, 44), (9, 18, 3, 1), (9, 25, 3, 40), (9, 35, 3, 30), (9, 46, 2, 96), (9, 50, 0, 102), (9, 61, 0, 104), (9, 64, 2, 46), (9, 68, 0, 103), (9, 78, 2, 58), (9, 84, 2, 59), (9, 87, 2, 60), (9, 90, 0, 105), (9, 100, 2, 63), (9, 103, 2, 62), (9, 106, 2, 97), (9, 113, 2, 41), (9, 117, 2, 99), (9, 121, 2, 100), (9, 125, 0, 101), (9, 129, 2, 37), (9, 132, 2, 43), (9, 146, 2, 28), (9, 165, 2, 56), (9, 169, 2, 27), (9, 181, 2, 55), (9, 185, 2, 51), (9, 189, 2, 13), (9, 190, 2, 68), (9, 197, 2, 29), (9, 202, 2, 34), (9, 229, 0, 176), (9, 235, 2, 45), (9, 238, 2, 2), (9, 240, 2, 3), (9, 243, 2, 4), (9, 247, 2, 5), (9, 251, 2, 98), (9, 255, 2, 47), (9, 256, 2, 48), (9, 257, 2, 42), (9, 261, 2, 6), (9, 265, 2, 49), (10, 1, 4, 0), (10, 72, 2, 119), (10, 76, 2, 107), (10, 79, 2, 109), (10, 86, 2, 110), (10, 89, 0, 113), (10, 93, 2, 111), (10, 97, 2, 112), (10, 100, 2, 114), (10, 109, 2, 115), (10, 112, 2, 116), (10, 115, 2, 117), (10, 179, 0, 123), (10, 186, 2, 128), (10, 190, 2, 130), (10, 194, 2, 129), (10, 197, 2, 108), (10, 206, 2, 137), (10, 210, 2, 138), (10, 213, 2, 139), (10, 217, 2, 132), (10, 221, 2, 134), (10, 224, 2, 136), (10, 228, 2, 140), (10, 231, 2, 131), (10, 234, 2, 133), (10, 237, 2, 142), (10, 240, 2, 143), (10, 243, 2, 145), (10, 246, 2, 118), (10, 249, 2, 135), (10, 252, 2, 141), (10, 255, 2, 157), (10, 258, 2, 146), (10, 261, 2, 147), (10, 264, 2, 151), (10, 267, 2, 149), (10, 270, 2, 150), (10, 273, 2, 148), (10, 277, 2, 144), (10, 280, 2, 155), (10, 284, 2, 158), (11, 9, 0, 169), (11, 15, 2, 31), (11, 21, 0, 171), (11, 25, 0, 172), (11, 28, 0, 168), (11, 32, 0, 173), (11, 36, 2, 56), (11, 42, 0, 170), (11, 46, 2, 34), (11, 49, 2, 62), (11, 56, 0, 175), (11, 60, 6, 0), (11, 65, 1, 105), (11, 75, 2, 57), (12, 9, 3, 75), (12, 12, 3, 106), (12, 13, 2, 76), (12, 17, 2, 120), (12, 18, 2, 77), (12, 22, 2, 121), (12, 23, 2, 78), (12, 26, 2, 156), (12, 27, 2, 79), (12, 31, 2, 122), (12, 32, 2, 80), (12, 36, 2, 124), (12, 37, 2, 81), (12, 40, 2, 125), (12, 41, 2, 82), (12, 44, 2, 126), (12, 45, 2, 83), (12, 48, 2, 127), (12, 49, 2, 84), (12, 53, 2, 144), (12, 54, 2, 85), (12, 57, 2, 153), (12, 58, 2, 86), (12, 62, 2, 152), (12, 63, 2, 87), (12, 66, 2, 154), (12, 67, 2, 88), (12, 70, 2, 159), (12, 71, 2, 89), (12, 75, 2, 160), (12, 76, 2, 90), (12, 80, 2, 161), (12, 81, 2, 91), (12, 84, 2, 162), (12, 85, 2, 92), (12, 88, 2, 163), (12, 89, 2, 93), (12, 92, 2, 164), (12, 93, 2, 94), (12, 97, 2, 165), (12, 98, 2, 95), (12, 101, 2, 166)]
def zcf : List (Nat × Nat × Nat × Nat) := [(0, 12, 0, 0), (0, 21, 0, 1), (0, 25, 0, 9), (0, 29, 0, 2), (0, 38, 0, 3), (0, 41, 0, 4), (0, 44, 0, 5), (0, 47, 0, 6), (0, 50, 0, 7), (0, 53, 0, 8), (0, 56, 0, 10), (0, 60, 8, 1), (0, 64, 7, 2), (0, 67, 7, 0), (0, 76, 7, 1), (0, 87, 3, 1), (0, 99, 6, 1), (0, 102, 6, 2), (0, 177, 8, 2), (1, 9, 1, 4), (1, 15, 7, 0), (1, 21, 1, 2), (1, 24, 1, 3), (1, 33, 1, 0), (1, 36, 7, 2), (1, 39, 6, 1), (1, 40, 1, 5), (1, 43, 6, 2), (1, 44, 1, 6), (2, 11, 2, 0), (2, 17, 2, 2), (2, 21, 2, 1), (2, 24, 2, 3), (2, 27, 2, 4), (2, 30, 2, 5), (2, 33, 2, 6), (2, 40, 6, 1), (2, 45, 1, 5), (2, 48, 6, 2), (2, 51, 1, 6), (2, 66, 1, 2), (2, 67, 1, 3), (2, 68, 1, 4), (2, 72, 1, 0), (2, 75, 1, 1), (2, 76, 7, 2), (3, 15, 3, 0), (3, 21, 3, 1), (4, 11, 4, 0), (4, 17, 4, 1), (4, 21, 3, 1), (5, 9, 5, 0), (5, 18, 5, 1), (5, 25, 5, 2), (5, 32, 5, 3), (5, 36, 5, 10), (5, 44, 5, 4), (5, 47, 5, 5), (5, 50, 5, 6), (5, 53, 5, 7), (5, 56, 5, 8), (5, 59, 5, 9), (5, 63, 2, 2), (5, 66, 8, 1), (5, 70, 7, 0), (5, 79, 3, 1), (5, 91, 7, 1), (5, 146, 8, 2), (6, 9, 6, 0), (6, 21, 6, 1), (6, 25, 6, 2), (7, 10, 7, 0), (7, 16, 7, 1), (7, 20, 7, 2), (8, 11, 8, 0), (8, 18, 8, 1), (8, 22, 8, 2), (8, 26, 7, 0), (8, 39, 7, 1), (9, 12, 9, 0), (9, 19, 9, 1), (9, 26, 9, 2), (9, 30, 9, 3), (9, 38, 9, 4), (9, 42, 9, 5), (9, 54, 0, 2), (9, 58, 0, 3), (9, 71, 0, 0), (9, 75, 0, 4), (9, 94, 6, 1), (9, 97, 6, 2), (9, 110, 4, 1), (9, 135, 5, 10), (9, 138, 5, 9), (9, 142, 5, 2), (9, 152, 5, 1), (9, 156, 8, 1), (9, 162, 7, 0), (9, 173, 1, 5), (9, 178, 1, 6), (9, 193, 0, 1), (9, 194, 7, 1), (9, 199, 3, 1), (9, 204, 2, 4), (9, 207, 2, 5), (9, 210, 2, 6), (9, 213, 9, 6), (9, 216, 2, 1), (9, 217, 2, 3), (9, 220, 2, 2), (9, 223, 9, 7), (9, 226, 9, 8), (10, 7, 10, 0), (10, 13, 10, 1), (10, 16, 10, 2), (10, 19, 10, 3), (10, 22, 10, 4), (10, 25, 10, 5), (10, 28, 10, 9), (10, 32, 10, 10), (10, 35, 10, 20), (10, 38, 10, 29), (10, 41, 10, 30), (10, 45, 10, 31), (10, 48, 10, 32), (10, 51, 10, 33), (10, 54, 10, 40), (10, 57, 10, 41), (10, 60, 10, 42), (10, 63, 10, 43), (10, 66, 10, 44), (10, 69, 10, 45), (10, 83, 10, 6), (10, 103, 10, 8), (10, 106, 10, 7), (10, 118, 10, 11), (10, 121, 10, 12), (10, 124, 10, 13), (10, 127, 10, 14), (10, 130, 10, 15), (10, 133, 10, 16), (10, 136, 10, 17), (10, 140, 10, 18), (10, 143, 10, 19), (10, 146, 10, 21), (10, 149, 10, 22), (10, 152, 10, 23), (10, 155, 10, 24), (10, 158, 10, 25), (10, 161, 10, 26), (10, 164, 10, 27), (10, 167, 10, 28), (10, 170, 10, 37), (10, 173, 10, 38), (10, 176, 10, 39), (10, 183, 10, 34), (10, 200, 10, 35), (10, 203, 10, 36), (11, 52, 3, 1), (11, 69, 6, 1), (11, 72, 6, 2)]
def zcc : List (Nat × Nat × Nat) := [(0, 9, 6), (0, 18, 8), (2, 9, 1), (4, 9, 3), (5, 15, 8), (5, 22, 2), (5, 29, 6), (7, 7, 6), (8, 9, 7), (9, 9, 5), (9, 16, 0), (9, 23, 4), (9, 33, 3), (12, 7, 9), (12, 10, 10)]
def zck : List (Nat × Nat × Int) := [(3, 42, 65521), (10, 44, 88000), (10, 189, 65521)]

-- reading the tables
def zon (o : Nat) : String := zO.getD o ""
def zy (M : Nat) : MethodName := match zmt[M]? with | some q => q.2.1 | none => ⟨"", "", ""⟩
def zown (M : Nat) : Nat := match zmt[M]? with | some q => q.1 | none => 99
def zby (M : Nat) : ByteArray := match zmt[M]? with | some q => q.2.2.1 | none => .empty
def zml (M : Nat) : Nat := match zmt[M]? with | some q => q.2.2.2.1 | none => 0
def zrt (M : Nat) : Option FieldType := match zmt[M]? with | some q => q.2.2.2.2.1 | none => none
def znp (M : Nat) : Nat := match zmt[M]? with | some q => q.2.2.2.2.2.1 | none => 0
def zrk (M : Nat) : Nat := match zmt[M]? with | some q => q.2.2.2.2.2.2.1 | none => 0
def zlo (M : Nat) : Nat := match zmt[M]? with | some q => q.2.2.2.2.2.2.2 | none => 0
def zcw (c : Nat) : vw_C := vwCl.getD c ("", TX0, 0)
def zty (c k : Nat) : FieldType := match zTy[c]? with | some f => f k | none => .int
def zir (c k : Nat) : Bool := match zty c k with | .object _ => true | .array _ => true | _ => false
def zlk2 (l : List (Nat × Nat × Nat × Nat)) (o i : Nat) : Option (Nat × Nat) := (l.find? (fun e => Nat.beq e.1 o && Nat.beq e.2.1 i)).map (fun e => e.2.2)
def zlkc (o i : Nat) : Option Nat := (zcc.find? (fun e => Nat.beq e.1 o && Nat.beq e.2.1 i)).map (fun e => e.2.2)
def zlkk (o i : Nat) : Option Int := (zck.find? (fun e => Nat.beq e.1 o && Nat.beq e.2.1 i)).map (fun e => e.2.2)
-- the words that the small machine needs
def zcmW (e : Nat × Nat × Nat × Nat) : List Cond := match e.2.2.1 with
  | 0 => [.methodLink (zon e.1) e.2.1 (zy e.2.2.2), .static (zy e.2.2.2)]
  | 1 => [.static (zy e.2.2.2)]
  | 2 => [.methodLink (zon e.1) e.2.1 (zy e.2.2.2), .instanceMethod (zy e.2.2.2), .selects (zy e.2.2.2).cls (zy e.2.2.2) (zy e.2.2.2)]
  | 3 => [.methodLink (zon e.1) e.2.1 (zy e.2.2.2), .instanceMethod (zy e.2.2.2)]
  | 4 => [.methodLink (zon e.1) e.2.1 objectInit]
  | 6 => [.methodLink (zon e.1) e.2.1 Lib.Math.max.name]
  | 7 => [.methodLink (zon e.1) e.2.1 Lib.Math.min.name]
  | _ => [.methodLink (zon e.1) e.2.1 arraycopyName]
def zcfW (e : Nat × Nat × Nat × Nat) : Cond := .fieldLink (zon e.1) e.2.1 ((zcw e.2.2.1).2.1 e.2.2.2).1 ((zcw e.2.2.1).2.1 e.2.2.2).2.1 ((zcw e.2.2.1).2.1 e.2.2.2).2.2.1
def zccW (e : Nat × Nat × Nat) : Cond := .classLink (zon e.1) e.2.1 (zcw e.2.2).1
def zckW (e : Nat × Nat × Int) : Cond := .constant (zon e.1) e.2.1 (Int32.ofInt e.2.2)
def zclW (q : vw_C) : List Cond := .instantiable q.1 q.2.2 :: u_ws q.1 q.2.1 q.2.2
def zmtW (q : Nat × MethodName × ByteArray × Nat × Option FieldType × Nat × Nat × Nat) : Cond := .code q.2.1 q.2.2.1 q.2.2.2.1 q.2.2.2.2.1
def zW0 : List Cond := [.arrayClass .int, .instanceMethod objectInit, .code objectInit ⟨#[0xb1]⟩ 1 none, .native arraycopyName, .static arraycopyName, .initialized "java/lang/System", .static Lib.Math.max.name, .code Lib.Math.max.name Lib.Math.max.code 2 (some .int), .static Lib.Math.min.name, .code Lib.Math.min.name Lib.Math.min.code 2 (some .int), .initialized "java/lang/Math"]
def zW1 : List Cond := zO.map (fun c => .initialized c)
def zW2 : List Cond := (zmt.drop 1).map zmtW
def zW3 : List Cond := vwCl.flatMap zclW
def zW4 : List Cond := zcm.flatMap zcmW
def zW5 : List Cond := zcf.map zcfW
def zW6 : List Cond := zcc.map zccW
def zW7 : List Cond := zck.map zckW
def zW : List Cond := zW0 ++ (zW1 ++ (zW2 ++ (zW3 ++ (zW4 ++ (zW5 ++ (zW6 ++ zW7))))))
end
section
theorem zW0_in : zW0 = [130, 80, 81, 554, 553, 72, 317, 318, 677, 678, 69].filterMap (fun i => lw_tbl[i]?) := by decide +kernel
theorem zW1_in : zW1 = [66, 71, 65, 68, 67, 60, 63, 62, 61, 59, 70, 73, 58, 69, 64].filterMap (fun i => lw_tbl[i]?) := by decide +kernel
set_option maxRecDepth 100000 in
theorem zW2_in0 : ((zmt.drop 1).take 20).map zmtW = [249, 359, 535, 558, 562, 656, 704, 670, 691, 695, 674, 685, 818, 443, 750, 172, 355, 418, 435, 439].filterMap (fun i => lw_tbl[i]?) := rfl
set_option maxRecDepth 100000 in
theorem zW2_in1 : ((zmt.drop 21).take 20).map zmtW = [746, 756, 760, 764, 426, 430, 422, 795, 834, 314, 570, 574, 605, 613, 664, 660, 779, 628, 609, 298].filterMap (fun i => lw_tbl[i]?) := rfl
set_option maxRecDepth 100000 in
theorem zW2_in2 : ((zmt.drop 41).take 20).map zmtW = [648, 623, 783, 86, 339, 414, 632, 636, 719, 727, 814, 105, 347, 551, 539, 591, 486, 482, 490, 499].filterMap (fun i => lw_tbl[i]?) := rfl
set_option maxRecDepth 100000 in
theorem zW2_in3 : ((zmt.drop 61).take 20).map zmtW = [700, 494, 514, 99, 351, 92, 343, 826, 566, 543, 547, 708, 711, 715, 78, 393, 400, 404, 478, 503].filterMap (fun i => lw_tbl[i]?) := rfl
set_option maxRecDepth 100000 in
theorem zW2_in4 : ((zmt.drop 81).take 20).map zmtW = [510, 518, 523, 527, 644, 768, 787, 791, 800, 805, 810, 822, 830, 838, 843, 334, 531, 619, 652, 772].filterMap (fun i => lw_tbl[i]?) := rfl
set_option maxRecDepth 100000 in
theorem zW2_in5 : ((zmt.drop 101).take 20).map zmtW = [775, 396, 410, 407, 506, 848, 858, 1067, 1024, 1020, 1016, 1028, 1012, 1148, 1152, 1156, 1160, 1144, 854, 1001].filterMap (fun i => lw_tbl[i]?) := rfl
set_option maxRecDepth 100000 in
theorem zW2_in6 : ((zmt.drop 121).take 20).map zmtW = [1005, 1009, 1035, 1032, 1039, 1043, 1047, 1071, 1075, 1103, 1099, 1059, 1112, 1063, 1164, 1079, 1091, 1095, 1087, 1083].filterMap (fun i => lw_tbl[i]?) := rfl
set_option maxRecDepth 100000 in
theorem zW2_in7 : ((zmt.drop 141).take 20).map zmtW = [1172, 1055, 1108, 1051, 1136, 1140, 1168, 1132, 1124, 1128, 1120, 1116, 1180, 1185, 1193, 1189, 1176, 1201, 1197, 1205].filterMap (fun i => lw_tbl[i]?) := rfl
set_option maxRecDepth 100000 in
theorem zW2_in8 : ((zmt.drop 161).take 20).map zmtW = [1209, 1213, 1217, 1221, 1225, 1229, 578, 601, 581, 584, 587, 594, 597, 733, 738, 109].filterMap (fun i => lw_tbl[i]?) := rfl
theorem zW3_in : zW3 = [246, 271, 273, 275, 277, 279, 281, 283, 285, 287, 289, 291, 440, 460, 462, 464, 466, 468, 470, 472, 169, 190, 192, 194, 196, 198, 200, 202, 311, 326, 328, 295, 305, 307, 83, 222, 224, 226, 228, 230, 232, 234, 236, 238, 240, 242, 102, 123, 125, 127, 96, 146, 148, 150, 89, 161, 163, 165, 75, 371, 373, 375, 377, 379, 381, 383, 385, 387, 845, 905, 907, 909, 911, 913, 915, 917, 919, 921, 923, 925, 927, 929, 931, 933, 935, 937, 939, 941, 943, 945, 947, 949, 951, 953, 955, 957, 959, 961, 963, 965, 967, 969, 971, 973, 975, 977, 979, 981, 983, 985, 987, 989, 991, 993, 995].filterMap (fun i => lw_tbl[i]?) := by decide +kernel
theorem zW4_in : zW4 = [250, 252, 104, 254, 91, 360, 345, 346, 361, 341, 342, 536, 537, 538, 540, 541, 542, 544, 545, 546, 563, 564, 565, 567, 568, 569, 571, 572, 573, 576, 577, 602, 603, 604, 657, 658, 659, 665, 662, 663, 666, 611, 612, 667, 669, 8, 679, 701, 703, 13, 705, 706, 707, 671, 673, 9, 682, 684, 10, 681, 488, 489, 680, 480, 481, 688, 690, 11, 692, 694, 12, 409, 696, 497, 498, 697, 698, 699, 676, 686, 492, 493, 687, 512, 513, 444, 751, 589, 590, 173, 419, 420, 421, 409, 432, 434, 2, 436, 438, 3, 441, 442, 747, 748, 749, 752, 753, 755, 16, 757, 759, 17, 761, 763, 18, 423, 424, 425, 427, 429, 1, 315, 316, 575, 568, 569, 606, 608, 5, 615, 572, 573, 610, 611, 612, 661, 662, 663, 299, 624, 313, 625, 626, 627, 87, 90, 91, 170, 171, 206, 104, 340, 341, 342, 352, 353, 354, 415, 416, 417, 637, 568, 569, 638, 572, 573, 639, 640, 603, 604, 720, 658, 659, 721, 611, 612, 722, 662, 663, 723, 564, 565, 724, 726, 15, 728, 706, 707, 729, 541, 542, 730, 549, 550, 731, 732, 742, 545, 546, 743, 744, 745, 106, 107, 108, 552, 483, 484, 485, 487, 488, 489, 491, 492, 493, 100, 103, 104, 93, 97, 98, 344, 345, 346, 348, 349, 350, 548, 549, 550, 709, 710, 712, 714, 14, 79, 84, 85, 247, 248, 296, 297, 312, 313, 331, 333, 0, 394, 395, 405, 406, 411, 412, 413, 408, 409, 479, 480, 481, 495, 488, 489, 496, 497, 498, 504, 505, 511, 512, 513, 519, 492, 493, 528, 530, 4, 645, 646, 647, 649, 651, 7, 769, 771, 19, 773, 774, 776, 777, 778, 780, 781, 782, 792, 793, 794, 796, 589, 590, 801, 420, 421, 806, 537, 538, 811, 812, 813, 815, 816, 817, 823, 824, 825, 831, 832, 833, 839, 611, 612, 335, 108, 336, 337, 338, 356, 357, 358, 532, 533, 534, 555, 556, 557, 559, 560, 561, 616, 618, 6, 629, 630, 631, 633, 634, 635, 620, 621, 622, 653, 654, 655, 716, 717, 718, 849, 851, 853, 20, 855, 857, 21, 1021, 1023, 24, 1017, 1019, 23, 1010, 1011, 1013, 1015, 22, 1025, 1027, 25, 1145, 1147, 48, 1149, 1151, 49, 1153, 1155, 50, 1157, 1159, 51, 1033, 1034, 1068, 1070, 30, 1100, 1102, 38, 1072, 1074, 31, 1064, 1066, 29, 1088, 1090, 35, 1092, 1094, 36, 1084, 1086, 34, 1056, 1058, 27, 1060, 1062, 28, 1076, 1078, 32, 1080, 1082, 33, 1096, 1098, 37, 1109, 1111, 40, 1052, 1054, 26, 1105, 1107, 39, 1133, 1135, 45, 1141, 1143, 47, 1161, 1163, 52, 1169, 1171, 54, 1173, 1175, 55, 1137, 1139, 46, 1165, 1167, 53, 1117, 1119, 41, 1121, 1123, 42, 1125, 1127, 43, 1129, 1131, 44, 1181, 1049, 1050, 1190, 1192, 56, 1198, 1200, 57, 579, 580, 598, 568, 569, 585, 586, 592, 593, 599, 600, 595, 596, 588, 589, 590, 582, 583, 734, 611, 612, 735, 492, 493, 736, 737, 740, 505, 739, 484, 485, 76, 77, 846, 847, 390, 391, 392, 998, 999, 1000, 397, 398, 399, 1002, 1003, 1004, 401, 402, 403, 1186, 1187, 1188, 475, 476, 477, 1006, 1007, 1008, 500, 501, 502, 1029, 1030, 1031, 507, 508, 509, 1036, 1037, 1038, 515, 516, 517, 1040, 1041, 1042, 520, 521, 522, 1044, 1045, 1046, 524, 525, 526, 1048, 1049, 1050, 641, 642, 643, 1177, 1178, 1179, 765, 766, 767, 1113, 1114, 1115, 784, 785, 786, 1182, 1183, 1184, 788, 789, 790, 1194, 1195, 1196, 797, 798, 799, 1202, 1203, 1204, 802, 803, 804, 1206, 1207, 1208, 807, 808, 809, 1210, 1211, 1212, 819, 820, 821, 1214, 1215, 1216, 827, 828, 829, 1218, 1219, 1220, 835, 836, 837, 1222, 1223, 1224, 840, 841, 842, 1226, 1227, 1228].filterMap (fun i => lw_tbl[i]?) := by decide +kernel
theorem zW5_in : zW5 = [255, 257, 269, 259, 261, 263, 265, 266, 267, 268, 270, 155, 144, 134, 138, 323, 114, 120, 160, 452, 132, 448, 450, 445, 143, 112, 454, 118, 457, 176, 179, 177, 182, 184, 186, 188, 113, 455, 119, 458, 449, 451, 453, 446, 447, 145, 319, 320, 302, 303, 321, 207, 208, 210, 212, 220, 213, 214, 215, 216, 217, 218, 180, 156, 135, 322, 140, 159, 110, 111, 117, 131, 137, 142, 153, 154, 158, 133, 139, 362, 363, 364, 365, 366, 367, 260, 262, 256, 264, 115, 121, 304, 221, 219, 211, 209, 157, 136, 456, 459, 258, 141, 325, 185, 187, 189, 368, 178, 183, 181, 369, 370, 859, 860, 861, 862, 863, 864, 868, 869, 879, 888, 889, 890, 891, 892, 899, 900, 901, 902, 903, 904, 865, 867, 866, 870, 871, 872, 873, 874, 875, 876, 877, 878, 880, 881, 882, 883, 884, 885, 886, 887, 896, 897, 898, 893, 894, 895, 324, 116, 122].filterMap (fun i => lw_tbl[i]?) := by decide +kernel
theorem zW6_in : zW6 = [251, 253, 174, 300, 88, 168, 205, 101, 94, 82, 245, 294, 310, 74, 844].filterMap (fun i => lw_tbl[i]?) := by decide +kernel
theorem zW7_in : zW7 = [614, 850, 1104].filterMap (fun i => lw_tbl[i]?) := by decide +kernel
theorem zW_good : zW.all goodWord = true := by decide +kernel
theorem z_chunk {P : (Nat × MethodName × ByteArray × Nat × Option FieldType × Nat × Nat × Nat) → Prop} {k : Nat} (h1 : ∀ q ∈ (zmt.drop k).take 20, P q) (h2 : ∀ q ∈ zmt.drop (k + 20), P q) : ∀ q ∈ zmt.drop k, P q := by
  intro q hq
  rw [← List.take_append_drop 20 (zmt.drop k), List.drop_drop, List.mem_append] at hq
  exact hq.elim (h1 q) (h2 q)
theorem z_chunk1 {ps : List Nat} {l : List (Nat × MethodName × ByteArray × Nat × Option FieldType × Nat × Nat × Nat)} (h : l.map zmtW = ps.filterMap (fun i => lw_tbl[i]?)) : ∀ q ∈ l, zmtW q ∈ lw_tbl := by
  intro q hq
  have h1 : zmtW q ∈ l.map zmtW := List.mem_map.mpr ⟨q, hq, rfl⟩
  rw [h] at h1
  obtain ⟨i, -, hi⟩ := List.mem_filterMap.mp h1
  exact List.mem_of_getElem? hi
theorem zW2_in : ∀ q ∈ zmt.drop 1, zmtW q ∈ lw_tbl := z_chunk (z_chunk1 zW2_in0) (z_chunk (z_chunk1 zW2_in1) (z_chunk (z_chunk1 zW2_in2) (z_chunk (z_chunk1 zW2_in3) (z_chunk (z_chunk1 zW2_in4) (z_chunk (z_chunk1 zW2_in5) (z_chunk (z_chunk1 zW2_in6) (z_chunk (z_chunk1 zW2_in7) (z_chunk (z_chunk1 zW2_in8) (fun q h => by rw [show zmt.drop 181 = [] from rfl] at h; cases h)))))))))
theorem z_mem_of {ws : List Cond} {ps : List Nat} (h : ws = ps.filterMap (fun i => lw_tbl[i]?)) : ∀ w ∈ ws, w ∈ lw_tbl := by
  intro w hw
  rw [h] at hw
  obtain ⟨i, -, hi⟩ := List.mem_filterMap.mp hw
  exact List.mem_of_getElem? hi
theorem zW_in : ∀ w ∈ zW, w ∈ lw_tbl := by
  intro w hw
  simp only [zW, List.mem_append] at hw
  rcases hw with h | h | h | h | h | h | h | h
  · exact z_mem_of zW0_in w h
  · exact z_mem_of zW1_in w h
  · obtain ⟨q, hq, rfl⟩ := List.mem_map.mp h
    exact zW2_in q hq
  · exact z_mem_of zW3_in w h
  · exact z_mem_of zW4_in w h
  · exact z_mem_of zW5_in w h
  · exact z_mem_of zW6_in w h
  · exact z_mem_of zW7_in w h
end
section
/-! THE SMALL MACHINE: ints are Int, references are numbers (0 null, 1 the script, from 2 on what is made), a heap is maps by field and by array. It reads the same bytes; where it goes through, the machine does. -/
abbrev zV : Type := Int ⊕ Nat
abbrev zL : Type := List (Option zV)
abbrev zH : Type := (Nat → Nat × Nat) × (Nat → Nat → Int) × (Nat → Nat → Nat) × (Nat → Nat → Int) × (Nat → Nat → Nat) × Nat × Nat
def zK (h : zH) : Nat → Nat × Nat := h.1
def zI (h : zH) : Nat → Nat → Int := h.2.1
def zR (h : zH) : Nat → Nat → Nat := h.2.2.1
def zA (h : zH) : Nat → Nat → Int := h.2.2.2.1
def zB (h : zH) : Nat → Nat → Nat := h.2.2.2.2.1
def zn (h : zH) : Nat := h.2.2.2.2.2.1
def zs (h : zH) : Nat := h.2.2.2.2.2.2
def zu {α : Type} (f : Nat → Nat → α) (a b : Nat) (v : α) : Nat → Nat → α := fun x y => if x = a ∧ y = b then v else f x y
def zsI (h : zH) (f a : Nat) (v : Int) : zH := (zK h, zu (zI h) f a v, zR h, zA h, zB h, zn h, zs h)
def zsR (h : zH) (f a : Nat) (v : Nat) : zH := (zK h, zI h, zu (zR h) f a v, zA h, zB h, zn h, zs h)
def zsA (h : zH) (a i : Nat) (v : Int) : zH := (zK h, zI h, zR h, zu (zA h) a i v, zB h, zn h, zs h)
def zsB (h : zH) (a i : Nat) (v : Nat) : zH := (zK h, zI h, zR h, zA h, zu (zB h) a i v, zn h, zs h)
def znO (h : zH) (c N : Nat) : zH := (fun a => if a = zn h then (10 + c, 0) else zK h a, fun f a => if a = zn h then 0 else zI h f a, fun f a => if a = zn h then 0 else zR h f a, zA h, zB h, zn h + 1, zs h + N)
def znA (h : zH) (t N : Nat) : zH := (fun a => if a = zn h then (t, N) else zK h a, zI h, zR h, fun a i => if a = zn h then 0 else zA h a i, fun a i => if a = zn h then 0 else zB h a i, zn h + 1, zs h + N)
def zcp (h : zH) (s d n : Nat) : zH := (zK h, zI h, zR h, fun a i => if a = d ∧ i < n then zA h s i else zA h a i, zB h, zn h, zs h)
def zw (x : Int) : Int := (Int32.ofInt x).toInt
def zin (x : Int) : Prop := -2147483648 ≤ x ∧ x < 2147483648
def zand (x y : Int) : Int := (Int32.ofInt x &&& Int32.ofInt y).toInt
def zxor (x y : Int) : Int := (Int32.ofInt x ^^^ Int32.ofInt y).toInt
def zshr (x y : Int) : Int := (Int32.ofInt x >>> (Int32.ofInt y &&& 31)).toInt
abbrev zSR : Type := (Nat × zL × List zV × zH) ⊕ (Option zV) ⊕ (Nat × List zV × List zV)
def zgo (pc : Nat) (ls : zL) (st : List zV) (h : zH) : Option zSR := some (.inl (pc, ls, st, h))
def zb1 (st : List zV) (k : Int → List zV → Option zSR) : Option zSR := match st with
  | .inl x :: r => k x r
  | _ => none
def zb2 (st : List zV) (k : Int → Int → List zV → Option zSR) : Option zSR := match st with
  | .inl y :: .inl x :: r => k x y r
  | _ => none
def zr1 (st : List zV) (k : Nat → List zV → Option zSR) : Option zSR := match st with
  | .inr a :: r => k a r
  | _ => none
def zir1 (st : List zV) (k : Int → Nat → List zV → Option zSR) : Option zSR := match st with
  | .inl i :: .inr a :: r => k i a r
  | _ => none
def ziir (st : List zV) (k : Int → Int → Nat → List zV → Option zSR) : Option zSR := match st with
  | .inl x :: .inl i :: .inr a :: r => k x i a r
  | _ => none
def zrir (st : List zV) (k : Nat → Int → Nat → List zV → Option zSR) : Option zSR := match st with
  | .inr v :: .inl i :: .inr a :: r => k v i a r
  | _ => none
def zrr (st : List zV) (k : Nat → Nat → List zV → Option zSR) : Option zSR := match st with
  | .inr v :: .inr a :: r => k v a r
  | _ => none
def zv1 (st : List zV) (k : zV → List zV → Option zSR) : Option zSR := match st with
  | v :: r => k v r
  | _ => none
def zv2 (st : List zV) (k : zV → zV → List zV → Option zSR) : Option zSR := match st with
  | v :: w :: r => k v w r
  | _ => none
def zldI (ls : zL) (k : Nat) (f : Int → Option zSR) : Option zSR := match ls[k]? with
  | some (some (.inl x)) => f x
  | _ => none
def zldR (ls : zL) (k : Nat) (f : Nat → Option zSR) : Option zSR := match ls[k]? with
  | some (some (.inr x)) => f x
  | _ => none
def zif (c : Prop) [Decidable c] (k : Option zSR) : Option zSR := if c then k else none
def zopt {α : Type} (o : Option α) (k : α → Option zSR) : Option zSR := match o with
  | some a => k a
  | none => none
def zjmp (pc : Nat) (off : Int) (k : Nat → Option zSR) : Option zSR := if 0 ≤ (pc : Int) + off then k ((pc : Int) + off).toNat else none
def zcall (M M' n : Nat) (st : List zV) (ok : List zV → Bool) : Option zSR :=
  zif (n ≤ st.length ∧ (st.drop n).length ≤ 8 ∧ zrk M' + 1 ≤ zrk M ∧ 19 + zml M' + zlo M' ≤ zlo M ∧ n ≤ zml M' ∧ 1 ≤ M' ∧ M' < 177 ∧ ok (st.take n).reverse = true) (some (.inr (.inr (M', (st.take n).reverse, st.drop n))))
/-- the receiver: an object of the method's class -/
def zrcv (h : zH) (M' : Nat) (as : List zV) : Bool := match as with
  | .inr a :: _ => Nat.beq (zK h a).1 (10 + zown M') && Nat.blt (zown M') 11
  | _ => false
def znn (as : List zV) : Bool := match as with
  | .inr a :: _ => !(Nat.beq a 0)
  | _ => false
/-- arrays of references: of which class -/
def zel (t : Nat) : Nat := if t = 2 then 7 else if t = 3 then 3 else 1
def zat (c : Nat) : Nat := if c = 7 then 2 else if c = 3 then 3 else if c = 1 then 4 else 0
/-- whether the method may write the field -/
def zfok (M c k : Nat) : Bool := !((zcw c).2.1 k).2.2.2 || (decide ((zy M).name = "<init>") && Nat.beq (zown M) c)
def zbk (c k : Nat) : Bool := match zty c k with | .boolean => true | _ => false
def zlen (i : Instr) : Nat := match i with
  | .bipush _ | .ldc _ | .iload _ | .aload _ | .istore _ | .astore _ | .newarray _ => 2
  | .sipush _ | .iinc _ _ | .goto _ | .ifCond _ _ | .if_icmp _ _ | .ifnull _ | .ifnonnull _ | .getfield _ | .putfield _ | .new _ | .anewarray _ | .invokestatic _ | .invokevirtual _ | .invokespecial _ => 3
  | .tableswitch _ _ _ _ => 0
  | _ => 1
def zdec (M pc : Nat) : Option Instr := match decode (zby M) pc with
  | .ok q => if zlen q.1 = q.2 ∨ zlen q.1 = 0 then some q.1 else none
  | .error _ => none
def zstep (M : Nat) (i : Instr) (pc : Nat) (ls : zL) (st : List zV) (h : zH) : Option zSR := match i with
  | .iconst n => zif (-1 ≤ n ∧ n ≤ 5) (zgo (pc + 1) ls (.inl n :: st) h)
  | .bipush n => zif (-128 ≤ n ∧ n ≤ 127) (zgo (pc + 2) ls (.inl n :: st) h)
  | .sipush n => zif (-32768 ≤ n ∧ n ≤ 32767) (zgo (pc + 3) ls (.inl n :: st) h)
  | .ldc ix => zopt (zlkk (zown M) ix) fun v => zif (0 ≤ v ∧ v ≤ 100000) (zgo (pc + 2) ls (.inl v :: st) h)
  | .aconst_null => zgo (pc + 1) ls (.inr 0 :: st) h
  | .iload k => zldI ls k fun x => zgo (pc + 2) ls (.inl x :: st) h
  | .iload_n k => zldI ls k fun x => zgo (pc + 1) ls (.inl x :: st) h
  | .aload k => zldR ls k fun x => zgo (pc + 2) ls (.inr x :: st) h
  | .aload_n k => zldR ls k fun x => zgo (pc + 1) ls (.inr x :: st) h
  | .istore k => zb1 st fun x r => zif (k < ls.length) (zgo (pc + 2) (ls.set k (some (.inl x))) r h)
  | .istore_n k => zb1 st fun x r => zif ((k : Nat) < ls.length) (zgo (pc + 1) (ls.set k (some (.inl x))) r h)
  | .astore k => zr1 st fun x r => zif (k < ls.length) (zgo (pc + 2) (ls.set k (some (.inr x))) r h)
  | .astore_n k => zr1 st fun x r => zif ((k : Nat) < ls.length) (zgo (pc + 1) (ls.set k (some (.inr x))) r h)
  | .iinc k n => zldI ls k fun x => zgo (pc + 3) (ls.set k (some (.inl (zw (x + n))))) st h
  | .iadd => zb2 st fun x y r => zgo (pc + 1) ls (.inl (zw (x + y)) :: r) h
  | .isub => zb2 st fun x y r => zgo (pc + 1) ls (.inl (zw (x - y)) :: r) h
  | .imul => zb2 st fun x y r => zgo (pc + 1) ls (.inl (zw (x * y)) :: r) h
  | .idiv => zb2 st fun x y r => zif (y ≠ 0) (zgo (pc + 1) ls (.inl (zw (x.tdiv y)) :: r) h)
  | .irem => zb2 st fun x y r => zif (y ≠ 0) (zgo (pc + 1) ls (.inl (zw (x.tmod y)) :: r) h)
  | .iand => zb2 st fun x y r => zgo (pc + 1) ls (.inl (zand x y) :: r) h
  | .ixor => zb2 st fun x y r => zgo (pc + 1) ls (.inl (zxor x y) :: r) h
  | .ishr => zb2 st fun x y r => zgo (pc + 1) ls (.inl (zshr x y) :: r) h
  | .dup => zv1 st fun v r => zgo (pc + 1) ls (v :: v :: r) h
  | .dup2 => zv2 st fun v w r => zgo (pc + 1) ls (v :: w :: v :: w :: r) h
  | .pop => zv1 st fun _ r => zgo (pc + 1) ls r h
  | .goto off => zjmp pc off fun t => zgo t ls st h
  | .ifCond .eq off => zb1 st fun x r => zjmp pc off fun t => if x = 0 then zgo t ls r h else zgo (pc + 3) ls r h
  | .ifCond .ne off => zb1 st fun x r => zjmp pc off fun t => if x ≠ 0 then zgo t ls r h else zgo (pc + 3) ls r h
  | .ifCond .lt off => zb1 st fun x r => zjmp pc off fun t => if x < 0 then zgo t ls r h else zgo (pc + 3) ls r h
  | .ifCond .ge off => zb1 st fun x r => zjmp pc off fun t => if 0 ≤ x then zgo t ls r h else zgo (pc + 3) ls r h
  | .ifCond .gt off => zb1 st fun x r => zjmp pc off fun t => if 0 < x then zgo t ls r h else zgo (pc + 3) ls r h
  | .ifCond .le off => zb1 st fun x r => zjmp pc off fun t => if x ≤ 0 then zgo t ls r h else zgo (pc + 3) ls r h
  | .if_icmp .eq off => zb2 st fun x y r => zjmp pc off fun t => if x = y then zgo t ls r h else zgo (pc + 3) ls r h
  | .if_icmp .ne off => zb2 st fun x y r => zjmp pc off fun t => if x ≠ y then zgo t ls r h else zgo (pc + 3) ls r h
  | .if_icmp .lt off => zb2 st fun x y r => zjmp pc off fun t => if x < y then zgo t ls r h else zgo (pc + 3) ls r h
  | .if_icmp .ge off => zb2 st fun x y r => zjmp pc off fun t => if y ≤ x then zgo t ls r h else zgo (pc + 3) ls r h
  | .if_icmp .gt off => zb2 st fun x y r => zjmp pc off fun t => if y < x then zgo t ls r h else zgo (pc + 3) ls r h
  | .if_icmp .le off => zb2 st fun x y r => zjmp pc off fun t => if x ≤ y then zgo t ls r h else zgo (pc + 3) ls r h
  | .ifnull off => zr1 st fun a r => zjmp pc off fun t => if a = 0 then zgo t ls r h else zgo (pc + 3) ls r h
  | .ifnonnull off => zr1 st fun a r => zjmp pc off fun t => if a ≠ 0 then zgo t ls r h else zgo (pc + 3) ls r h
  | .tableswitch d lo hi offs => zb1 st fun x r => if x < lo ∨ hi < x then zjmp pc d fun t => zgo t ls r h else zopt offs[(x - lo).toNat]? fun off => zjmp pc off fun t => zgo t ls r h
  | .getfield ix => zopt (zlk2 zcf (zown M) ix) fun q => zr1 st fun a r => zif ((zK h a).1 = 10 + q.1) (zgo (pc + 3) ls ((if zir q.1 q.2 = true then .inr (zR h (64 * q.1 + q.2) a) else .inl (zI h (64 * q.1 + q.2) a)) :: r) h)
  | .putfield ix => zopt (zlk2 zcf (zown M) ix) fun q => zif (zfok M q.1 q.2 = true) (if zir q.1 q.2 = true
      then zrr st fun v a r => zif ((zK h a).1 = 10 + q.1) (zgo (pc + 3) ls r (zsR h (64 * q.1 + q.2) a v))
      else zir1 st fun x a r => zif ((zK h a).1 = 10 + q.1 ∧ (zbk q.1 q.2 = true → x = 0 ∨ x = 1)) (zgo (pc + 3) ls r (zsI h (64 * q.1 + q.2) a x)))
  | .iaload => zir1 st fun i a r => zif (((zK h a).1 = 1 ∨ (zK h a).1 = 5) ∧ 0 ≤ i ∧ i < (zK h a).2) (zgo (pc + 1) ls (.inl (zA h a i.toNat) :: r) h)
  | .iastore => ziir st fun x i a r => zif ((zK h a).1 = 1 ∧ 0 ≤ i ∧ i < (zK h a).2) (zgo (pc + 1) ls r (zsA h a i.toNat x))
  | .aaload => zir1 st fun i a r => zif ((2 ≤ (zK h a).1 ∧ (zK h a).1 ≤ 4) ∧ 0 ≤ i ∧ i < (zK h a).2) (zgo (pc + 1) ls (.inr (zB h a i.toNat) :: r) h)
  | .aastore => zrir st fun v i a r => zif ((2 ≤ (zK h a).1 ∧ (zK h a).1 ≤ 4) ∧ (zK h v).1 = 10 + zel (zK h a).1 ∧ 0 ≤ i ∧ i < (zK h a).2) (zgo (pc + 1) ls r (zsB h a i.toNat v))
  | .arraylength => zr1 st fun a r => zif (1 ≤ (zK h a).1 ∧ (zK h a).1 ≤ 5) (zgo (pc + 1) ls (.inl ((zK h a).2 : Int) :: r) h)
  | .newarray .int => zb1 st fun n r => zif (0 ≤ n ∧ n ≤ 100000) (zgo (pc + 2) ls (.inr (zn h) :: r) (znA h 1 n.toNat))
  | .anewarray ix => zopt (zlkc (zown M) ix) fun c => zb1 st fun n r => zif (zat c ≠ 0 ∧ 0 ≤ n ∧ n ≤ 100000) (zgo (pc + 3) ls (.inr (zn h) :: r) (znA h (zat c) n.toNat))
  | .new ix => zopt (zlkc (zown M) ix) fun c => zgo (pc + 3) ls (.inr (zn h) :: st) (znO h c (zcw c).2.2)
  | .invokestatic ix => zopt (zlk2 zcm (zown M) ix) fun q => if q.1 = 0 ∨ q.1 = 1 then zcall M q.2 (znp q.2) st (fun _ => true) else if q.1 = 6 then zb2 st fun x y r => zif (1 ≤ zrk M ∧ 40 ≤ zlo M ∧ r.length ≤ 8) (zgo (pc + 3) ls (.inl (max x y) :: r) h) else if q.1 = 7 then zb2 st fun x y r => zif (1 ≤ zrk M ∧ 40 ≤ zlo M ∧ r.length ≤ 8) (zgo (pc + 3) ls (.inl (min x y) :: r) h) else zif (q.1 = 5 ∧ 1 ≤ zrk M ∧ 40 ≤ zlo M) (match st with
      | .inl n :: .inl dp :: .inr d :: .inl sp :: .inr a :: r => zif ((sp = 0 ∧ dp = 0 ∧ 0 ≤ n) ∧ ((zK h a).1 = 1 ∧ (zK h d).1 = 1) ∧ n ≤ (zK h a).2 ∧ n ≤ (zK h d).2 ∧ r.length ≤ 8) (zgo (pc + 3) ls r (zcp h a d n.toNat))
      | _ => none)
  | .invokevirtual ix => zopt (zlk2 zcm (zown M) ix) fun q => zif (q.1 = 2) (zcall M q.2 (znp q.2 + 1) st (zrcv h q.2))
  | .invokespecial ix => zopt (zlk2 zcm (zown M) ix) fun q => if q.1 = 3 then zcall M q.2 (znp q.2 + 1) st znn else zif (q.1 = 4 ∧ 1 ≤ zrk M ∧ 20 ≤ zlo M) (zr1 st fun a r => zif (a ≠ 0 ∧ r.length ≤ 8) (zgo (pc + 3) ls r h))
  | .ireturn => match st with
      | [.inl x] => zif (zrt M = some .int ∨ (zrt M = some .boolean ∧ (x = 0 ∨ x = 1))) (some (.inr (.inl (some (.inl x)))))
      | _ => none
  | .areturn => match st with
      | [.inr a] => match zrt M with
        | some (.object _) => some (.inr (.inl (some (.inr a))))
        | _ => none
      | _ => none
  | .return_ => match st with
      | [] => match zrt M with
        | none => some (.inr (.inl none))
        | _ => none
      | _ => none
  | _ => none
def zent (M : Nat) (as : List zV) : zL := as.map some ++ List.replicate (zml M - as.length) none
def zrun : Nat → Nat → Nat → zL → List zV → zH → Option (Option zV × zH)
  | 0, _, _, _, _, _ => none
  | n + 1, M, pc, ls, st, h => match zdec M pc with
    | none => none
    | some i => match zstep M i pc ls st h with
      | none => none
      | some (.inl q) => zrun n M q.1 q.2.1 q.2.2.1 q.2.2.2
      | some (.inr (.inl r)) => some (r, h)
      | some (.inr (.inr q)) => match zrun n q.1 0 (zent q.1 q.2.1) [] h with
        | none => none
        | some w => zrun n M (pc + 3) ls (w.1.toList ++ q.2.2) w.2
def zE (M pc : Nat) (ls : zL) (st : List zV) (h : zH) (Q : Option zV → zH → Prop) : Prop := ∃ n r h', zrun n M pc ls st h = some (r, h') ∧ Q r h'
end
section
/-! HOW THE SMALL MACHINE'S STATES STAND FOR THE MACHINE'S -/
def zrf (φ : Nat → Nat) (r : Nat) : Option Nat := if r = 0 then none else some (φ r)
def ztr (φ : Nat → Nat) (v : zV) : Value := match v with
  | .inl z => .int (Int32.ofInt z)
  | .inr r => va_rf (zrf φ r)
def zok (n : Nat) (v : zV) : Prop := match v with
  | .inl z => -2147483648 ≤ z ∧ z < 2147483648
  | .inr r => r < n
def zfv (φ : Nat → Nat) (h : zH) (c a k : Nat) : Value := if zir c k = true then va_rf (zrf φ (zR h (64 * c + k) a)) else .int (Int32.ofInt (zI h (64 * c + k) a))
def zce (cA : Nat → ClassId) (φ : Nat → Nat) (h : zH) (a : Nat) : va_E :=
  if (zK h a).1 = 1 then .inl (cA 1, (zK h a).2, .inl (fun j => Int32.ofInt (zA h a j)))
  else if (zK h a).1 < 10 then .inl (cA (zK h a).1, (zK h a).2, .inr (.inr (.inr (.inr (fun j => zrf φ (zB h a j))))))
  else .inr ((zK h a).1 - 10, (List.range (zcw ((zK h a).1 - 10)).2.2).map (zfv φ h ((zK h a).1 - 10) a))
def zws (cA : Nat → ClassId) (φ : Nat → Nat) (h : zH) : va_W := (List.range (zn h - 2)).map (fun i => (φ (i + 2), zce cA φ h (i + 2)))
def zwf (h : zH) : Prop := 2 ≤ zn h ∧ (∀ a, 2 ≤ a → a < zn h → (1 ≤ (zK h a).1 ∧ (zK h a).1 ≤ 4) ∨ (10 ≤ (zK h a).1 ∧ (zK h a).1 < 21)) ∧ (∀ a, zn h ≤ a → (zK h a).1 = 0) ∧ (zK h 0).1 = 0 ∧ (∀ a, (zK h a).2 < 2147483648) ∧
  (∀ f a, -2147483648 ≤ zI h f a ∧ zI h f a < 2147483648) ∧ (∀ f a, zR h f a < zn h) ∧ (∀ a i, -2147483648 ≤ zA h a i ∧ zA h a i < 2147483648) ∧ (∀ a i, zB h a i < zn h)
def zRel (D : va_G) (cA : Nat → ClassId) (B b L : Nat) (xs : Nat → Int32) (φ : Nat → Nat) (h : zH) (H : Heap) : Prop :=
  va_P D vwCl (zws cA φ h) H ∧ va_D (fun q => B ≤ q) (zws cA φ h) ∧ zwf h ∧ φ 1 = b ∧ zK h 1 = (5, L) ∧ ∀ j, j < L → Int32.ofInt (zA h 1 j) = xs j
def ztys (cA : Nat → ClassId) : List (ClassId × FieldType) := [(cA 1, .int), (cA 2, .object RX8), (cA 3, .object RX4), (cA 4, .object RX2)]
def zKx (D : va_G) (cA : Nat → ClassId) (U : State) : Prop := va_K D vwCl (ztys cA) U ∧ (va_AO RX8 U ∧ va_AO RX4 U ∧ va_AO RX2 U) ∧ ∀ e ∈ zcm, e.2.2.1 = 1 → va_Nw (.methodLinkNest (zon e.1) e.2.1 (zy e.2.2.2) "FarTypewriter") U
theorem zKx.moved {D : va_G} {cA : Nat → ClassId} {s U : State} (hW : s.WarmedH U.vm) (h : zKx D cA s) : zKx D cA U :=
  ⟨va_K.moved hW.alike h.1, ⟨va_AO.moved hW.alike h.2.1.1, va_AO.moved hW.alike h.2.1.2.1, va_AO.moved hW.alike h.2.1.2.2⟩, fun e he h1 => va_Nw.warmM hW (h.2.2 e he h1)⟩
def zas (φ : Nat → Nat) (ls : zL) : List (Nat × Value) := (List.range ls.length).filterMap (fun i => match ls[i]? with
  | some (some v) => some (i, ztr φ v)
  | _ => none)
def zlr (φ : Nat → Nat) (n nL : Nat) (lsR : Array Slot) (ls : zL) : Prop := ls.length = nL ∧ lv_has lsR nL (zas φ ls) ∧ ∀ (i : Nat) (v : zV), ls[i]? = some (some v) → zok n v
theorem zas_mem {φ : Nat → Nat} {ls : zL} {i : Nat} {v : zV} (h : ls[i]? = some (some v)) : (i, ztr φ v) ∈ zas φ ls := by
  refine List.mem_filterMap.mpr ⟨i, List.mem_range.mpr ?_, by rw [h]⟩
  exact (List.getElem?_eq_some_iff.mp h).1
theorem zas_of {φ : Nat → Nat} {ls : zL} {q : Nat × Value} (h : q ∈ zas φ ls) : ∃ i v, ls[i]? = some (some v) ∧ q = (i, ztr φ v) := by
  obtain ⟨i, -, hi⟩ := List.mem_filterMap.mp h
  cases hl : ls[i]? with
  | none => rw [hl] at hi; cases hi
  | some o =>
    cases o with
    | none => rw [hl] at hi; cases hi
    | some v => rw [hl] at hi; cases hi; exact ⟨i, v, hl, rfl⟩
theorem zlr.at {φ : Nat → Nat} {n nL : Nat} {lsR : Array Slot} {ls : zL} (h : zlr φ n nL lsR ls) {i : Nat} {v : zV} (hi : ls[i]? = some (some v)) : lsR[i]? = some (.val (ztr φ v)) := h.2.1.2.2 _ (zas_mem hi)
theorem ztr_cat (φ : Nat → Nat) (v : zV) : (ztr φ v).category = 1 := by
  cases v with
  | inl z => rfl
  | inr r =>
    show (va_rf (zrf φ r)).category = 1
    unfold zrf
    by_cases hr : r = 0
    · rw [if_pos hr]; rfl
    · rw [if_neg hr]; rfl
theorem zlr.set {φ : Nat → Nat} {n nL : Nat} {lsR lsR' : Array Slot} {ls : zL} {i : Nat} {v : zV} (h : zlr φ n nL lsR ls) (hv : zok n v)
    (h' : lv_has lsR' nL ((i, ztr φ v) :: (zas φ ls).filter (fun q => !(q.1 == i) && !(q.1 + 1 == i && q.2.category == 2)))) (hi : i < ls.length) : zlr φ n nL lsR' (ls.set i (some v)) := by
  refine ⟨by rw [List.length_set]; exact h.1, ⟨h'.1, h'.2.1, ?_⟩, ?_⟩
  · intro q hq
    obtain ⟨j, w, hj, rfl⟩ := zas_of hq
    by_cases hji : j = i
    · subst hji
      rw [List.getElem?_set_self hi] at hj
      cases hj
      exact h'.2.2 _ List.mem_cons_self
    · rw [List.getElem?_set_ne (Ne.symm hji)] at hj
      refine h'.2.2 _ (List.mem_cons_of_mem _ (List.mem_filter.mpr ⟨zas_mem hj, ?_⟩))
      have := ztr_cat φ w
      simp [hji, this]
  · intro j w hj
    by_cases hji : j = i
    · subst hji
      rw [List.getElem?_set_self hi] at hj
      cases hj
      exact hv
    · rw [List.getElem?_set_ne (Ne.symm hji)] at hj
      exact h.2.2 j w hj
/-- the map of addresses grows -/
def zext (φ φ' : Nat → Nat) (n : Nat) : Prop := ∀ a, a < n → φ' a = φ a
theorem zext.rf {φ : Nat → Nat} {n : Nat} : zext φ φ n := fun _ _ => rfl
theorem zext.tr {φ φ' : Nat → Nat} {n : Nat} (h : zext φ φ' n) {v : zV} (hv : zok n v) : ztr φ' v = ztr φ v := by
  cases v with
  | inl z => rfl
  | inr r => simp only [ztr, zrf, h r hv]
theorem zok.mono {n m : Nat} (h : n ≤ m) {v : zV} (hv : zok n v) : zok m v := by
  cases v with
  | inl z => exact hv
  | inr r => exact Nat.lt_of_lt_of_le hv h
theorem zlr.ext {φ φ' : Nat → Nat} {n m nL : Nat} {lsR : Array Slot} {ls : zL} (h : zlr φ n nL lsR ls) (he : zext φ φ' n) (hm : n ≤ m) : zlr φ' m nL lsR ls := by
  refine ⟨h.1, ⟨h.2.1.1, h.2.1.2.1, ?_⟩, fun i v hi => (h.2.2 i v hi).mono hm⟩
  intro q hq
  obtain ⟨j, w, hj, rfl⟩ := zas_of hq
  show lsR[j]? = some (.val (ztr φ' w))
  rw [he.tr (h.2.2 j w hj)]
  exact h.at hj
theorem zst_ext {φ φ' : Nat → Nat} {n : Nat} {st : List zV} (he : zext φ φ' n) (hst : ∀ v ∈ st, zok n v) : st.map (ztr φ') = st.map (ztr φ) := List.map_congr_left (fun v hv => he.tr (hst v hv))
/-- what stays the same for a method's whole walk -/
def zC (D : va_G) (cA : Nat → ClassId) (B b L : Nat) (xs : Nat → Int32) (p : Program) (R : Room) (s : State) (m : MethodId) (args : Array Value) (meth : Method) (c : Code) (M : Nat) : Prop :=
  p.tables.exec = Jvm.exec ∧ c.code = zby M ∧ meth.sig.returnType = zrt M ∧ meth.locks = false ∧ c.maxLocals = zml M ∧ s.vm.findClass (zon (zown M)) = some m.cls ∧ (M ≠ 0 → meth.name = (zy M).name) ∧ (∀ w ∈ zW, w.before args s = true) ∧ zKx D cA s ∧ va_X b L xs s s.heap ∧ b < B ∧ B ≤ s.heap.size ∧ zrk M ≤ R.frames ∧ zlo M ≤ R.locals
/-- the end of a method: its instruction, and its answer -/
def zEnd (M pc : Nat) (r : Option zV) (n : Nat) : Prop :=
  (∃ x, r = some (.inl x) ∧ decode (zby M) pc = .ok (.ireturn, 1) ∧ (-2147483648 ≤ x ∧ x < 2147483648) ∧ (zrt M = some .int ∨ (zrt M = some .boolean ∧ (x = 0 ∨ x = 1)))) ∨
  (∃ a, r = some (.inr a) ∧ decode (zby M) pc = .ok (.areturn, 1) ∧ a < n ∧ ∃ C, zrt M = some (.object C)) ∨ (r = none ∧ decode (zby M) pc = .ok (.return_, 1) ∧ zrt M = none)
def zrs (φ : Nat → Nat) (r : Option zV) : Option Value := r.map (ztr φ)
def zSnd (D : va_G) (cA : Nat → ClassId) (B b L : Nat) (xs : Nat → Int32) (M pc : Nat) (ls : zL) (st : List zV) (h : zH) (r : Option zV) (h' : zH) : Prop :=
  ∀ (p : Program) (l : Launch) (e : Env) (R : Room) (s : State) (m : MethodId) (args : Array Value) (below : List Frame) (meth : Method) (c : Code) (H : Heap) (locs : List Loc) (cells slots : Nat) (Q : State → Prop) (φ : Nat → Nat) (lsR : Array Slot),
    zC D cA B b L xs p R s m args meth c M → zRel D cA B b L xs φ h H → va_S (fun q => B ≤ q) s.heap H locs → zlr φ (zn h) (zml M) lsR ls → (∀ v ∈ st, zok (zn h) v) →
    cells + (zn h' - zn h) ≤ R.cells → slots + (zs h' - zs h) ≤ R.slots →
    (∀ (φ' : Nat → Nat) (H' : Heap) (locs' : List Loc) (lsR' : Array Slot) (pc' : Nat), zext φ φ' (zn h) → zRel D cA B b L xs φ' h' H' → va_S (fun q => B ≤ q) s.heap H' locs' → zEnd M pc' r (zn h') →
      W p l e R s m args below meth c H' locs' (cells + (zn h' - zn h)) (slots + (zs h' - zs h)) Q (F0 m pc' lsR' (zrs φ' r).toList)) →
    W p l e R s m args below meth c H locs cells slots Q (F0 m pc lsR (st.map (ztr φ)))
/-- a step that changes neither heap nor counts -/
theorem zSnd.of {D : va_G} {cA : Nat → ClassId} {B b L : Nat} {xs : Nat → Int32} {M pc pc2 : Nat} {ls ls2 : zL} {st st2 : List zV} {h : zH} {r : Option zV} {h' : zH}
    (k : zSnd D cA B b L xs M pc2 ls2 st2 h r h')
    (g : ∀ (p : Program) (l : Launch) (e : Env) (R : Room) (s : State) (m : MethodId) (args : Array Value) (below : List Frame) (meth : Method) (c : Code) (H : Heap) (locs : List Loc) (cells slots : Nat) (Q : State → Prop) (φ : Nat → Nat) (lsR : Array Slot),
      zC D cA B b L xs p R s m args meth c M → zRel D cA B b L xs φ h H → va_S (fun q => B ≤ q) s.heap H locs → zlr φ (zn h) (zml M) lsR ls → (∀ v ∈ st, zok (zn h) v) →
      (∀ lsR2 : Array Slot, zlr φ (zn h) (zml M) lsR2 ls2 → (∀ v ∈ st2, zok (zn h) v) → W p l e R s m args below meth c H locs cells slots Q (F0 m pc2 lsR2 (st2.map (ztr φ)))) →
      W p l e R s m args below meth c H locs cells slots Q (F0 m pc lsR (st.map (ztr φ)))) : zSnd D cA B b L xs M pc ls st h r h' := by
  intro p l e R s m args below meth c H locs cells slots Q φ lsR hC hR hS hl hst hc hs HR
  exact g p l e R s m args below meth c H locs cells slots Q φ lsR hC hR hS hl hst (fun lsR2 h1 h2 => k p l e R s m args below meth c H locs cells slots Q φ lsR2 hC hR hS h1 h2 hc hs HR)
theorem zdec_eq {M pc : Nat} {i : Instr} {n : Nat} (h : zdec M pc = some i) (hn : zlen i = n) (h0 : n ≠ 0) : decode (zby M) pc = .ok (i, n) := by
  unfold zdec at h
  split at h
  · rename_i q hq
    split at h
    · rename_i hl
      cases h
      rw [hq]
      obtain ⟨i, k⟩ := q
      rcases hl with hl | hl
      · have : k = n := by rw [← hn]; exact hl.symm
        subst this; rfl
      · exact absurd (hn.symm.trans hl) h0
    · cases h
  · cases h
theorem zdec_any {M pc : Nat} {i : Instr} (h : zdec M pc = some i) : ∃ n, decode (zby M) pc = .ok (i, n) := by
  unfold zdec at h
  split at h
  · rename_i q hq
    split at h
    · cases h
      exact ⟨q.2, hq⟩
    · cases h
  · cases h
-- numbers
theorem zofI (x : Int) : Int32.ofInt (zw x) = Int32.ofInt x := by unfold zw; exact Int32.ofInt_toInt _
theorem z32 (x : Int32) : -2147483648 ≤ x.toInt ∧ x.toInt < 2147483648 := ⟨Int32.le_toInt x, Int32.toInt_lt x⟩
theorem zw_in (x : Int) : -2147483648 ≤ zw x ∧ zw x < 2147483648 := z32 _
theorem ztoI {x : Int} (h : -2147483648 ≤ x ∧ x < 2147483648) : (Int32.ofInt x).toInt = x := Int32.toInt_ofInt_of_le h.1 h.2
theorem zw_eq {x : Int} (h1 : -2147483648 ≤ x) (h2 : x < 2147483648) : zw x = x := ztoI ⟨h1, h2⟩
theorem zeqI {x y : Int} (hx : -2147483648 ≤ x ∧ x < 2147483648) (hy : -2147483648 ≤ y ∧ y < 2147483648) : Int32.ofInt x = Int32.ofInt y ↔ x = y := by
  constructor
  · intro h
    rw [← ztoI hx, ← ztoI hy, h]
  · intro h
    rw [h]
theorem zltI {x y : Int} (hx : -2147483648 ≤ x ∧ x < 2147483648) (hy : -2147483648 ≤ y ∧ y < 2147483648) : Int32.ofInt x < Int32.ofInt y ↔ x < y := by
  rw [Int32.lt_iff_toInt_lt, ztoI hx, ztoI hy]
theorem zleI {x y : Int} (hx : -2147483648 ≤ x ∧ x < 2147483648) (hy : -2147483648 ≤ y ∧ y < 2147483648) : Int32.ofInt x ≤ Int32.ofInt y ↔ x ≤ y := by
  rw [Int32.le_iff_toInt_le, ztoI hx, ztoI hy]
theorem z0I : (0 : Int32) = Int32.ofInt 0 := rfl
theorem zvpin {i : Int} {n : Nat} (h0 : 0 ≤ i) (hi : i < n) (hn : n < 2147483648) : vp_in (Int32.ofInt i) n := by
  rw [vp_in_iff, ztoI ⟨by omega, by omega⟩]
  exact ⟨h0, hi⟩
theorem zclamp {i : Int} (h0 : 0 ≤ i) (hi : i < 2147483648) : (Int32.ofInt i).toNatClampNeg = i.toNat := by
  show (Int32.ofInt i).toInt.toNat = i.toNat
  rw [ztoI ⟨by omega, hi⟩]
end
section
/-! A LAW AN INSTRUCTION: stack, locals, numbers, branches -/
section zOps
variable {D : va_G} {cA : Nat → ClassId} {B b L : Nat} {xs : Nat → Int32} {M pc : Nat} {ls : zL} {st : List zV} {h : zH} {r : Option zV} {h' : zH}
theorem zc1 {n : Nat} {v : zV} {st : List zV} (hv : zok n v) (hst : ∀ v ∈ st, zok n v) : ∀ w ∈ v :: st, zok n w := by
  intro w hw
  rcases List.mem_cons.mp hw with rfl | hw
  · exact hv
  · exact hst w hw
theorem zS_iconst {n : Int} (hd : zdec M pc = some (.iconst n)) (hn : -1 ≤ n ∧ n ≤ 5) (k : zSnd D cA B b L xs M (pc + 1) ls (.inl n :: st) h r h') : zSnd D cA B b L xs M pc ls st h r h' := by
  refine zSnd.of k ?_
  intro p l e R s m args below meth c H locs cells slots Q φ lsR hC hR hS hl hst kk
  obtain ⟨hx, hb, -⟩ := hC
  exact lv_iconst hx hb (zdec_eq hd rfl (by decide)) rfl (kk lsR hl (zc1 (show zok _ (.inl n) from ⟨by omega, by omega⟩) hst))
theorem zS_bipush {n : Int} (hd : zdec M pc = some (.bipush n)) (hn : -128 ≤ n ∧ n ≤ 127) (k : zSnd D cA B b L xs M (pc + 2) ls (.inl n :: st) h r h') : zSnd D cA B b L xs M pc ls st h r h' := by
  refine zSnd.of k ?_
  intro p l e R s m args below meth c H locs cells slots Q φ lsR hC hR hS hl hst kk
  obtain ⟨hx, hb, -⟩ := hC
  have h8 : (Int8.ofInt n).toInt32 = Int32.ofInt n := by
    apply Int32.toInt_inj.mp
    rw [Int8.toInt_toInt32, ztoI ⟨by omega, by omega⟩, Int8.toInt_ofInt_of_le hn.1 (by omega)]
  exact lv_bipush hx hb (zdec_eq hd rfl (by decide)) h8 (kk lsR hl (zc1 (show zok _ (.inl n) from ⟨by omega, by omega⟩) hst))
theorem zS_sipush {n : Int} (hd : zdec M pc = some (.sipush n)) (hn : -32768 ≤ n ∧ n ≤ 32767) (k : zSnd D cA B b L xs M (pc + 3) ls (.inl n :: st) h r h') : zSnd D cA B b L xs M pc ls st h r h' := by
  refine zSnd.of k ?_
  intro p l e R s m args below meth c H locs cells slots Q φ lsR hC hR hS hl hst kk
  obtain ⟨hx, hb, -⟩ := hC
  have h8 : (Int16.ofInt n).toInt32 = Int32.ofInt n := by
    apply Int32.toInt_inj.mp
    rw [Int16.toInt_toInt32, ztoI ⟨by omega, by omega⟩, Int16.toInt_ofInt_of_le hn.1 (by omega)]
  exact lv_sipush hx hb (zdec_eq hd rfl (by decide)) h8 (kk lsR hl (zc1 (show zok _ (.inl n) from ⟨by omega, by omega⟩) hst))
theorem zlkk_mem {o i : Nat} {v : Int} (hk : zlkk o i = some v) : (o, i, v) ∈ zck := by
  unfold zlkk at hk
  cases hf : zck.find? (fun e => Nat.beq e.1 o && Nat.beq e.2.1 i) with
  | none => rw [hf] at hk; cases hk
  | some e =>
    rw [hf] at hk
    have h1 := List.find?_some hf
    simp only [Bool.and_eq_true, Nat.beq_eq] at h1
    have h2 := List.mem_of_find?_eq_some hf
    obtain ⟨a, b', c⟩ := e
    simp only [Option.map_some, Option.some.injEq] at hk
    obtain ⟨rfl, rfl⟩ := h1
    subst hk
    exact h2
theorem zlk2_mem {l : List (Nat × Nat × Nat × Nat)} {o i : Nat} {q : Nat × Nat} (hk : zlk2 l o i = some q) : (o, i, q.1, q.2) ∈ l := by
  unfold zlk2 at hk
  cases hf : l.find? (fun e => Nat.beq e.1 o && Nat.beq e.2.1 i) with
  | none => rw [hf] at hk; cases hk
  | some e =>
    rw [hf] at hk
    have h1 := List.find?_some hf
    simp only [Bool.and_eq_true, Nat.beq_eq] at h1
    have h2 := List.mem_of_find?_eq_some hf
    obtain ⟨a, b', c⟩ := e
    simp only [Option.map_some, Option.some.injEq] at hk
    obtain ⟨rfl, rfl⟩ := h1
    subst hk
    exact h2
theorem zlkc_mem {o i c : Nat} (hk : zlkc o i = some c) : (o, i, c) ∈ zcc := by
  unfold zlkc at hk
  cases hf : zcc.find? (fun e => Nat.beq e.1 o && Nat.beq e.2.1 i) with
  | none => rw [hf] at hk; cases hk
  | some e =>
    rw [hf] at hk
    have h1 := List.find?_some hf
    simp only [Bool.and_eq_true, Nat.beq_eq] at h1
    have h2 := List.mem_of_find?_eq_some hf
    obtain ⟨a, b', c⟩ := e
    simp only [Option.map_some, Option.some.injEq] at hk
    obtain ⟨rfl, rfl⟩ := h1
    subst hk
    exact h2
theorem zW_0 {w : Cond} (h : w ∈ zW0) : w ∈ zW := List.mem_append_left _ h
theorem zW_1 {w : Cond} (h : w ∈ zW1) : w ∈ zW := List.mem_append_right _ (List.mem_append_left _ h)
theorem zW_2 {w : Cond} (h : w ∈ zW2) : w ∈ zW := List.mem_append_right _ (List.mem_append_right _ (List.mem_append_left _ h))
theorem zW_3 {w : Cond} (h : w ∈ zW3) : w ∈ zW := List.mem_append_right _ (List.mem_append_right _ (List.mem_append_right _ (List.mem_append_left _ h)))
theorem zW_4 {w : Cond} (h : w ∈ zW4) : w ∈ zW := List.mem_append_right _ (List.mem_append_right _ (List.mem_append_right _ (List.mem_append_right _ (List.mem_append_left _ h))))
theorem zW_5 {w : Cond} (h : w ∈ zW5) : w ∈ zW := List.mem_append_right _ (List.mem_append_right _ (List.mem_append_right _ (List.mem_append_right _ (List.mem_append_right _ (List.mem_append_left _ h)))))
theorem zW_6 {w : Cond} (h : w ∈ zW6) : w ∈ zW := List.mem_append_right _ (List.mem_append_right _ (List.mem_append_right _ (List.mem_append_right _ (List.mem_append_right _ (List.mem_append_right _ (List.mem_append_left _ h))))))
theorem zW_7 {w : Cond} (h : w ∈ zW7) : w ∈ zW := List.mem_append_right _ (List.mem_append_right _ (List.mem_append_right _ (List.mem_append_right _ (List.mem_append_right _ (List.mem_append_right _ (List.mem_append_right _ h))))))
theorem zS_ldc {ix : Nat} {v : Int} (hd : zdec M pc = some (.ldc ix)) (hv : zlkk (zown M) ix = some v) (hn : 0 ≤ v ∧ v ≤ 100000) (k : zSnd D cA B b L xs M (pc + 2) ls (.inl v :: st) h r h') : zSnd D cA B b L xs M pc ls st h r h' := by
  refine zSnd.of k ?_
  intro p l e R s m args below meth c H locs cells slots Q φ lsR hC hR hS hl hst kk
  obtain ⟨hx, hb, -, -, -, hown, -, hts, -⟩ := hC
  have hw : Cond.constant (zon (zown M)) ix (Int32.ofInt v) ∈ zW := zW_7 (List.mem_map.mpr ⟨_, zlkk_mem hv, rfl⟩)
  exact lv_ldc hx hb hown (hts _ hw) (zdec_eq hd rfl (by decide)) (kk lsR hl (zc1 (show zok _ (.inl v) from ⟨by omega, by omega⟩) hst))
theorem zS_null (hd : zdec M pc = some .aconst_null) (k : zSnd D cA B b L xs M (pc + 1) ls (.inr 0 :: st) h r h') : zSnd D cA B b L xs M pc ls st h r h' := by
  refine zSnd.of k ?_
  intro p l e R s m args below meth c H locs cells slots Q φ lsR hC hR hS hl hst kk
  obtain ⟨hx, hb, -⟩ := hC
  have h2 : 2 ≤ zn h := hR.2.2.1.1
  exact lv_null hx hb (zdec_eq hd rfl (by decide)) (kk lsR hl (zc1 (show zok _ (.inr 0) from (by show 0 < zn h; omega)) hst))
theorem zS_iload {k0 : Nat} {x : Int} (hd : zdec M pc = some (.iload k0)) (hv : ls[k0]? = some (some (.inl x))) (k : zSnd D cA B b L xs M (pc + 2) ls (.inl x :: st) h r h') : zSnd D cA B b L xs M pc ls st h r h' := by
  refine zSnd.of k ?_
  intro p l e R s m args below meth c H locs cells slots Q φ lsR hC hR hS hl hst kk
  obtain ⟨hx, hb, -⟩ := hC
  exact lv_iload hx hb (zdec_eq hd rfl (by decide)) (hl.at hv) (kk lsR hl (zc1 (hl.2.2 _ _ hv) hst))
theorem zS_iload_n {k0 : Fin 4} {x : Int} (hd : zdec M pc = some (.iload_n k0)) (hv : ls[(k0 : Nat)]? = some (some (.inl x))) (k : zSnd D cA B b L xs M (pc + 1) ls (.inl x :: st) h r h') : zSnd D cA B b L xs M pc ls st h r h' := by
  refine zSnd.of k ?_
  intro p l e R s m args below meth c H locs cells slots Q φ lsR hC hR hS hl hst kk
  obtain ⟨hx, hb, -⟩ := hC
  exact lv_iload_n hx hb (zdec_eq hd rfl (by decide)) rfl (hl.at hv) (kk lsR hl (zc1 (hl.2.2 _ _ hv) hst))
theorem ztr_null (φ : Nat → Nat) : ztr φ (.inr 0) = .null := rfl
theorem ztr_ref (φ : Nat → Nat) {a : Nat} (h : a ≠ 0) : ztr φ (.inr a) = .ref (φ a) := by
  show va_rf (zrf φ a) = .ref (φ a)
  unfold zrf
  rw [if_neg h]
  rfl
theorem zS_aload {k0 : Nat} {x : Nat} (hd : zdec M pc = some (.aload k0)) (hv : ls[k0]? = some (some (.inr x))) (k : zSnd D cA B b L xs M (pc + 2) ls (.inr x :: st) h r h') : zSnd D cA B b L xs M pc ls st h r h' := by
  refine zSnd.of k ?_
  intro p l e R s m args below meth c H locs cells slots Q φ lsR hC hR hS hl hst kk
  obtain ⟨hx, hb, -⟩ := hC
  have h1 := hl.at hv
  have h2 := kk lsR hl (zc1 (hl.2.2 _ _ hv) hst)
  by_cases h0 : x = 0
  · subst h0
    exact lv_aloadN hx hb (zdec_eq hd rfl (by decide)) h1 h2
  · rw [ztr_ref φ h0] at h1
    rw [List.map_cons, ztr_ref φ h0] at h2
    exact lv_aload hx hb (zdec_eq hd rfl (by decide)) h1 h2
theorem zS_aload_n {k0 : Fin 4} {x : Nat} (hd : zdec M pc = some (.aload_n k0)) (hv : ls[(k0 : Nat)]? = some (some (.inr x))) (k : zSnd D cA B b L xs M (pc + 1) ls (.inr x :: st) h r h') : zSnd D cA B b L xs M pc ls st h r h' := by
  refine zSnd.of k ?_
  intro p l e R s m args below meth c H locs cells slots Q φ lsR hC hR hS hl hst kk
  obtain ⟨hx, hb, -⟩ := hC
  have h1 := hl.at hv
  have h2 := kk lsR hl (zc1 (hl.2.2 _ _ hv) hst)
  by_cases h0 : x = 0
  · subst h0
    exact lv_aload_nN hx hb (zdec_eq hd rfl (by decide)) rfl h1 h2
  · rw [ztr_ref φ h0] at h1
    rw [List.map_cons, ztr_ref φ h0] at h2
    exact lv_aload_n hx hb (zdec_eq hd rfl (by decide)) rfl h1 h2
theorem zS_istore {k0 : Nat} {x : Int} (hd : zdec M pc = some (.istore k0)) (hk : k0 < ls.length) (k : zSnd D cA B b L xs M (pc + 2) (ls.set k0 (some (.inl x))) st h r h') : zSnd D cA B b L xs M pc ls (.inl x :: st) h r h' := by
  refine zSnd.of k ?_
  intro p l e R s m args below meth c H locs cells slots Q φ lsR hC hR hS hl hst kk
  obtain ⟨hx, hb, -⟩ := hC
  exact lv_istore hx hb (zdec_eq hd rfl (by decide)) hl.2.1 (by rw [← hl.1]; exact hk) rfl (fun ls' h1 => kk ls' (hl.set (hst _ List.mem_cons_self) h1 hk) (fun v hv => hst v (List.mem_cons_of_mem _ hv)))
theorem zS_istore_n {k0 : Fin 4} {x : Int} (hd : zdec M pc = some (.istore_n k0)) (hk : (k0 : Nat) < ls.length) (k : zSnd D cA B b L xs M (pc + 1) (ls.set (k0 : Nat) (some (.inl x))) st h r h') : zSnd D cA B b L xs M pc ls (.inl x :: st) h r h' := by
  refine zSnd.of k ?_
  intro p l e R s m args below meth c H locs cells slots Q φ lsR hC hR hS hl hst kk
  obtain ⟨hx, hb, -⟩ := hC
  exact lv_istore_n hx hb (zdec_eq hd rfl (by decide)) rfl hl.2.1 (by rw [← hl.1]; exact hk) rfl (fun ls' h1 => kk ls' (hl.set (hst _ List.mem_cons_self) h1 hk) (fun v hv => hst v (List.mem_cons_of_mem _ hv)))
theorem zS_astore {k0 : Nat} {x : Nat} (hd : zdec M pc = some (.astore k0)) (hk : k0 < ls.length) (k : zSnd D cA B b L xs M (pc + 2) (ls.set k0 (some (.inr x))) st h r h') : zSnd D cA B b L xs M pc ls (.inr x :: st) h r h' := by
  refine zSnd.of k ?_
  intro p l e R s m args below meth c H locs cells slots Q φ lsR hC hR hS hl hst kk
  obtain ⟨hx, hb, -⟩ := hC
  have hn : k0 < zml M := by rw [← hl.1]; exact hk
  have h2 := fun (ls' : Array Slot) h1 => kk ls' (hl.set (hst _ List.mem_cons_self) h1 hk) (fun v hv => hst v (List.mem_cons_of_mem _ hv))
  by_cases h0 : x = 0
  · subst h0
    exact lv_astoreN hx hb (zdec_eq hd rfl (by decide)) hl.2.1 hn rfl h2
  · rw [List.map_cons, ztr_ref φ h0]
    refine lv_astore hx hb (zdec_eq hd rfl (by decide)) hl.2.1 hn rfl (fun ls' h1 => h2 ls' ?_)
    rw [ztr_ref φ h0]
    exact h1
theorem zS_astore_n {k0 : Fin 4} {x : Nat} (hd : zdec M pc = some (.astore_n k0)) (hk : (k0 : Nat) < ls.length) (k : zSnd D cA B b L xs M (pc + 1) (ls.set (k0 : Nat) (some (.inr x))) st h r h') : zSnd D cA B b L xs M pc ls (.inr x :: st) h r h' := by
  refine zSnd.of k ?_
  intro p l e R s m args below meth c H locs cells slots Q φ lsR hC hR hS hl hst kk
  obtain ⟨hx, hb, -⟩ := hC
  have hn : (k0 : Nat) < zml M := by rw [← hl.1]; exact hk
  have h2 := fun (ls' : Array Slot) h1 => kk ls' (hl.set (hst _ List.mem_cons_self) h1 hk) (fun v hv => hst v (List.mem_cons_of_mem _ hv))
  by_cases h0 : x = 0
  · subst h0
    exact lv_astore_nN hx hb (zdec_eq hd rfl (by decide)) rfl hl.2.1 hn rfl h2
  · rw [List.map_cons, ztr_ref φ h0]
    refine lv_astore_n hx hb (zdec_eq hd rfl (by decide)) rfl hl.2.1 hn rfl (fun ls' h1 => h2 ls' ?_)
    rw [ztr_ref φ h0]
    exact h1
theorem zS_iinc {k0 : Nat} {n : Int} {x : Int} (hd : zdec M pc = some (.iinc k0 n)) (hv : ls[k0]? = some (some (.inl x))) (k : zSnd D cA B b L xs M (pc + 3) (ls.set k0 (some (.inl (zw (x + n))))) st h r h') : zSnd D cA B b L xs M pc ls st h r h' := by
  refine zSnd.of k ?_
  intro p l e R s m args below meth c H locs cells slots Q φ lsR hC hR hS hl hst kk
  obtain ⟨hx, hb, -⟩ := hC
  have hk := (List.getElem?_eq_some_iff.mp hv).1
  obtain ⟨j, hj⟩ := List.getElem?_of_mem (zas_mem (φ := φ) hv)
  refine lv_iinc (v := Int32.ofInt (zw (x + n))) hx hb (zdec_eq hd rfl (by decide)) hl.2.1 hj (by rw [zofI, Int32.ofInt_add]) (by rw [← hl.1]; exact hk) rfl (fun ls' h1 => kk ls' (hl.set (show zok _ (.inl _) from zw_in _) h1 hk) hst)
theorem zst2 {n : Nat} {x y : Int} {st : List zV} (hst : ∀ v ∈ (.inl y :: .inl x :: st : List zV), zok n v) : (-2147483648 ≤ x ∧ x < 2147483648) ∧ (-2147483648 ≤ y ∧ y < 2147483648) ∧ ∀ v ∈ st, zok n v :=
  ⟨hst (.inl x) (List.mem_cons_of_mem _ List.mem_cons_self), hst (.inl y) List.mem_cons_self, fun v hv => hst v (List.mem_cons_of_mem _ (List.mem_cons_of_mem _ hv))⟩
theorem zst1 {n : Nat} {y : zV} {st : List zV} (hst : ∀ v ∈ y :: st, zok n v) : zok n y ∧ ∀ v ∈ st, zok n v := ⟨hst y List.mem_cons_self, fun v hv => hst v (List.mem_cons_of_mem _ hv)⟩
theorem zS_iadd {x y : Int} (hd : zdec M pc = some .iadd) (k : zSnd D cA B b L xs M (pc + 1) ls (.inl (zw (x + y)) :: st) h r h') : zSnd D cA B b L xs M pc ls (.inl y :: .inl x :: st) h r h' := by
  refine zSnd.of k ?_
  intro p l e R s m args below meth c H locs cells slots Q φ lsR hC hR hS hl hst kk
  obtain ⟨hx, hb, -⟩ := hC
  have h2 := kk lsR hl (zc1 (show zok _ (.inl _) from zw_in _) (zst2 hst).2.2)
  simp only [List.map_cons, ztr, zofI, Int32.ofInt_add] at h2
  exact lv_iadd hx hb (zdec_eq hd rfl (by decide)) h2
theorem zS_isub {x y : Int} (hd : zdec M pc = some .isub) (k : zSnd D cA B b L xs M (pc + 1) ls (.inl (zw (x - y)) :: st) h r h') : zSnd D cA B b L xs M pc ls (.inl y :: .inl x :: st) h r h' := by
  refine zSnd.of k ?_
  intro p l e R s m args below meth c H locs cells slots Q φ lsR hC hR hS hl hst kk
  obtain ⟨hx, hb, -⟩ := hC
  have h2 := kk lsR hl (zc1 (show zok _ (.inl _) from zw_in _) (zst2 hst).2.2)
  simp only [List.map_cons, ztr, zofI, Int32.ofInt_sub] at h2
  exact lv_isub hx hb (zdec_eq hd rfl (by decide)) h2
theorem zS_imul {x y : Int} (hd : zdec M pc = some .imul) (k : zSnd D cA B b L xs M (pc + 1) ls (.inl (zw (x * y)) :: st) h r h') : zSnd D cA B b L xs M pc ls (.inl y :: .inl x :: st) h r h' := by
  refine zSnd.of k ?_
  intro p l e R s m args below meth c H locs cells slots Q φ lsR hC hR hS hl hst kk
  obtain ⟨hx, hb, -⟩ := hC
  have h2 := kk lsR hl (zc1 (show zok _ (.inl _) from zw_in _) (zst2 hst).2.2)
  simp only [List.map_cons, ztr, zofI, Int32.ofInt_mul] at h2
  exact lv_imul hx hb (zdec_eq hd rfl (by decide)) h2
theorem zdivI {x y : Int} (hx : -2147483648 ≤ x ∧ x < 2147483648) (hy : -2147483648 ≤ y ∧ y < 2147483648) : Int32.ofInt x / Int32.ofInt y = Int32.ofInt (x.tdiv y) := by
  apply Int32.toInt_inj.mp
  rw [Int32.toInt_div, ztoI hx, ztoI hy, Int32.toInt_ofInt]
theorem zS_idiv {x y : Int} (hd : zdec M pc = some .idiv) (h0 : y ≠ 0) (k : zSnd D cA B b L xs M (pc + 1) ls (.inl (zw (x.tdiv y)) :: st) h r h') : zSnd D cA B b L xs M pc ls (.inl y :: .inl x :: st) h r h' := by
  refine zSnd.of k ?_
  intro p l e R s m args below meth c H locs cells slots Q φ lsR hC hR hS hl hst kk
  obtain ⟨hx, hb, -⟩ := hC
  obtain ⟨gx, gy, gs⟩ := zst2 hst
  have h2 := kk lsR hl (zc1 (show zok _ (.inl _) from zw_in _) gs)
  simp only [List.map_cons, ztr, zofI, ← zdivI gx gy] at h2
  exact lv_idiv hx hb (zdec_eq hd rfl (by decide)) (fun q => h0 (by rw [z0I, zeqI gy (by omega)] at q; exact q)) h2
theorem zS_irem {x y : Int} (hd : zdec M pc = some .irem) (h0 : y ≠ 0) (k : zSnd D cA B b L xs M (pc + 1) ls (.inl (zw (x.tmod y)) :: st) h r h') : zSnd D cA B b L xs M pc ls (.inl y :: .inl x :: st) h r h' := by
  refine zSnd.of k ?_
  intro p l e R s m args below meth c H locs cells slots Q φ lsR hC hR hS hl hst kk
  obtain ⟨hx, hb, -⟩ := hC
  obtain ⟨gx, gy, gs⟩ := zst2 hst
  have h2 := kk lsR hl (zc1 (show zok _ (.inl _) from zw_in _) gs)
  have e1 : Int32.ofInt (x.tmod y) = Int32.ofInt x - Int32.ofInt x / Int32.ofInt y * Int32.ofInt y := by
    rw [zdivI gx gy, ← Int32.ofInt_mul, ← Int32.ofInt_sub, Int.tmod_def, Int.mul_comm]
  simp only [List.map_cons, ztr, zofI, e1] at h2
  exact lv_irem hx hb (zdec_eq hd rfl (by decide)) (fun q => h0 (by rw [z0I, zeqI gy (by omega)] at q; exact q)) h2
theorem zS_iand {x y : Int} (hd : zdec M pc = some .iand) (k : zSnd D cA B b L xs M (pc + 1) ls (.inl (zand x y) :: st) h r h') : zSnd D cA B b L xs M pc ls (.inl y :: .inl x :: st) h r h' := by
  refine zSnd.of k ?_
  intro p l e R s m args below meth c H locs cells slots Q φ lsR hC hR hS hl hst kk
  obtain ⟨hx, hb, -⟩ := hC
  have h2 := kk lsR hl (zc1 (show zok _ (.inl _) from z32 _) (zst2 hst).2.2)
  simp only [List.map_cons, ztr, zand, Int32.ofInt_toInt] at h2
  exact lv_iand hx hb (zdec_eq hd rfl (by decide)) h2
theorem zS_ixor {x y : Int} (hd : zdec M pc = some .ixor) (k : zSnd D cA B b L xs M (pc + 1) ls (.inl (zxor x y) :: st) h r h') : zSnd D cA B b L xs M pc ls (.inl y :: .inl x :: st) h r h' := by
  refine zSnd.of k ?_
  intro p l e R s m args below meth c H locs cells slots Q φ lsR hC hR hS hl hst kk
  obtain ⟨hx, hb, -⟩ := hC
  have h2 := kk lsR hl (zc1 (show zok _ (.inl _) from z32 _) (zst2 hst).2.2)
  simp only [List.map_cons, ztr, zxor, Int32.ofInt_toInt] at h2
  exact lv_ixor hx hb (zdec_eq hd rfl (by decide)) h2
theorem zS_ishr {x y : Int} (hd : zdec M pc = some .ishr) (k : zSnd D cA B b L xs M (pc + 1) ls (.inl (zshr x y) :: st) h r h') : zSnd D cA B b L xs M pc ls (.inl y :: .inl x :: st) h r h' := by
  refine zSnd.of k ?_
  intro p l e R s m args below meth c H locs cells slots Q φ lsR hC hR hS hl hst kk
  obtain ⟨hx, hb, -⟩ := hC
  have h2 := kk lsR hl (zc1 (show zok _ (.inl _) from z32 _) (zst2 hst).2.2)
  simp only [List.map_cons, ztr, zshr, Int32.ofInt_toInt] at h2
  exact lv_ishr hx hb (zdec_eq hd rfl (by decide)) h2
theorem zS_dup {v : zV} (hd : zdec M pc = some .dup) (k : zSnd D cA B b L xs M (pc + 1) ls (v :: v :: st) h r h') : zSnd D cA B b L xs M pc ls (v :: st) h r h' := by
  refine zSnd.of k ?_
  intro p l e R s m args below meth c H locs cells slots Q φ lsR hC hR hS hl hst kk
  obtain ⟨hx, hb, -⟩ := hC
  exact lv_dup hx hb (zdec_eq hd rfl (by decide)) (ztr_cat φ v) (kk lsR hl (zc1 (zst1 hst).1 hst))
theorem zS_dup2 {v w : zV} (hd : zdec M pc = some .dup2) (k : zSnd D cA B b L xs M (pc + 1) ls (v :: w :: v :: w :: st) h r h') : zSnd D cA B b L xs M pc ls (v :: w :: st) h r h' := by
  refine zSnd.of k ?_
  intro p l e R s m args below meth c H locs cells slots Q φ lsR hC hR hS hl hst kk
  obtain ⟨hx, hb, -⟩ := hC
  exact lv_dup2_11 hx hb (zdec_eq hd rfl (by decide)) (ztr_cat φ v) (ztr_cat φ w) (kk lsR hl (zc1 (zst1 hst).1 (zc1 (zst1 (zst1 hst).2).1 hst)))
theorem zS_pop {v : zV} (hd : zdec M pc = some .pop) (k : zSnd D cA B b L xs M (pc + 1) ls st h r h') : zSnd D cA B b L xs M pc ls (v :: st) h r h' := by
  refine zSnd.of k ?_
  intro p l e R s m args below meth c H locs cells slots Q φ lsR hC hR hS hl hst kk
  obtain ⟨hx, hb, -⟩ := hC
  exact lv_pop hx hb (zdec_eq hd rfl (by decide)) (ztr_cat φ v) (kk lsR hl (zst1 hst).2)
theorem zS_goto {off : Int} (hd : zdec M pc = some (.goto off)) (h0 : 0 ≤ (pc : Int) + off) (k : zSnd D cA B b L xs M ((pc : Int) + off).toNat ls st h r h') : zSnd D cA B b L xs M pc ls st h r h' := by
  refine zSnd.of k ?_
  intro p l e R s m args below meth c H locs cells slots Q φ lsR hC hR hS hl hst kk
  obtain ⟨hx, hb, -⟩ := hC
  exact lv_goto hx hb (zdec_eq hd rfl (by decide)) (Int.toNat_of_nonneg h0).symm (kk lsR hl hst)
/-- a branch: two ways on, the heap as it was -/
theorem zSnd.br {P : Prop} [Decidable P] {pc2 pc3 : Nat} {st2 : List zV} (k : if P then zSnd D cA B b L xs M pc2 ls st2 h r h' else zSnd D cA B b L xs M pc3 ls st2 h r h')
    (g : ∀ (p : Program) (l : Launch) (e : Env) (R : Room) (s : State) (m : MethodId) (args : Array Value) (below : List Frame) (meth : Method) (c : Code) (H : Heap) (locs : List Loc) (cells slots : Nat) (Q : State → Prop) (φ : Nat → Nat) (lsR : Array Slot),
      zC D cA B b L xs p R s m args meth c M → (∀ v ∈ st, zok (zn h) v) →
      (P → W p l e R s m args below meth c H locs cells slots Q (F0 m pc2 lsR (st2.map (ztr φ)))) → (¬ P → W p l e R s m args below meth c H locs cells slots Q (F0 m pc3 lsR (st2.map (ztr φ)))) →
      W p l e R s m args below meth c H locs cells slots Q (F0 m pc lsR (st.map (ztr φ)))) (hsub : ∀ v ∈ st2, v ∈ st) : zSnd D cA B b L xs M pc ls st h r h' := by
  intro p l e R s m args below meth c H locs cells slots Q φ lsR hC hR hS hl hst hc hs HR
  refine g p l e R s m args below meth c H locs cells slots Q φ lsR hC hst (fun hp => ?_) (fun hp => ?_)
  · rw [if_pos hp] at k
    exact k p l e R s m args below meth c H locs cells slots Q φ lsR hC hR hS hl (fun v hv => hst v (hsub v hv)) hc hs HR
  · rw [if_neg hp] at k
    exact k p l e R s m args below meth c H locs cells slots Q φ lsR hC hR hS hl (fun v hv => hst v (hsub v hv)) hc hs HR
theorem zsub1 {v : zV} {st : List zV} : ∀ w ∈ st, w ∈ v :: st := fun _ h => List.mem_cons_of_mem _ h
theorem zsub2 {v u : zV} {st : List zV} : ∀ w ∈ st, w ∈ v :: u :: st := fun _ h => List.mem_cons_of_mem _ (List.mem_cons_of_mem _ h)
theorem zS_if_eq {off : Int} {x : Int} (hd : zdec M pc = some (.ifCond .eq off)) (h0 : 0 ≤ (pc : Int) + off) (k : if x = 0 then zSnd D cA B b L xs M ((pc : Int) + off).toNat ls st h r h' else zSnd D cA B b L xs M (pc + 3) ls st h r h') : zSnd D cA B b L xs M pc ls (.inl x :: st) h r h' := by
  refine zSnd.br k ?_ zsub1
  intro p l e R s m args below meth c H locs cells slots Q φ lsR hC hst k1 k2
  obtain ⟨hx, hb, -⟩ := hC
  have gx : -2147483648 ≤ x ∧ x < 2147483648 := (zst1 hst).1
  have g0 : -2147483648 ≤ (0 : Int) ∧ (0 : Int) < 2147483648 := by omega
  refine lv_if_eq hx hb (zdec_eq hd rfl (by decide)) (Int.toNat_of_nonneg h0).symm (fun q => k1 ?_) (fun q => k2 ?_)
  · (try simp only [z0I, zeqI gx g0, zltI gx g0, zltI g0 gx, zleI gx g0, zleI g0 gx, ne_eq, Int32.not_lt, Int32.not_le, Int.not_lt, Int.not_le] at q ⊢); exact q
  · (try simp only [z0I, zeqI gx g0, zltI gx g0, zltI g0 gx, zleI gx g0, zleI g0 gx, ne_eq, Int32.not_lt, Int32.not_le, Int.not_lt, Int.not_le, Classical.not_not] at q ⊢); exact q
theorem zS_if_ne {off : Int} {x : Int} (hd : zdec M pc = some (.ifCond .ne off)) (h0 : 0 ≤ (pc : Int) + off) (k : if x ≠ 0 then zSnd D cA B b L xs M ((pc : Int) + off).toNat ls st h r h' else zSnd D cA B b L xs M (pc + 3) ls st h r h') : zSnd D cA B b L xs M pc ls (.inl x :: st) h r h' := by
  refine zSnd.br k ?_ zsub1
  intro p l e R s m args below meth c H locs cells slots Q φ lsR hC hst k1 k2
  obtain ⟨hx, hb, -⟩ := hC
  have gx : -2147483648 ≤ x ∧ x < 2147483648 := (zst1 hst).1
  have g0 : -2147483648 ≤ (0 : Int) ∧ (0 : Int) < 2147483648 := by omega
  refine lv_if_ne hx hb (zdec_eq hd rfl (by decide)) (Int.toNat_of_nonneg h0).symm (fun q => k1 ?_) (fun q => k2 ?_)
  · (try simp only [z0I, zeqI gx g0, zltI gx g0, zltI g0 gx, zleI gx g0, zleI g0 gx, ne_eq, Int32.not_lt, Int32.not_le, Int.not_lt, Int.not_le] at q ⊢); exact q
  · (try simp only [z0I, zeqI gx g0, zltI gx g0, zltI g0 gx, zleI gx g0, zleI g0 gx, ne_eq, Int32.not_lt, Int32.not_le, Int.not_lt, Int.not_le, Classical.not_not] at q ⊢); exact q
theorem zS_if_lt {off : Int} {x : Int} (hd : zdec M pc = some (.ifCond .lt off)) (h0 : 0 ≤ (pc : Int) + off) (k : if x < 0 then zSnd D cA B b L xs M ((pc : Int) + off).toNat ls st h r h' else zSnd D cA B b L xs M (pc + 3) ls st h r h') : zSnd D cA B b L xs M pc ls (.inl x :: st) h r h' := by
  refine zSnd.br k ?_ zsub1
  intro p l e R s m args below meth c H locs cells slots Q φ lsR hC hst k1 k2
  obtain ⟨hx, hb, -⟩ := hC
  have gx : -2147483648 ≤ x ∧ x < 2147483648 := (zst1 hst).1
  have g0 : -2147483648 ≤ (0 : Int) ∧ (0 : Int) < 2147483648 := by omega
  refine lv_if_lt hx hb (zdec_eq hd rfl (by decide)) (Int.toNat_of_nonneg h0).symm (fun q => k1 ?_) (fun q => k2 ?_)
  · (try simp only [z0I, zeqI gx g0, zltI gx g0, zltI g0 gx, zleI gx g0, zleI g0 gx, ne_eq, Int32.not_lt, Int32.not_le, Int.not_lt, Int.not_le] at q ⊢); exact q
  · (try simp only [z0I, zeqI gx g0, zltI gx g0, zltI g0 gx, zleI gx g0, zleI g0 gx, ne_eq, Int32.not_lt, Int32.not_le, Int.not_lt, Int.not_le, Classical.not_not] at q ⊢); exact q
theorem zS_if_ge {off : Int} {x : Int} (hd : zdec M pc = some (.ifCond .ge off)) (h0 : 0 ≤ (pc : Int) + off) (k : if 0 ≤ x then zSnd D cA B b L xs M ((pc : Int) + off).toNat ls st h r h' else zSnd D cA B b L xs M (pc + 3) ls st h r h') : zSnd D cA B b L xs M pc ls (.inl x :: st) h r h' := by
  refine zSnd.br k ?_ zsub1
  intro p l e R s m args below meth c H locs cells slots Q φ lsR hC hst k1 k2
  obtain ⟨hx, hb, -⟩ := hC
  have gx : -2147483648 ≤ x ∧ x < 2147483648 := (zst1 hst).1
  have g0 : -2147483648 ≤ (0 : Int) ∧ (0 : Int) < 2147483648 := by omega
  refine lv_if_ge hx hb (zdec_eq hd rfl (by decide)) (Int.toNat_of_nonneg h0).symm (fun q => k1 ?_) (fun q => k2 ?_)
  · (try simp only [z0I, zeqI gx g0, zltI gx g0, zltI g0 gx, zleI gx g0, zleI g0 gx, ne_eq, Int32.not_lt, Int32.not_le, Int.not_lt, Int.not_le] at q ⊢); exact q
  · (try simp only [z0I, zeqI gx g0, zltI gx g0, zltI g0 gx, zleI gx g0, zleI g0 gx, ne_eq, Int32.not_lt, Int32.not_le, Int.not_lt, Int.not_le, Classical.not_not] at q ⊢); exact q
theorem zS_if_gt {off : Int} {x : Int} (hd : zdec M pc = some (.ifCond .gt off)) (h0 : 0 ≤ (pc : Int) + off) (k : if 0 < x then zSnd D cA B b L xs M ((pc : Int) + off).toNat ls st h r h' else zSnd D cA B b L xs M (pc + 3) ls st h r h') : zSnd D cA B b L xs M pc ls (.inl x :: st) h r h' := by
  refine zSnd.br k ?_ zsub1
  intro p l e R s m args below meth c H locs cells slots Q φ lsR hC hst k1 k2
  obtain ⟨hx, hb, -⟩ := hC
  have gx : -2147483648 ≤ x ∧ x < 2147483648 := (zst1 hst).1
  have g0 : -2147483648 ≤ (0 : Int) ∧ (0 : Int) < 2147483648 := by omega
  refine lv_if_gt hx hb (zdec_eq hd rfl (by decide)) (Int.toNat_of_nonneg h0).symm (fun q => k1 ?_) (fun q => k2 ?_)
  · (try simp only [z0I, zeqI gx g0, zltI gx g0, zltI g0 gx, zleI gx g0, zleI g0 gx, ne_eq, Int32.not_lt, Int32.not_le, Int.not_lt, Int.not_le] at q ⊢); exact q
  · (try simp only [z0I, zeqI gx g0, zltI gx g0, zltI g0 gx, zleI gx g0, zleI g0 gx, ne_eq, Int32.not_lt, Int32.not_le, Int.not_lt, Int.not_le, Classical.not_not] at q ⊢); exact q
theorem zS_if_le {off : Int} {x : Int} (hd : zdec M pc = some (.ifCond .le off)) (h0 : 0 ≤ (pc : Int) + off) (k : if x ≤ 0 then zSnd D cA B b L xs M ((pc : Int) + off).toNat ls st h r h' else zSnd D cA B b L xs M (pc + 3) ls st h r h') : zSnd D cA B b L xs M pc ls (.inl x :: st) h r h' := by
  refine zSnd.br k ?_ zsub1
  intro p l e R s m args below meth c H locs cells slots Q φ lsR hC hst k1 k2
  obtain ⟨hx, hb, -⟩ := hC
  have gx : -2147483648 ≤ x ∧ x < 2147483648 := (zst1 hst).1
  have g0 : -2147483648 ≤ (0 : Int) ∧ (0 : Int) < 2147483648 := by omega
  refine lv_if_le hx hb (zdec_eq hd rfl (by decide)) (Int.toNat_of_nonneg h0).symm (fun q => k1 ?_) (fun q => k2 ?_)
  · (try simp only [z0I, zeqI gx g0, zltI gx g0, zltI g0 gx, zleI gx g0, zleI g0 gx, ne_eq, Int32.not_lt, Int32.not_le, Int.not_lt, Int.not_le] at q ⊢); exact q
  · (try simp only [z0I, zeqI gx g0, zltI gx g0, zltI g0 gx, zleI gx g0, zleI g0 gx, ne_eq, Int32.not_lt, Int32.not_le, Int.not_lt, Int.not_le, Classical.not_not] at q ⊢); exact q
theorem zS_icmp_eq {off : Int} {x y : Int} (hd : zdec M pc = some (.if_icmp .eq off)) (h0 : 0 ≤ (pc : Int) + off) (k : if x = y then zSnd D cA B b L xs M ((pc : Int) + off).toNat ls st h r h' else zSnd D cA B b L xs M (pc + 3) ls st h r h') : zSnd D cA B b L xs M pc ls (.inl y :: .inl x :: st) h r h' := by
  refine zSnd.br k ?_ zsub2
  intro p l e R s m args below meth c H locs cells slots Q φ lsR hC hst k1 k2
  obtain ⟨hx, hb, -⟩ := hC
  obtain ⟨gx, gy, gs⟩ := zst2 hst
  refine lv_icmp_eq hx hb (zdec_eq hd rfl (by decide)) (Int.toNat_of_nonneg h0).symm (fun q => k1 ?_) (fun q => k2 ?_)
  · (try simp only [zeqI gx gy, zltI gx gy, zltI gy gx, zleI gx gy, zleI gy gx, ne_eq, Int32.not_lt, Int32.not_le, Int.not_lt, Int.not_le] at q ⊢); exact q
  · (try simp only [zeqI gx gy, zltI gx gy, zltI gy gx, zleI gx gy, zleI gy gx, ne_eq, Int32.not_lt, Int32.not_le, Int.not_lt, Int.not_le, Classical.not_not] at q ⊢); exact q
theorem zS_icmp_ne {off : Int} {x y : Int} (hd : zdec M pc = some (.if_icmp .ne off)) (h0 : 0 ≤ (pc : Int) + off) (k : if x ≠ y then zSnd D cA B b L xs M ((pc : Int) + off).toNat ls st h r h' else zSnd D cA B b L xs M (pc + 3) ls st h r h') : zSnd D cA B b L xs M pc ls (.inl y :: .inl x :: st) h r h' := by
  refine zSnd.br k ?_ zsub2
  intro p l e R s m args below meth c H locs cells slots Q φ lsR hC hst k1 k2
  obtain ⟨hx, hb, -⟩ := hC
  obtain ⟨gx, gy, gs⟩ := zst2 hst
  refine lv_icmp_ne hx hb (zdec_eq hd rfl (by decide)) (Int.toNat_of_nonneg h0).symm (fun q => k1 ?_) (fun q => k2 ?_)
  · (try simp only [zeqI gx gy, zltI gx gy, zltI gy gx, zleI gx gy, zleI gy gx, ne_eq, Int32.not_lt, Int32.not_le, Int.not_lt, Int.not_le] at q ⊢); exact q
  · (try simp only [zeqI gx gy, zltI gx gy, zltI gy gx, zleI gx gy, zleI gy gx, ne_eq, Int32.not_lt, Int32.not_le, Int.not_lt, Int.not_le, Classical.not_not] at q ⊢); exact q
theorem zS_icmp_lt {off : Int} {x y : Int} (hd : zdec M pc = some (.if_icmp .lt off)) (h0 : 0 ≤ (pc : Int) + off) (k : if x < y then zSnd D cA B b L xs M ((pc : Int) + off).toNat ls st h r h' else zSnd D cA B b L xs M (pc + 3) ls st h r h') : zSnd D cA B b L xs M pc ls (.inl y :: .inl x :: st) h r h' := by
  refine zSnd.br k ?_ zsub2
  intro p l e R s m args below meth c H locs cells slots Q φ lsR hC hst k1 k2
  obtain ⟨hx, hb, -⟩ := hC
  obtain ⟨gx, gy, gs⟩ := zst2 hst
  refine lv_icmp_lt hx hb (zdec_eq hd rfl (by decide)) (Int.toNat_of_nonneg h0).symm (fun q => k1 ?_) (fun q => k2 ?_)
  · (try simp only [zeqI gx gy, zltI gx gy, zltI gy gx, zleI gx gy, zleI gy gx, ne_eq, Int32.not_lt, Int32.not_le, Int.not_lt, Int.not_le] at q ⊢); exact q
  · (try simp only [zeqI gx gy, zltI gx gy, zltI gy gx, zleI gx gy, zleI gy gx, ne_eq, Int32.not_lt, Int32.not_le, Int.not_lt, Int.not_le, Classical.not_not] at q ⊢); exact q
theorem zS_icmp_ge {off : Int} {x y : Int} (hd : zdec M pc = some (.if_icmp .ge off)) (h0 : 0 ≤ (pc : Int) + off) (k : if y ≤ x then zSnd D cA B b L xs M ((pc : Int) + off).toNat ls st h r h' else zSnd D cA B b L xs M (pc + 3) ls st h r h') : zSnd D cA B b L xs M pc ls (.inl y :: .inl x :: st) h r h' := by
  refine zSnd.br k ?_ zsub2
  intro p l e R s m args below meth c H locs cells slots Q φ lsR hC hst k1 k2
  obtain ⟨hx, hb, -⟩ := hC
  obtain ⟨gx, gy, gs⟩ := zst2 hst
  refine lv_icmp_ge hx hb (zdec_eq hd rfl (by decide)) (Int.toNat_of_nonneg h0).symm (fun q => k1 ?_) (fun q => k2 ?_)
  · (try simp only [zeqI gx gy, zltI gx gy, zltI gy gx, zleI gx gy, zleI gy gx, ne_eq, Int32.not_lt, Int32.not_le, Int.not_lt, Int.not_le] at q ⊢); exact q
  · (try simp only [zeqI gx gy, zltI gx gy, zltI gy gx, zleI gx gy, zleI gy gx, ne_eq, Int32.not_lt, Int32.not_le, Int.not_lt, Int.not_le, Classical.not_not] at q ⊢); exact q
theorem zS_icmp_gt {off : Int} {x y : Int} (hd : zdec M pc = some (.if_icmp .gt off)) (h0 : 0 ≤ (pc : Int) + off) (k : if y < x then zSnd D cA B b L xs M ((pc : Int) + off).toNat ls st h r h' else zSnd D cA B b L xs M (pc + 3) ls st h r h') : zSnd D cA B b L xs M pc ls (.inl y :: .inl x :: st) h r h' := by
  refine zSnd.br k ?_ zsub2
  intro p l e R s m args below meth c H locs cells slots Q φ lsR hC hst k1 k2
  obtain ⟨hx, hb, -⟩ := hC
  obtain ⟨gx, gy, gs⟩ := zst2 hst
  refine lv_icmp_gt hx hb (zdec_eq hd rfl (by decide)) (Int.toNat_of_nonneg h0).symm (fun q => k1 ?_) (fun q => k2 ?_)
  · (try simp only [zeqI gx gy, zltI gx gy, zltI gy gx, zleI gx gy, zleI gy gx, ne_eq, Int32.not_lt, Int32.not_le, Int.not_lt, Int.not_le] at q ⊢); exact q
  · (try simp only [zeqI gx gy, zltI gx gy, zltI gy gx, zleI gx gy, zleI gy gx, ne_eq, Int32.not_lt, Int32.not_le, Int.not_lt, Int.not_le, Classical.not_not] at q ⊢); exact q
theorem zS_icmp_le {off : Int} {x y : Int} (hd : zdec M pc = some (.if_icmp .le off)) (h0 : 0 ≤ (pc : Int) + off) (k : if x ≤ y then zSnd D cA B b L xs M ((pc : Int) + off).toNat ls st h r h' else zSnd D cA B b L xs M (pc + 3) ls st h r h') : zSnd D cA B b L xs M pc ls (.inl y :: .inl x :: st) h r h' := by
  refine zSnd.br k ?_ zsub2
  intro p l e R s m args below meth c H locs cells slots Q φ lsR hC hst k1 k2
  obtain ⟨hx, hb, -⟩ := hC
  obtain ⟨gx, gy, gs⟩ := zst2 hst
  refine lv_icmp_le hx hb (zdec_eq hd rfl (by decide)) (Int.toNat_of_nonneg h0).symm (fun q => k1 ?_) (fun q => k2 ?_)
  · (try simp only [zeqI gx gy, zltI gx gy, zltI gy gx, zleI gx gy, zleI gy gx, ne_eq, Int32.not_lt, Int32.not_le, Int.not_lt, Int.not_le] at q ⊢); exact q
  · (try simp only [zeqI gx gy, zltI gx gy, zltI gy gx, zleI gx gy, zleI gy gx, ne_eq, Int32.not_lt, Int32.not_le, Int.not_lt, Int.not_le, Classical.not_not] at q ⊢); exact q
theorem zS_ifnull {off : Int} {x : Nat} (hd : zdec M pc = some (.ifnull off)) (h0 : 0 ≤ (pc : Int) + off) (k : if x = 0 then zSnd D cA B b L xs M ((pc : Int) + off).toNat ls st h r h' else zSnd D cA B b L xs M (pc + 3) ls st h r h') : zSnd D cA B b L xs M pc ls (.inr x :: st) h r h' := by
  refine zSnd.br k ?_ zsub1
  intro p l e R s m args below meth c H locs cells slots Q φ lsR hC hst k1 k2
  obtain ⟨hx, hb, -⟩ := hC
  by_cases hx0 : x = 0
  · subst hx0
    exact lv_ifnullN hx hb (zdec_eq hd rfl (by decide)) (Int.toNat_of_nonneg h0).symm (k1 rfl)
  · rw [List.map_cons, ztr_ref φ hx0]
    exact lv_ifnull hx hb (zdec_eq hd rfl (by decide)) (k2 hx0)
theorem zS_ifnonnull {off : Int} {x : Nat} (hd : zdec M pc = some (.ifnonnull off)) (h0 : 0 ≤ (pc : Int) + off) (k : if x ≠ 0 then zSnd D cA B b L xs M ((pc : Int) + off).toNat ls st h r h' else zSnd D cA B b L xs M (pc + 3) ls st h r h') : zSnd D cA B b L xs M pc ls (.inr x :: st) h r h' := by
  refine zSnd.br k ?_ zsub1
  intro p l e R s m args below meth c H locs cells slots Q φ lsR hC hst k1 k2
  obtain ⟨hx, hb, -⟩ := hC
  by_cases hx0 : x = 0
  · subst hx0
    exact lv_ifnonnullN hx hb (zdec_eq hd rfl (by decide)) (k2 (fun q => q rfl))
  · rw [List.map_cons, ztr_ref φ hx0]
    exact lv_ifnonnull hx hb (zdec_eq hd rfl (by decide)) (Int.toNat_of_nonneg h0).symm (k1 hx0)
theorem zS_tableOut {d lo hi : Int} {offs : Array Int} {x : Int} (hd : zdec M pc = some (.tableswitch d lo hi offs)) (ho : x < lo ∨ hi < x) (h0 : 0 ≤ (pc : Int) + d) (k : zSnd D cA B b L xs M ((pc : Int) + d).toNat ls st h r h') : zSnd D cA B b L xs M pc ls (.inl x :: st) h r h' := by
  refine zSnd.of k ?_
  intro p l e R s m args below meth c H locs cells slots Q φ lsR hC hR hS hl hst kk
  obtain ⟨hx, hb, -⟩ := hC
  have gx : -2147483648 ≤ x ∧ x < 2147483648 := (zst1 hst).1
  obtain ⟨n, hn⟩ := zdec_any hd
  exact lv_tableOut hx hb hn (by rw [ztoI gx]; exact ho) (Int.toNat_of_nonneg h0).symm (kk lsR hl (zst1 hst).2)
theorem zS_tableIn {d lo hi : Int} {offs : Array Int} {x off : Int} (hd : zdec M pc = some (.tableswitch d lo hi offs)) (ho : ¬ (x < lo ∨ hi < x)) (hof : offs[(x - lo).toNat]? = some off) (h0 : 0 ≤ (pc : Int) + off) (k : zSnd D cA B b L xs M ((pc : Int) + off).toNat ls st h r h') : zSnd D cA B b L xs M pc ls (.inl x :: st) h r h' := by
  refine zSnd.of k ?_
  intro p l e R s m args below meth c H locs cells slots Q φ lsR hC hR hS hl hst kk
  obtain ⟨hx, hb, -⟩ := hC
  have gx : -2147483648 ≤ x ∧ x < 2147483648 := (zst1 hst).1
  obtain ⟨n, hn⟩ := zdec_any hd
  exact lv_tableIn hx hb hn (by rw [ztoI gx]; exact fun q => ho (Or.inl q)) (by rw [ztoI gx]; exact fun q => ho (Or.inr q)) (by rw [ztoI gx]; exact hof) (Int.toNat_of_nonneg h0).symm (kk lsR hl (zst1 hst).2)
end zOps
end
section
/-! A LAW AN INSTRUCTION: the heap -/
section zHeap
variable {D : va_G} {cA : Nat → ClassId} {B b L : Nat} {xs : Nat → Int32} {M pc : Nat} {ls : zL} {st : List zV} {h : zH} {r : Option zV} {h' : zH}
/-- a step of any kind -/
theorem zSnd.gen {pc2 : Nat} {ls2 : zL} {st2 : List zV} {h2 : zH} (k : zSnd D cA B b L xs M pc2 ls2 st2 h2 r h') (m1 : zn h ≤ zn h2) (m2 : zn h2 ≤ zn h') (m3 : zs h ≤ zs h2) (m4 : zs h2 ≤ zs h')
    (g : ∀ (p : Program) (l : Launch) (e : Env) (R : Room) (s : State) (m : MethodId) (args : Array Value) (below : List Frame) (meth : Method) (c : Code) (H : Heap) (locs : List Loc) (cells slots : Nat) (Q : State → Prop) (φ : Nat → Nat) (lsR : Array Slot),
      zC D cA B b L xs p R s m args meth c M → zRel D cA B b L xs φ h H → va_S (fun q => B ≤ q) s.heap H locs → zlr φ (zn h) (zml M) lsR ls → (∀ v ∈ st, zok (zn h) v) →
      cells + (zn h2 - zn h) ≤ R.cells → slots + (zs h2 - zs h) ≤ R.slots →
      (∀ (φ' : Nat → Nat) (H' : Heap) (locs' : List Loc) (lsR2 : Array Slot), zext φ φ' (zn h) → zRel D cA B b L xs φ' h2 H' → va_S (fun q => B ≤ q) s.heap H' locs' → zlr φ' (zn h2) (zml M) lsR2 ls2 → (∀ v ∈ st2, zok (zn h2) v) → W p l e R s m args below meth c H' locs' (cells + (zn h2 - zn h)) (slots + (zs h2 - zs h)) Q (F0 m pc2 lsR2 (st2.map (ztr φ')))) →
      W p l e R s m args below meth c H locs cells slots Q (F0 m pc lsR (st.map (ztr φ)))) : zSnd D cA B b L xs M pc ls st h r h' := by
  intro p l e R s m args below meth c H locs cells slots Q φ lsR hC hR hS hl hst hc hs HR
  refine g p l e R s m args below meth c H locs cells slots Q φ lsR hC hR hS hl hst (by omega) (by omega) (fun φ' H' locs' lsR2 he hR2 hS2 hl2 hst2 => ?_)
  refine k p l e R s m args below meth c H' locs' _ _ Q φ' lsR2 hC hR2 hS2 hl2 hst2 (by omega) (by omega) (fun φ'' H'' locs'' lsR'' pc'' he2 hR3 hS3 hE => ?_)
  rw [show cells + (zn h2 - zn h) + (zn h' - zn h2) = cells + (zn h' - zn h) by omega, show slots + (zs h2 - zs h) + (zs h' - zs h2) = slots + (zs h' - zs h) by omega]
  exact HR φ'' H'' locs'' lsR'' pc'' (fun a ha => (he2 a (by omega)).trans (he a ha)) hR3 hS3 hE
theorem zws_get {φ : Nat → Nat} {h : zH} {a : Nat} (h1 : 2 ≤ a) (h2 : a < zn h) : (zws cA φ h)[a - 2]? = some (φ a, zce cA φ h a) := by
  have h3 : a - 2 < zn h - 2 := by omega
  have h4 : a - 2 + 2 = a := by omega
  simp only [zws, List.getElem?_map, List.getElem?_range h3, Option.map_some, h4]
theorem zwf.own {h : zH} (hw : zwf h) {L : Nat} (h1 : zK h 1 = (5, L)) {a : Nat} (hk : ((zK h a).1 ≠ 0 ∧ (zK h a).1 ≠ 5)) : 2 ≤ a ∧ a < zn h := by
  obtain ⟨w1, w2, w3, w4, -⟩ := hw
  refine ⟨?_, ?_⟩
  · rcases Nat.lt_or_ge a 2 with q | q
    · have : a = 0 ∨ a = 1 := by omega
      rcases this with rfl | rfl
      · exact absurd w4 hk.1
      · exact absurd (by rw [h1]) hk.2
    · exact q
  · rcases Nat.lt_or_ge a (zn h) with q | q
    · exact q
    · exact absurd (w3 a q) hk.1
theorem zce_obj {φ : Nat → Nat} {h : zH} {a c : Nat} (hk : (zK h a).1 = 10 + c) : zce cA φ h a = .inr (c, (List.range (zcw c).2.2).map (zfv φ h c a)) := by
  unfold zce
  rw [if_neg (by omega), if_neg (by omega), hk, show 10 + c - 10 = c by omega]
theorem zce_int {φ : Nat → Nat} {h : zH} {a : Nat} (hk : (zK h a).1 = 1) : zce cA φ h a = .inl (cA 1, (zK h a).2, .inl (fun j => Int32.ofInt (zA h a j))) := by
  unfold zce
  rw [if_pos hk]
theorem zce_arr {φ : Nat → Nat} {h : zH} {a : Nat} (hk : 2 ≤ (zK h a).1 ∧ (zK h a).1 ≤ 4) : zce cA φ h a = .inl (cA (zK h a).1, (zK h a).2, .inr (.inr (.inr (.inr (fun j => zrf φ (zB h a j)))))) := by
  unfold zce
  rw [if_neg (by omega), if_pos (by omega)]
theorem zcf_ok : ∀ e ∈ zcf, e.2.2.1 < 11 ∧ e.2.2.2 < (zcw e.2.2.1).2.2 := by decide +kernel
theorem zcl_at {c : Nat} (hc : c < 11) : vwCl[c]? = some (zcw c) := by
  have : vwCl.length = 11 := rfl
  unfold zcw
  rw [List.getD_eq_getElem?_getD]
  rw [List.getElem?_eq_getElem (by omega)]
  rfl
theorem zcl_in {c : Nat} (hc : c < 11) : ∀ w ∈ u_ws (zcw c).1 (zcw c).2.1 (zcw c).2.2, w ∈ zW := fun w hw =>
  zW_3 (List.mem_flatMap.mpr ⟨zcw c, List.mem_of_getElem? (zcl_at hc), List.mem_cons_of_mem _ hw⟩)
theorem zfv_tr (φ : Nat → Nat) (h : zH) (c a k : Nat) : zfv φ h c a k = ztr φ (if zir c k = true then .inr (zR h (64 * c + k) a) else .inl (zI h (64 * c + k) a)) := by
  unfold zfv
  by_cases hz : zir c k = true
  · rw [if_pos hz, if_pos hz]; rfl
  · rw [if_neg hz, if_neg hz]; rfl
theorem zS_getfield {ix c k0 a : Nat} (hd : zdec M pc = some (.getfield ix)) (hq : zlk2 zcf (zown M) ix = some (c, k0)) (hk : (zK h a).1 = 10 + c)
    (k : zSnd D cA B b L xs M (pc + 3) ls ((if zir c k0 = true then .inr (zR h (64 * c + k0) a) else .inl (zI h (64 * c + k0) a)) :: st) h r h') : zSnd D cA B b L xs M pc ls (.inr a :: st) h r h' := by
  refine zSnd.of k ?_
  intro p l e R s m args below meth cc H locs cells slots Q φ lsR hC hR hS hl hst kk
  obtain ⟨hx, hb, -, -, -, hown, -, hts, hK, -⟩ := hC
  obtain ⟨hP, hD, hw, h1, hK1, -⟩ := hR
  obtain ⟨a2, an⟩ := hw.own hK1 (a := a) (by omega)
  have hmem := zlk2_mem hq
  obtain ⟨hc, hkN⟩ : c < 11 ∧ k0 < (zcw c).2.2 := zcf_ok _ hmem
  have hlink : Cond.fieldLink (zon (zown M)) ix ((zcw c).2.1 k0).1 ((zcw c).2.1 k0).2.1 ((zcw c).2.1 k0).2.2.1 ∈ zW := zW_5 (List.mem_map.mpr ⟨_, hmem, rfl⟩)
  have he : (zws cA φ h)[a - 2]? = some (φ a, .inr (c, (List.range (zcw c).2.2).map (zfv φ h c a))) := by rw [zws_get a2 an, zce_obj hk]
  have hv : ((List.range (zcw c).2.2).map (zfv φ h c a))[k0]? = some (zfv φ h c a k0) := by rw [List.getElem?_map, List.getElem?_range hkN]; rfl
  rw [List.map_cons, ztr_ref φ (by omega)]
  refine va_get hx hb hts (zcl_in hc) hown hK.1 hP (a - 2) he (zcl_at hc) k0 hkN (hts _ hlink) (fun _ h9 => h9) hv (zdec_eq hd rfl (by decide)) ?_
  rw [zfv_tr]
  refine kk lsR hl (zc1 ?_ (zst1 hst).2)
  by_cases hz : zir c k0 = true
  · rw [if_pos hz]; exact hw.2.2.2.2.2.2.1 _ _
  · rw [if_neg hz]; exact hw.2.2.2.2.2.1 _ _
theorem zws_set {φ : Nat → Nat} {h h2 : zH} {a : Nat} (hn : zn h2 = zn h) (h1 : 2 ≤ a) (ha : a < zn h) (ho : ∀ x, x ≠ a → zce cA φ h2 x = zce cA φ h x) : zws cA φ h2 = (zws cA φ h).set (a - 2) (φ a, zce cA φ h2 a) := by
  apply List.ext_getElem?
  intro i
  by_cases hi : i = a - 2
  · subst hi
    rw [zws_get h1 (by omega), List.getElem?_set_self (by simp [zws]; omega)]
  · rw [List.getElem?_set_ne (Ne.symm hi)]
    simp only [zws, List.getElem?_map, hn]
    by_cases hl : i < zn h - 2
    · rw [List.getElem?_range hl]
      simp only [Option.map_some]
      rw [ho (i + 2) (by omega)]
    · rw [List.getElem?_eq_none (by simp; omega)]
      rfl
theorem zty_ok : ∀ c, c < 11 → (∀ k, k < (zcw c).2.2 → parseFieldDescriptor ((zcw c).2.1 k).2.2.1 = some (zty c k)) := by decide +kernel
theorem znm_ok : ∀ c, c < 11 → (∀ a, a < (zcw c).2.2 → ∀ b, b < (zcw c).2.2 → a ≠ b → ((zcw c).2.1 a).2.1 ≠ ((zcw c).2.1 b).2.1) := by decide +kernel
theorem zty_kind : ∀ c, c < 11 → ∀ k, k < (zcw c).2.2 → (zty c k = .int ∨ zty c k = .boolean) ∨ (zir c k = true ∧ ((zty c k = .array .int ∨ zty c k = .array (.object RX8) ∨ zty c k = .array (.object RX4) ∨ zty c k = .array (.object RX2)) ∨ zty c k = .object (zcw 0).1 ∨ zty c k = .object (zcw 1).1 ∨ zty c k = .object (zcw 2).1 ∨ zty c k = .object (zcw 3).1 ∨ zty c k = .object (zcw 4).1 ∨ zty c k = .object (zcw 5).1 ∨ zty c k = .object (zcw 6).1 ∨ zty c k = .object (zcw 7).1 ∨ zty c k = .object (zcw 8).1)) := by decide +kernel
theorem zdecl_ok : ∀ c, c < 11 → ∀ k, k < (zcw c).2.2 → ((zcw c).2.1 k).1 = zon c := by decide +kernel
theorem znarI {c k : Nat} (hc : c < 11) (hk : k < (zcw c).2.2) (hz : ¬ zir c k = true) {x : Int} (hx : zbk c k = true → x = 0 ∨ x = 1) : narrow (zty c k) (.int (Int32.ofInt x)) = .int (Int32.ofInt x) ∧ fits (zty c k) (.int (Int32.ofInt x)) = true := by
  rcases zty_kind c hc k hk with (h1 | h1) | ⟨h1, -⟩
  · rw [h1]; exact ⟨rfl, rfl⟩
  · have hb : zbk c k = true := by unfold zbk; rw [h1]
    rw [h1]
    rcases hx hb with rfl | rfl
    · exact ⟨by decide +kernel, by decide +kernel⟩
    · exact ⟨by decide +kernel, by decide +kernel⟩
  · exact absurd h1 hz
theorem znarR {c k : Nat} (hc : c < 11) (hk : k < (zcw c).2.2) (hz : zir c k = true) (φ : Nat → Nat) (v : Nat) : narrow (zty c k) (ztr φ (.inr v)) = ztr φ (.inr v) ∧ fits (zty c k) (ztr φ (.inr v)) = true := by
  have key : ∀ ty : FieldType, (∃ t, ty = .array t) ∨ (∃ n, ty = .object n) → narrow ty (ztr φ (.inr v)) = ztr φ (.inr v) ∧ fits ty (ztr φ (.inr v)) = true := by
    intro ty ht
    by_cases h0 : v = 0
    · subst h0
      rcases ht with ⟨t, rfl⟩ | ⟨n, rfl⟩ <;> exact ⟨rfl, rfl⟩
    · rw [ztr_ref φ h0]
      rcases ht with ⟨t, rfl⟩ | ⟨n, rfl⟩ <;> exact ⟨rfl, rfl⟩
  rcases zty_kind c hc k hk with (h1 | h1) | ⟨-, (h1 | h1 | h1 | h1) | h1 | h1 | h1 | h1 | h1 | h1 | h1 | h1 | h1⟩
  · unfold zir at hz; rw [h1] at hz; cases hz
  · unfold zir at hz; rw [h1] at hz; cases hz
  all_goals first | exact key _ (Or.inl ⟨_, h1⟩) | exact key _ (Or.inr ⟨_, h1⟩)
theorem zce_sI {φ : Nat → Nat} {h : zH} {f a x : Nat} {v : Int} (hx : x ≠ a) : zce cA φ (zsI h f a v) x = zce cA φ h x := by
  have h1 : ∀ c k, zfv φ (zsI h f a v) c x k = zfv φ h c x k := by
    intro c k
    have e7 : (x = a) = False := eq_false hx
    simp only [zfv, zsI, zI, zR, zu, e7, and_false, if_false]
  simp only [zce, show ∀ c, zfv φ (zsI h f a v) c x = zfv φ h c x from fun c => funext (h1 c)]
  rfl
theorem zce_sR {φ : Nat → Nat} {h : zH} {f a x : Nat} {v : Nat} (hx : x ≠ a) : zce cA φ (zsR h f a v) x = zce cA φ h x := by
  have h1 : ∀ c k, zfv φ (zsR h f a v) c x k = zfv φ h c x k := by
    intro c k
    have e7 : (x = a) = False := eq_false hx
    simp only [zfv, zsR, zI, zR, zu, e7, and_false, if_false]
  simp only [zce, show ∀ c, zfv φ (zsR h f a v) c x = zfv φ h c x from fun c => funext (h1 c)]
  rfl
theorem zmap_set {α : Type} {f g : Nat → α} {N k : Nat} (hk : k < N) (ho : ∀ j, j ≠ k → g j = f j) : (List.range N).map g = ((List.range N).map f).set k (g k) := by
  apply List.ext_getElem?
  intro i
  by_cases hi : i = k
  · subst hi
    rw [List.getElem?_set_self (by simp; exact hk), List.getElem?_map, List.getElem?_range hk]
    rfl
  · rw [List.getElem?_set_ne (Ne.symm hi), List.getElem?_map, List.getElem?_map]
    by_cases hl : i < N
    · rw [List.getElem?_range hl]
      simp only [Option.map_some]
      rw [ho i hi]
    · rw [List.getElem?_eq_none (by simp; omega)]
      rfl
theorem zS_putI {ix c k0 a : Nat} {x : Int} (hd : zdec M pc = some (.putfield ix)) (hq : zlk2 zcf (zown M) ix = some (c, k0)) (hf : zfok M c k0 = true) (hz : ¬ zir c k0 = true) (hk : (zK h a).1 = 10 + c) (hx01 : zbk c k0 = true → x = 0 ∨ x = 1) (m2 : zn h ≤ zn h') (m4 : zs h ≤ zs h')
    (k : zSnd D cA B b L xs M (pc + 3) ls st (zsI h (64 * c + k0) a x) r h') : zSnd D cA B b L xs M pc ls (.inl x :: .inr a :: st) h r h' := by
  refine zSnd.gen k (Nat.le_refl _) m2 (Nat.le_refl _) m4 ?_
  intro p l e R s m args below meth cc H locs cells slots Q φ lsR hC hR hS hl hst hcs hss kk
  obtain ⟨hx, hb, -, -, -, hown, hnm, hts, hK, -⟩ := hC
  obtain ⟨hP, hD, hw, h1, hK1, hsc⟩ := hR
  obtain ⟨a2, an⟩ := hw.own hK1 (a := a) (by omega)
  have hmem := zlk2_mem hq
  obtain ⟨hc, hkN⟩ : c < 11 ∧ k0 < (zcw c).2.2 := zcf_ok _ hmem
  have hlink : Cond.fieldLink (zon (zown M)) ix ((zcw c).2.1 k0).1 ((zcw c).2.1 k0).2.1 ((zcw c).2.1 k0).2.2.1 ∈ zW := zW_5 (List.mem_map.mpr ⟨_, hmem, rfl⟩)
  have he : (zws cA φ h)[a - 2]? = some (φ a, .inr (c, (List.range (zcw c).2.2).map (zfv φ h c a))) := by rw [zws_get a2 an, zce_obj hk]
  obtain ⟨hnar, hfit⟩ := znarI hc hkN hz hx01
  have hx0 : -2147483648 ≤ x ∧ x < 2147483648 := (zst1 hst).1
  have hst' := (zst1 (zst1 hst).2).2
  have hfs : (List.range (zcw c).2.2).map (zfv φ (zsI h (64 * c + k0) a x) c a) = ((List.range (zcw c).2.2).map (zfv φ h c a)).set k0 (.int (Int32.ofInt x)) := by
    have h7 : zfv φ (zsI h (64 * c + k0) a x) c a k0 = .int (Int32.ofInt x) := by
      simp only [zfv, hz, zsI, zI, zu]
      simp
    rw [← h7]
    refine zmap_set hkN (fun j hj => ?_)
    have e7 : (64 * c + j = 64 * c + k0) = False := eq_false (by omega)
    simp only [zfv, zsI, zI, zR, zu, e7, false_and, if_false]
  have hset : zws cA φ (zsI h (64 * c + k0) a x) = (zws cA φ h).set (a - 2) (φ a, .inr (c, ((List.range (zcw c).2.2).map (zfv φ h c a)).set k0 (.int (Int32.ofInt x)))) := by
    rw [zws_set (h := h) (h2 := zsI h (64 * c + k0) a x) rfl a2 an (fun y hy => zce_sI hy), zce_obj (h := zsI h (64 * c + k0) a x) hk, hfs]
  have hw2 : zwf (zsI h (64 * c + k0) a x) := by
    obtain ⟨w1, w2, w3, w4, w5, w6, w7⟩ := hw
    refine ⟨w1, w2, w3, w4, w5, fun f y => ?_, w7⟩
    show -2147483648 ≤ (if f = 64 * c + k0 ∧ y = a then x else zI h f y) ∧ (if f = 64 * c + k0 ∧ y = a then x else zI h f y) < 2147483648
    by_cases hfy : f = 64 * c + k0 ∧ y = a
    · rw [if_pos hfy]; exact hx0
    · rw [if_neg hfy]; exact w6 f y
  have hgo : ∀ (H1 : Heap) (locs1 : List Loc), va_P D vwCl ((zws cA φ h).set (a - 2) (φ a, .inr (c, ((List.range (zcw c).2.2).map (zfv φ h c a)).set k0 (.int (Int32.ofInt x))))) H1 → va_D (fun q => B ≤ q) ((zws cA φ h).set (a - 2) (φ a, .inr (c, ((List.range (zcw c).2.2).map (zfv φ h c a)).set k0 (.int (Int32.ofInt x))))) → va_S (fun q => B ≤ q) s.heap H1 locs1 →
      W p l e R s m args below meth cc H1 locs1 cells slots Q (F0 m (pc + 3) lsR (st.map (ztr φ))) := by
    intro H1 locs1 hP1 hD1 hS1
    rw [← hset] at hP1 hD1
    have hkk := kk φ H1 locs1 lsR zext.rf ⟨hP1, hD1, hw2, h1, hK1, hsc⟩ hS1 hl hst'
    rw [show cells + (zn (zsI h (64 * c + k0) a x) - zn h) = cells from by show cells + (zn h - zn h) = cells; omega, show slots + (zs (zsI h (64 * c + k0) a x) - zs h) = slots from by show slots + (zs h - zs h) = slots; omega] at hkk
    exact hkk
  rw [List.map_cons, List.map_cons, ztr_ref φ (show a ≠ 0 by omega)]
  by_cases hfin : ((zcw c).2.1 k0).2.2.2 = true
  · have hown2 : (zy M).name = "<init>" ∧ zown M = c := by
      unfold zfok at hf
      rw [hfin] at hf
      simpa using hf
    refine va_putF hx hb hts (zcl_in hc) (zty c) (zty_ok c hc) (znm_ok c hc) hown hK.1 hP hD hS (a - 2) he (zcl_at hc) k0 hkN (hts _ hlink) (fun _ h9 => h9) hfin ((hnm (fun h0 => by subst h0; exact absurd hown2.1 (by decide +kernel))).trans hown2.1) ?_ (zty_ok c hc k0 hkN) hnar hfit (by simp; exact hkN) (zdec_eq hd rfl (by decide)) hgo
    rw [hown2.2]
    exact zdecl_ok c hc k0 hkN
  · exact va_put hx hb hts (zcl_in hc) (zty c) (zty_ok c hc) (znm_ok c hc) hown hK.1 hP hD hS (a - 2) he (zcl_at hc) k0 hkN (hts _ hlink) (fun _ h9 => h9) (by simpa using hfin) (zty_ok c hc k0 hkN) hnar hfit (by simp; exact hkN) (zdec_eq hd rfl (by decide)) hgo
theorem zS_putR {ix c k0 a v : Nat} (hd : zdec M pc = some (.putfield ix)) (hq : zlk2 zcf (zown M) ix = some (c, k0)) (hf : zfok M c k0 = true) (hz : zir c k0 = true) (hk : (zK h a).1 = 10 + c) (m2 : zn h ≤ zn h') (m4 : zs h ≤ zs h')
    (k : zSnd D cA B b L xs M (pc + 3) ls st (zsR h (64 * c + k0) a v) r h') : zSnd D cA B b L xs M pc ls (.inr v :: .inr a :: st) h r h' := by
  refine zSnd.gen k (Nat.le_refl _) m2 (Nat.le_refl _) m4 ?_
  intro p l e R s m args below meth cc H locs cells slots Q φ lsR hC hR hS hl hst hcs hss kk
  obtain ⟨hx, hb, -, -, -, hown, hnm, hts, hK, -⟩ := hC
  obtain ⟨hP, hD, hw, h1, hK1, hsc⟩ := hR
  obtain ⟨a2, an⟩ := hw.own hK1 (a := a) (by omega)
  have hmem := zlk2_mem hq
  obtain ⟨hc, hkN⟩ : c < 11 ∧ k0 < (zcw c).2.2 := zcf_ok _ hmem
  have hlink : Cond.fieldLink (zon (zown M)) ix ((zcw c).2.1 k0).1 ((zcw c).2.1 k0).2.1 ((zcw c).2.1 k0).2.2.1 ∈ zW := zW_5 (List.mem_map.mpr ⟨_, hmem, rfl⟩)
  have he : (zws cA φ h)[a - 2]? = some (φ a, .inr (c, (List.range (zcw c).2.2).map (zfv φ h c a))) := by rw [zws_get a2 an, zce_obj hk]
  obtain ⟨hnar, hfit⟩ := znarR hc hkN hz φ v
  have hx0 : v < zn h := (zst1 hst).1
  have hst' := (zst1 (zst1 hst).2).2
  have hfs : (List.range (zcw c).2.2).map (zfv φ (zsR h (64 * c + k0) a v) c a) = ((List.range (zcw c).2.2).map (zfv φ h c a)).set k0 (ztr φ (.inr v)) := by
    have h7 : zfv φ (zsR h (64 * c + k0) a v) c a k0 = ztr φ (.inr v) := by
      simp only [zfv, hz, zsR, zR, zu]
      simp [ztr]
    rw [← h7]
    refine zmap_set hkN (fun j hj => ?_)
    have e7 : (64 * c + j = 64 * c + k0) = False := eq_false (by omega)
    simp only [zfv, zsR, zI, zR, zu, e7, false_and, if_false]
  have hset : zws cA φ (zsR h (64 * c + k0) a v) = (zws cA φ h).set (a - 2) (φ a, .inr (c, ((List.range (zcw c).2.2).map (zfv φ h c a)).set k0 (ztr φ (.inr v)))) := by
    rw [zws_set (h := h) (h2 := zsR h (64 * c + k0) a v) rfl a2 an (fun y hy => zce_sR hy), zce_obj (h := zsR h (64 * c + k0) a v) hk, hfs]
  have hw2 : zwf (zsR h (64 * c + k0) a v) := by
    obtain ⟨w1, w2, w3, w4, w5, w6, w7, w8⟩ := hw
    refine ⟨w1, w2, w3, w4, w5, w6, fun f y => ?_, w8⟩
    show (if f = 64 * c + k0 ∧ y = a then v else zR h f y) < zn h
    by_cases hfy : f = 64 * c + k0 ∧ y = a
    · rw [if_pos hfy]; exact hx0
    · rw [if_neg hfy]; exact w7 f y
  have hgo : ∀ (H1 : Heap) (locs1 : List Loc), va_P D vwCl ((zws cA φ h).set (a - 2) (φ a, .inr (c, ((List.range (zcw c).2.2).map (zfv φ h c a)).set k0 (ztr φ (.inr v))))) H1 → va_D (fun q => B ≤ q) ((zws cA φ h).set (a - 2) (φ a, .inr (c, ((List.range (zcw c).2.2).map (zfv φ h c a)).set k0 (ztr φ (.inr v))))) → va_S (fun q => B ≤ q) s.heap H1 locs1 →
      W p l e R s m args below meth cc H1 locs1 cells slots Q (F0 m (pc + 3) lsR (st.map (ztr φ))) := by
    intro H1 locs1 hP1 hD1 hS1
    rw [← hset] at hP1 hD1
    have hkk := kk φ H1 locs1 lsR zext.rf ⟨hP1, hD1, hw2, h1, hK1, hsc⟩ hS1 hl hst'
    rw [show cells + (zn (zsR h (64 * c + k0) a v) - zn h) = cells from by show cells + (zn h - zn h) = cells; omega, show slots + (zs (zsR h (64 * c + k0) a v) - zs h) = slots from by show slots + (zs h - zs h) = slots; omega] at hkk
    exact hkk
  rw [List.map_cons, List.map_cons, ztr_ref φ (show a ≠ 0 by omega)]
  by_cases hfin : ((zcw c).2.1 k0).2.2.2 = true
  · have hown2 : (zy M).name = "<init>" ∧ zown M = c := by
      unfold zfok at hf
      rw [hfin] at hf
      simpa using hf
    refine va_putF hx hb hts (zcl_in hc) (zty c) (zty_ok c hc) (znm_ok c hc) hown hK.1 hP hD hS (a - 2) he (zcl_at hc) k0 hkN (hts _ hlink) (fun _ h9 => h9) hfin ((hnm (fun h0 => by subst h0; exact absurd hown2.1 (by decide +kernel))).trans hown2.1) ?_ (zty_ok c hc k0 hkN) hnar hfit (by simp; exact hkN) (zdec_eq hd rfl (by decide)) hgo
    rw [hown2.2]
    exact zdecl_ok c hc k0 hkN
  · exact va_put hx hb hts (zcl_in hc) (zty c) (zty_ok c hc) (znm_ok c hc) hown hK.1 hP hD hS (a - 2) he (zcl_at hc) k0 hkN (hts _ hlink) (fun _ h9 => h9) (by simpa using hfin) (zty_ok c hc k0 hkN) hnar hfit (by simp; exact hkN) (zdec_eq hd rfl (by decide)) hgo
end zHeap
end
section
/-! A LAW AN INSTRUCTION: arrays, what is made, copies -/
section zArr
variable {D : va_G} {cA : Nat → ClassId} {B b L : Nat} {xs : Nat → Int32} {M pc : Nat} {ls : zL} {st : List zV} {h : zH} {r : Option zV} {h' : zH}
theorem zrel_lt {φ : Nat → Nat} {H : Heap} (hR : zRel D cA B b L xs φ h H) (a : Nat) : (zK h a).2 < 2147483648 := hR.2.2.1.2.2.2.2.1 a
theorem zS_iaload {a : Nat} {i : Int} (hd : zdec M pc = some .iaload) (hk : ((zK h a).1 = 1 ∨ (zK h a).1 = 5)) (h0 : 0 ≤ i) (hi : i < (zK h a).2) (k : zSnd D cA B b L xs M (pc + 1) ls (.inl (zA h a i.toNat) :: st) h r h') : zSnd D cA B b L xs M pc ls (.inl i :: .inr a :: st) h r h' := by
  refine zSnd.of k ?_
  intro p l e R s m args below meth cc H locs cells slots Q φ lsR hC hR hS hl hst kk
  obtain ⟨hx, hb, -, -, -, hown, -, hts, hK, hX, hbB, hBs, -⟩ := hC
  have hlen := zrel_lt hR a
  obtain ⟨hP, hD, hw, h1, hK1, hsc⟩ := hR
  have h2 := kk lsR hl (zc1 (show zok _ (.inl _) from hw.2.2.2.2.2.2.2.1 a i.toNat) (zst1 (zst1 hst).2).2)
  rw [List.map_cons] at h2
  rcases hk with hk | hk
  · obtain ⟨a2, an⟩ := hw.own hK1 (a := a) (by omega)
    rw [List.map_cons, List.map_cons, ztr_ref φ (show a ≠ 0 by omega)]
    refine va_iald hx hb hK.1 hP (a - 2) 0 (by rw [zws_get a2 an, zce_int hk]) rfl (zvpin h0 hi hlen) (zdec_eq hd rfl (by decide)) ?_
    rw [zclamp h0 (by omega)]
    exact h2
  · have ha : a = 1 := by
      rcases Nat.lt_or_ge a 2 with q | q
      · have : a = 0 ∨ a = 1 := by omega
        rcases this with rfl | rfl
        · rw [hw.2.2.2.1] at hk; cases hk
        · rfl
      · rcases Nat.lt_or_ge a (zn h) with q2 | q2
        · have := hw.2.1 a q q2; omega
        · have := hw.2.2.1 a q2; omega
    subst ha
    rw [hK1] at hi
    rw [List.map_cons, List.map_cons, ztr_ref φ (show 1 ≠ 0 by omega), h1]
    have hL : L < 2147483648 := by rw [hK1] at hlen; exact hlen
    refine va_sld hx hb hX (Nat.lt_of_lt_of_le hbB hBs) (Nat.not_le.mpr hbB) hS (zvpin h0 hi hL) (zdec_eq hd rfl (by decide)) ?_
    rw [zclamp h0 (by omega), ← hsc i.toNat (by have : i < (L : Int) := hi; omega)]
    exact h2
theorem zce_sA {φ : Nat → Nat} {a i x : Nat} {v : Int} (hx : x ≠ a) : zce cA φ (zsA h a i v) x = zce cA φ h x := by
  have e7 : (x = a) = False := eq_false hx
  simp only [zce, zsA, zA, zK, zB, zu, e7, false_and, if_false]
  rfl
theorem zce_sB {φ : Nat → Nat} {a i x : Nat} {v : Nat} (hx : x ≠ a) : zce cA φ (zsB h a i v) x = zce cA φ h x := by
  have e7 : (x = a) = False := eq_false hx
  simp only [zce, zsB, zA, zK, zB, zu, e7, false_and, if_false]
  rfl
theorem zS_iastore {a : Nat} {i x : Int} (hd : zdec M pc = some .iastore) (hk : (zK h a).1 = 1) (h0 : 0 ≤ i) (hi : i < (zK h a).2) (m2 : zn h ≤ zn h') (m4 : zs h ≤ zs h') (k : zSnd D cA B b L xs M (pc + 1) ls st (zsA h a i.toNat x) r h') : zSnd D cA B b L xs M pc ls (.inl x :: .inl i :: .inr a :: st) h r h' := by
  refine zSnd.gen k (Nat.le_refl _) m2 (Nat.le_refl _) m4 ?_
  intro p l e R s m args below meth cc H locs cells slots Q φ lsR hC hR hS hl hst hcs hss kk
  obtain ⟨hx, hb, -, -, -, hown, -, hts, hK, hX, hbB, hBs, -⟩ := hC
  have hlen := zrel_lt hR a
  obtain ⟨hP, hD, hw, h1, hK1, hsc⟩ := hR
  obtain ⟨a2, an⟩ := hw.own hK1 (a := a) (by omega)
  have hx0 : -2147483648 ≤ x ∧ x < 2147483648 := (zst1 hst).1
  have hst' := (zst1 (zst1 (zst1 hst).2).2).2
  have hw2 : zwf (zsA h a i.toNat x) := by
    obtain ⟨w1, w2, w3, w4, w5, w6, w7, w8, w9⟩ := hw
    refine ⟨w1, w2, w3, w4, w5, w6, w7, fun f y => ?_, w9⟩
    show -2147483648 ≤ (if f = a ∧ y = i.toNat then x else zA h f y) ∧ (if f = a ∧ y = i.toNat then x else zA h f y) < 2147483648
    by_cases hfy : f = a ∧ y = i.toNat
    · rw [if_pos hfy]; exact hx0
    · rw [if_neg hfy]; exact w8 f y
  rw [List.map_cons, List.map_cons, List.map_cons, ztr_ref φ (show a ≠ 0 by omega)]
  refine va_iast hx hb hK.1 hP hD hS (a - 2) 0 (by rw [zws_get a2 an, zce_int hk]) rfl (zvpin h0 hi hlen) (zdec_eq hd rfl (by decide)) ?_
  intro H1 locs1 hP1 hD1 hS1
  rw [zclamp h0 (by omega)] at hP1 hD1
  have hset : zws cA φ (zsA h a i.toNat x) = (zws cA φ h).set (a - 2) (φ a, .inl (cA 1, (zK h a).2, .inl (upd (fun j => Int32.ofInt (zA h a j)) i.toNat (Int32.ofInt x)))) := by
    rw [zws_set (h := h) (h2 := zsA h a i.toNat x) rfl a2 an (fun y hy => zce_sA hy), zce_int (h := zsA h a i.toNat x) hk]
    have e8 : (fun j => Int32.ofInt (zA (zsA h a i.toNat x) a j)) = upd (fun j => Int32.ofInt (zA h a j)) i.toNat (Int32.ofInt x) := by
      funext j
      show Int32.ofInt (if a = a ∧ j = i.toNat then x else zA h a j) = if j = i.toNat then Int32.ofInt x else Int32.ofInt (zA h a j)
      by_cases hj : j = i.toNat
      · rw [if_pos ⟨rfl, hj⟩, if_pos hj]
      · rw [if_neg (fun q => hj q.2), if_neg hj]
    rw [e8]
    rfl
  rw [← hset] at hP1 hD1
  have hsc2 : ∀ j, j < L → Int32.ofInt (zA (zsA h a i.toNat x) 1 j) = xs j := by
    intro j hj
    have e9 : zA (zsA h a i.toNat x) 1 j = zA h 1 j := by
      show (if 1 = a ∧ j = i.toNat then x else zA h 1 j) = zA h 1 j
      rw [if_neg (by omega)]
    rw [e9]
    exact hsc j hj
  have hkk := kk φ H1 locs1 lsR zext.rf ⟨hP1, hD1, hw2, h1, hK1, hsc2⟩ hS1 hl hst'
  rw [show cells + (zn (zsA h a i.toNat x) - zn h) = cells from by show cells + (zn h - zn h) = cells; omega, show slots + (zs (zsA h a i.toNat x) - zs h) = slots from by show slots + (zs h - zs h) = slots; omega] at hkk
  exact hkk
theorem ztys_at {t : Nat} (ht : 2 ≤ t ∧ t ≤ 4) : (ztys cA)[t - 1]? = some (cA t, .object (zcw (zel t)).1) := by
  have : t = 2 ∨ t = 3 ∨ t = 4 := by omega
  rcases this with rfl | rfl | rfl <;> rfl
theorem zS_aaload {a : Nat} {i : Int} (hd : zdec M pc = some .aaload) (hk : 2 ≤ (zK h a).1 ∧ (zK h a).1 ≤ 4) (h0 : 0 ≤ i) (hi : i < (zK h a).2) (k : zSnd D cA B b L xs M (pc + 1) ls (.inr (zB h a i.toNat) :: st) h r h') : zSnd D cA B b L xs M pc ls (.inl i :: .inr a :: st) h r h' := by
  refine zSnd.of k ?_
  intro p l e R s m args below meth cc H locs cells slots Q φ lsR hC hR hS hl hst kk
  obtain ⟨hx, hb, -, -, -, hown, -, hts, hK, hX, hbB, hBs, -⟩ := hC
  have hlen := zrel_lt hR a
  obtain ⟨hP, hD, hw, h1, hK1, hsc⟩ := hR
  have h2 := kk lsR hl (zc1 (show zok _ (.inr _) from hw.2.2.2.2.2.2.2.2 a i.toNat) (zst1 (zst1 hst).2).2)
  rw [List.map_cons] at h2
  obtain ⟨a2, an⟩ := hw.own hK1 (a := a) (by omega)
  rw [List.map_cons, List.map_cons, ztr_ref φ (show a ≠ 0 by omega)]
  refine va_aldq hx hb hK.1 hP (a - 2) ((zK h a).1 - 1) (by rw [zws_get a2 an, zce_arr hk]) (ztys_at hk) (zvpin h0 hi hlen) (zdec_eq hd rfl (by decide)) ?_
  rw [zclamp h0 (by omega)]
  exact h2
theorem zel_lt {t : Nat} : zel t < 11 := by unfold zel; split; decide; split <;> decide
theorem zS_aastore {a v : Nat} {i : Int} (hd : zdec M pc = some .aastore) (hk : 2 ≤ (zK h a).1 ∧ (zK h a).1 ≤ 4) (hkv : (zK h v).1 = 10 + zel (zK h a).1) (h0 : 0 ≤ i) (hi : i < (zK h a).2) (m2 : zn h ≤ zn h') (m4 : zs h ≤ zs h') (k : zSnd D cA B b L xs M (pc + 1) ls st (zsB h a i.toNat v) r h') : zSnd D cA B b L xs M pc ls (.inr v :: .inl i :: .inr a :: st) h r h' := by
  refine zSnd.gen k (Nat.le_refl _) m2 (Nat.le_refl _) m4 ?_
  intro p l e R s m args below meth cc H locs cells slots Q φ lsR hC hR hS hl hst hcs hss kk
  obtain ⟨hx, hb, -, -, -, hown, -, hts, hK, hX, hbB, hBs, -⟩ := hC
  have hlen := zrel_lt hR a
  obtain ⟨hP, hD, hw, h1, hK1, hsc⟩ := hR
  obtain ⟨a2, an⟩ := hw.own hK1 (a := a) (by omega)
  obtain ⟨v2, vn⟩ := hw.own hK1 (a := v) (by omega)
  have hst' := (zst1 (zst1 (zst1 hst).2).2).2
  have hw2 : zwf (zsB h a i.toNat v) := by
    obtain ⟨w1, w2, w3, w4, w5, w6, w7, w8, w9⟩ := hw
    refine ⟨w1, w2, w3, w4, w5, w6, w7, w8, fun f y => ?_⟩
    show (if f = a ∧ y = i.toNat then v else zB h f y) < zn h
    by_cases hfy : f = a ∧ y = i.toNat
    · rw [if_pos hfy]; exact vn
    · rw [if_neg hfy]; exact w9 f y
  rw [List.map_cons, List.map_cons, List.map_cons, ztr_ref φ (show a ≠ 0 by omega), ztr_ref φ (show v ≠ 0 by omega)]
  refine va_astq hx hb hK.1 hP hD hS (a - 2) ((zK h a).1 - 1) (v - 2) (zel (zK h a).1) (by rw [zws_get a2 an, zce_arr hk]) (ztys_at hk) (by rw [zws_get v2 vn, zce_obj hkv]) (zcl_at zel_lt) (zvpin h0 hi hlen) (zdec_eq hd rfl (by decide)) ?_
  intro H1 locs1 hP1 hD1 hS1
  rw [zclamp h0 (by omega)] at hP1 hD1
  have hset : zws cA φ (zsB h a i.toNat v) = (zws cA φ h).set (a - 2) (φ a, .inl (cA (zK h a).1, (zK h a).2, .inr (.inr (.inr (.inr (va_up (fun j => zrf φ (zB h a j)) i.toNat (some (φ v)))))))) := by
    rw [zws_set (h := h) (h2 := zsB h a i.toNat v) rfl a2 an (fun y hy => zce_sB hy), zce_arr (h := zsB h a i.toNat v) hk]
    have e8 : (fun j => zrf φ (zB (zsB h a i.toNat v) a j)) = va_up (fun j => zrf φ (zB h a j)) i.toNat (some (φ v)) := by
      funext j
      show zrf φ (if a = a ∧ j = i.toNat then v else zB h a j) = if j = i.toNat then some (φ v) else zrf φ (zB h a j)
      by_cases hj : j = i.toNat
      · rw [if_pos ⟨rfl, hj⟩, if_pos hj]
        unfold zrf
        rw [if_neg (by omega)]
      · rw [if_neg (fun q => hj q.2), if_neg hj]
    rw [e8]
    rfl
  rw [← hset] at hP1 hD1
  have hkk := kk φ H1 locs1 lsR zext.rf ⟨hP1, hD1, hw2, h1, hK1, hsc⟩ hS1 hl hst'
  rw [show cells + (zn (zsB h a i.toNat v) - zn h) = cells from by show cells + (zn h - zn h) = cells; omega, show slots + (zs (zsB h a i.toNat v) - zs h) = slots from by show slots + (zs h - zs h) = slots; omega] at hkk
  exact hkk
theorem zS_alen {a : Nat} (hd : zdec M pc = some .arraylength) (hk : 1 ≤ (zK h a).1 ∧ (zK h a).1 ≤ 5) (k : zSnd D cA B b L xs M (pc + 1) ls (.inl ((zK h a).2 : Int) :: st) h r h') : zSnd D cA B b L xs M pc ls (.inr a :: st) h r h' := by
  refine zSnd.of k ?_
  intro p l e R s m args below meth cc H locs cells slots Q φ lsR hC hR hS hl hst kk
  obtain ⟨hx, hb, -, -, -, hown, -, hts, hK, hX, hbB, hBs, -⟩ := hC
  have hlen := zrel_lt hR a
  obtain ⟨hP, hD, hw, h1, hK1, hsc⟩ := hR
  have h2 := kk lsR hl (zc1 (show zok _ (.inl _) from ⟨by omega, by omega⟩) (zst1 hst).2)
  rw [List.map_cons] at h2
  by_cases h5 : (zK h a).1 = 5
  · have ha : a = 1 := by
      rcases Nat.lt_or_ge a 2 with q | q
      · have : a = 0 ∨ a = 1 := by omega
        rcases this with rfl | rfl
        · rw [hw.2.2.2.1] at h5; cases h5
        · rfl
      · rcases Nat.lt_or_ge a (zn h) with q2 | q2
        · have := hw.2.1 a q q2; omega
        · have := hw.2.2.1 a q2; omega
    subst ha
    rw [List.map_cons, ztr_ref φ (show 1 ≠ 0 by omega), h1]
    refine va_slen hx hb hX (Nat.lt_of_lt_of_le hbB hBs) (Nat.not_le.mpr hbB) hS (zdec_eq hd rfl (by decide)) ?_
    rw [hK1] at h2
    exact h2
  · obtain ⟨a2, an⟩ := hw.own hK1 (a := a) (by omega)
    rw [List.map_cons, ztr_ref φ (show a ≠ 0 by omega)]
    by_cases h11 : (zK h a).1 = 1
    · have he : (zws cA φ h)[a - 2]? = some (φ a, .inl (cA 1, (zK h a).2, .inl (fun j => Int32.ofInt (zA h a j)))) := by rw [zws_get a2 an, zce_int h11]
      exact va_alen hx hb hK.1 hP (a - 2) 0 he (ty := .int) rfl (v := Int32.ofInt ((zK h a).2 : Int)) rfl (zdec_eq hd rfl (by decide)) h2
    · have he : (zws cA φ h)[a - 2]? = some (φ a, .inl (cA (zK h a).1, (zK h a).2, .inr (.inr (.inr (.inr (fun j => zrf φ (zB h a j))))))) := by rw [zws_get a2 an, zce_arr (by omega)]
      exact va_alen hx hb hK.1 hP (a - 2) ((zK h a).1 - 1) he (ztys_at (by omega)) (v := Int32.ofInt ((zK h a).2 : Int)) rfl (zdec_eq hd rfl (by decide)) h2
/-- the world behind a making -/
theorem zws_push {φ φ' : Nat → Nat} {h2 : zH} {q : Nat} {E : va_E} (hw : zwf h) (hn : zn h2 = zn h + 1) (he : zext φ φ' (zn h)) (hq : φ' (zn h) = q) (hE : zce cA φ' h2 (zn h) = E) (ho : ∀ x, x < zn h → zce cA φ' h2 x = zce cA φ h x) : zws cA φ' h2 = zws cA φ h ++ [(q, E)] := by
  have h2le : 2 ≤ zn h := hw.1
  unfold zws
  rw [hn, show zn h + 1 - 2 = (zn h - 2) + 1 by omega, List.range_succ, List.map_append]
  congr 1
  · apply List.map_congr_left
    intro i hi
    have hi2 := List.mem_range.mp hi
    rw [he (i + 2) (by omega), ho (i + 2) (by omega)]
  · simp only [List.map_cons, List.map_nil]
    rw [show zn h - 2 + 2 = zn h by omega, hq, hE]
theorem zrf_ext {φ φ' : Nat → Nat} {n : Nat} (he : zext φ φ' n) {x : Nat} (hx : x < n) : zrf φ' x = zrf φ x := by
  unfold zrf
  rw [he x hx]
theorem zce_ext {φ φ' : Nat → Nat} (hw : zwf h) (he : zext φ φ' (zn h)) (x : Nat) : zce cA φ' h x = zce cA φ h x := by
  obtain ⟨w1, w2, w3, w4, w5, w6, w7, w8, w9⟩ := hw
  have e1 : (fun j => zrf φ' (zB h x j)) = (fun j => zrf φ (zB h x j)) := funext (fun j => zrf_ext he (w9 x j))
  have e2 : ∀ c, zfv φ' h c x = zfv φ h c x := fun c => funext (fun k => by simp only [zfv, zrf_ext he (w7 _ x)])
  simp only [zce, e1, e2]
theorem zce_nA {φ : Nat → Nat} {t N x : Nat} (hx : x < zn h) : zce cA φ (znA h t N) x = zce cA φ h x := by
  have e7 : (x = zn h) = False := eq_false (by omega)
  have f1 : zK (znA h t N) x = zK h x := by simp only [znA, zK, e7, if_false]
  have f2 : ∀ j, zA (znA h t N) x j = zA h x j := fun j => by simp only [znA, zA, e7, if_false]
  have f3 : ∀ j, zB (znA h t N) x j = zB h x j := fun j => by simp only [znA, zB, e7, if_false]
  have f4 : ∀ c, zfv φ (znA h t N) c x = zfv φ h c x := fun c => rfl
  simp only [zce, f1, f2, f3, f4]
theorem zce_nO {φ : Nat → Nat} {c N x : Nat} (hx : x < zn h) : zce cA φ (znO h c N) x = zce cA φ h x := by
  have e7 : (x = zn h) = False := eq_false (by omega)
  have f1 : zK (znO h c N) x = zK h x := by simp only [znO, zK, e7, if_false]
  have f2 : ∀ f, zI (znO h c N) f x = zI h f x := fun j => by simp only [znO, zI, e7, if_false]
  have f3 : ∀ f, zR (znO h c N) f x = zR h f x := fun j => by simp only [znO, zR, e7, if_false]
  have f4 : ∀ c', zfv φ (znO h c N) c' x = zfv φ h c' x := fun c' => funext (fun k => by simp only [zfv, f2, f3])
  simp only [zce, f1, f4]
  rfl
theorem zwf_nA {t N : Nat} (hw : zwf h) (ht : 1 ≤ t ∧ t ≤ 4) (hN : N < 2147483648) : zwf (znA h t N) := by
  obtain ⟨w1, w2, w3, w4, w5, w6, w7, w8, w9⟩ := hw
  refine ⟨by show 2 ≤ zn h + 1; omega, fun a h1 h2 => ?_, fun a h1 => ?_, ?_, fun a => ?_, w6, fun f a => Nat.lt_succ_of_lt (w7 f a), fun a i => ?_, fun a i => ?_⟩
  · show (1 ≤ (if a = zn h then (t, N) else zK h a).1 ∧ (if a = zn h then (t, N) else zK h a).1 ≤ 4) ∨ (10 ≤ (if a = zn h then (t, N) else zK h a).1 ∧ (if a = zn h then (t, N) else zK h a).1 < 21)
    by_cases ha : a = zn h
    · rw [if_pos ha]; exact Or.inl ht
    · rw [if_neg ha]; exact w2 a h1 (by have : a < zn h + 1 := h2; omega)
  · have h1' : zn h + 1 ≤ a := h1
    show (if a = zn h then (t, N) else zK h a).1 = 0
    rw [if_neg (by omega)]; exact w3 a (by omega)
  · show (if 0 = zn h then (t, N) else zK h 0).1 = 0
    rw [if_neg (by omega)]; exact w4
  · show (if a = zn h then (t, N) else zK h a).2 < 2147483648
    by_cases ha : a = zn h
    · rw [if_pos ha]; exact hN
    · rw [if_neg ha]; exact w5 a
  · show -2147483648 ≤ (if a = zn h then 0 else zA h a i) ∧ (if a = zn h then 0 else zA h a i) < 2147483648
    by_cases ha : a = zn h
    · rw [if_pos ha]; omega
    · rw [if_neg ha]; exact w8 a i
  · show (if a = zn h then 0 else zB h a i) < zn h + 1
    by_cases ha : a = zn h
    · rw [if_pos ha]; omega
    · rw [if_neg ha]; have := w9 a i; omega
theorem zwf_nO {c N : Nat} (hw : zwf h) (hc : c < 11) : zwf (znO h c N) := by
  obtain ⟨w1, w2, w3, w4, w5, w6, w7, w8, w9⟩ := hw
  refine ⟨by show 2 ≤ zn h + 1; omega, fun a h1 h2 => ?_, fun a h1 => ?_, ?_, fun a => ?_, fun f a => ?_, fun f a => ?_, w8, fun a i => Nat.lt_succ_of_lt (w9 a i)⟩
  · show (1 ≤ (if a = zn h then (10 + c, 0) else zK h a).1 ∧ (if a = zn h then (10 + c, 0) else zK h a).1 ≤ 4) ∨ (10 ≤ (if a = zn h then (10 + c, 0) else zK h a).1 ∧ (if a = zn h then (10 + c, 0) else zK h a).1 < 21)
    by_cases ha : a = zn h
    · rw [if_pos ha]; exact Or.inr ⟨by show 10 ≤ 10 + c; omega, by show 10 + c < 21; omega⟩
    · rw [if_neg ha]; exact w2 a h1 (by have : a < zn h + 1 := h2; omega)
  · have h1' : zn h + 1 ≤ a := h1
    show (if a = zn h then (10 + c, 0) else zK h a).1 = 0
    rw [if_neg (by omega)]; exact w3 a (by omega)
  · show (if 0 = zn h then (10 + c, 0) else zK h 0).1 = 0
    rw [if_neg (by omega)]; exact w4
  · show (if a = zn h then (10 + c, 0) else zK h a).2 < 2147483648
    by_cases ha : a = zn h
    · rw [if_pos ha]; show 0 < 2147483648; omega
    · rw [if_neg ha]; exact w5 a
  · show -2147483648 ≤ (if a = zn h then 0 else zI h f a) ∧ (if a = zn h then 0 else zI h f a) < 2147483648
    by_cases ha : a = zn h
    · rw [if_pos ha]; omega
    · rw [if_neg ha]; exact w6 f a
  · show (if a = zn h then 0 else zR h f a) < zn h + 1
    by_cases ha : a = zn h
    · rw [if_pos ha]; omega
    · rw [if_neg ha]; have := w7 f a; omega
theorem zext_new (φ : Nat → Nat) (n q : Nat) : zext φ (fun a => if a = n then q else φ a) n := fun a ha => if_neg (by omega)
theorem zS_newarray {n : Int} (hd : zdec M pc = some (.newarray .int)) (h0 : 0 ≤ n) (hn : n ≤ 100000) (m2 : zn h + 1 ≤ zn h') (m4 : zs h + n.toNat ≤ zs h') (k : zSnd D cA B b L xs M (pc + 2) ls (.inr (zn h) :: st) (znA h 1 n.toNat) r h') : zSnd D cA B b L xs M pc ls (.inl n :: st) h r h' := by
  refine zSnd.gen k (Nat.le_succ _) m2 (Nat.le_add_right _ _) m4 ?_
  intro p l e R s m args below meth cc H locs cells slots Q φ lsR hC hR hS hl hst hcs hss kk
  have e1 : zn (znA h 1 n.toNat) - zn h = 1 := by show zn h + 1 - zn h = 1; omega
  have e2 : zs (znA h 1 n.toNat) - zs h = n.toNat := by show zs h + n.toNat - zs h = n.toNat; omega
  rw [e1] at hcs kk
  rw [e2] at hss kk
  obtain ⟨hx, hb, -, -, -, hown, -, hts, hK, hX, hbB, hBs, -⟩ := hC
  obtain ⟨hP, hD, hw, h1, hK1, hsc⟩ := hR
  have h2le : 2 ≤ zn h := hw.1
  have harr : (Cond.arrayClass .int).before args s = true := hts _ (zW_0 List.mem_cons_self)
  have hneg : ¬ Int32.ofInt n < 0 := by rw [z0I, zltI (by omega) (by omega)]; omega
  rw [List.map_cons]
  have hby : n.toNat * componentBytes .int ≤ 536870912 := by
    have e4 : componentBytes .int = 4 := rfl
    rw [e4]; omega
  have hcell : ∀ c9 : ClassId, vp_cell c9 (n.toNat, .inl (fun _ => 0)) = arrV c9 n.toNat (fun _ => defaultValue .int) := fun _ => rfl
  have hcl : (Int32.ofInt n).toNatClampNeg = n.toNat := zclamp h0 (by omega)
  have hdd := zdec_eq hd rfl (by decide)
  refine va_newa (ty := .int) (N' := n.toNat) (a0 := (n.toNat, .inl (fun _ => 0))) (n := Int32.ofInt n) (atype := .int) hx hb harr rfl hK.1 hP hD hS ?_ ?_ ?_ ?_ ?_ ?_ ?_ ?_ ?_
  · exact (fun q hq => Nat.le_trans hBs hq)
  · exact hcell
  · exact hneg
  · exact hcl
  · exact hby
  · exact hcs
  · exact hss
  · exact hdd
  intro q cA' H1 hK2 hP1 hD1 hS1
  have hcc : cA' = cA 1 := by
    have a1 : va_RA s cA' .int := (hK2.2 4 (cA', .int) rfl).2
    have a2 : va_RA s (cA 1) .int := (hK.1.2 0 (cA 1, .int) rfl).2
    have b1 : s.vm.findClass ("[" ++ FieldType.int.toString) = some cA' := by unfold va_RA at a1; exact a1
    have b2 : s.vm.findClass ("[" ++ FieldType.int.toString) = some (cA 1) := by unfold va_RA at a2; exact a2
    rw [b1] at b2
    exact Option.some.inj b2
  subst hcc
  have hpu : zws cA (fun a => if a = zn h then q else φ a) (znA h 1 n.toNat) = zws cA φ h ++ [(q, .inl (cA 1, n.toNat, .inl (fun _ => 0)))] := by
    refine zws_push hw rfl (zext_new φ (zn h) q) (if_pos rfl) ?_ (fun x hx2 => (zce_nA hx2).trans (zce_ext hw (zext_new φ (zn h) q) x))
    have f1 : zK (znA h 1 n.toNat) (zn h) = (1, n.toNat) := if_pos rfl
    rw [zce_int (by rw [f1])]
    rw [f1]
    have f2 : (fun j => Int32.ofInt (zA (znA h 1 n.toNat) (zn h) j)) = (fun _ => 0) := funext (fun j => by
      have g2 : zA (znA h 1 n.toNat) (zn h) j = 0 := if_pos rfl
      rw [g2]; exact z0I.symm)
    rw [f2]
  rw [← hpu] at hP1 hD1
  have hkk := kk (fun a => if a = zn h then q else φ a) H1 locs lsR (zext_new φ (zn h) q) ⟨hP1, hD1, zwf_nA hw (by omega) (by omega), (if_neg (by omega)).trans h1, (if_neg (by omega)).trans hK1, fun j hj => by
    have e9 : zA (znA h 1 n.toNat) 1 j = zA h 1 j := if_neg (by omega)
    rw [e9]; exact hsc j hj⟩ hS1 (hl.ext (zext_new φ (zn h) q) (Nat.le_succ _)) (zc1 (show zok _ (.inr _) from Nat.lt_succ_self _) (fun v hv => ((zst1 hst).2 v hv).mono (Nat.le_succ _)))
  rw [List.map_cons, zst_ext (zext_new φ (zn h) q) (zst1 hst).2, ztr_ref _ (by omega), if_pos rfl] at hkk
  exact hkk
theorem zcc_ok : ∀ e ∈ zcc, e.2.2 < 11 := by decide +kernel
theorem zdef_ok : ∀ c, c < 11 → ∀ j, j < (zcw c).2.2 → defaultValue (zty c j) = (if zir c j = true then Value.null else Value.int 0) := by decide +kernel
theorem zS_new {ix c : Nat} (hd : zdec M pc = some (.new ix)) (hq : zlkc (zown M) ix = some c) (m2 : zn h + 1 ≤ zn h') (m4 : zs h + (zcw c).2.2 ≤ zs h') (k : zSnd D cA B b L xs M (pc + 3) ls (.inr (zn h) :: st) (znO h c (zcw c).2.2) r h') : zSnd D cA B b L xs M pc ls st h r h' := by
  refine zSnd.gen k (Nat.le_succ _) m2 (Nat.le_add_right _ _) m4 ?_
  intro p l e R s m args below meth cc H locs cells slots Q φ lsR hC hR hS hl hst hcs hss kk
  have e1 : zn (znO h c (zcw c).2.2) - zn h = 1 := by show zn h + 1 - zn h = 1; omega
  have e2 : zs (znO h c (zcw c).2.2) - zs h = (zcw c).2.2 := by show zs h + (zcw c).2.2 - zs h = (zcw c).2.2; omega
  rw [e1] at hcs kk
  rw [e2] at hss kk
  obtain ⟨hx, hb, -, -, -, hown, -, hts, hK, hX, hbB, hBs, -⟩ := hC
  obtain ⟨hP, hD, hw, h1, hK1, hsc⟩ := hR
  have h2le : 2 ≤ zn h := hw.1
  have hmem := zlkc_mem hq
  have hc : c < 11 := zcc_ok _ hmem
  have hlink : Cond.classLink (zon (zown M)) ix (zcw c).1 ∈ zW := zW_6 (List.mem_map.mpr ⟨_, hmem, rfl⟩)
  have hinst : Cond.instantiable (zcw c).1 (zcw c).2.2 ∈ zW := zW_3 (List.mem_flatMap.mpr ⟨zcw c, List.mem_of_getElem? (zcl_at hc), List.mem_cons_self⟩)
  have hini : Cond.initialized (zcw c).1 ∈ zW := by
    have : (zcw c).1 ∈ zO := by
      have g : ∀ c, c < 11 → (zcw c).1 ∈ zO := by decide +kernel
      exact g c hc
    exact zW_1 (List.mem_map.mpr ⟨_, this, rfl⟩)
  have hfs : ∀ j, j < (zcw c).2.2 → defaultValue (zty c j) = vp_V ((List.range (zcw c).2.2).map (fun j => if zir c j = true then Value.null else Value.int 0)) j := by
    intro j hj
    rw [zdef_ok c hc j hj]
    unfold vp_V
    rw [List.getD_eq_getElem?_getD, List.getElem?_map, List.getElem?_range hj]
    rfl
  refine va_new (ci := c) hx hb hts (zcl_in hc) (zty c) (zty_ok c hc) hown (hts _ hlink) (hts _ hinst) (hts _ hini) hK.1 hP hD hS (fun q hq => Nat.le_trans hBs hq) (zcl_at hc) hfs hcs hss (zdec_eq hd rfl (by decide)) ?_
  intro q H1 hP1 hD1 hS1
  have hpu : zws cA (fun a => if a = zn h then q else φ a) (znO h c (zcw c).2.2) = zws cA φ h ++ [(q, .inr (c, (List.range (zcw c).2.2).map (fun j => if zir c j = true then Value.null else Value.int 0)))] := by
    refine zws_push hw rfl (zext_new φ (zn h) q) (if_pos rfl) ?_ (fun x hx2 => (zce_nO hx2).trans (zce_ext hw (zext_new φ (zn h) q) x))
    have f1 : zK (znO h c (zcw c).2.2) (zn h) = (10 + c, 0) := if_pos rfl
    rw [zce_obj (c := c) (by rw [f1])]
    have f2 : zfv (fun a => if a = zn h then q else φ a) (znO h c (zcw c).2.2) c (zn h) = (fun j => if zir c j = true then Value.null else Value.int 0) := by
      funext j
      have g1 : zI (znO h c (zcw c).2.2) (64 * c + j) (zn h) = 0 := if_pos rfl
      have g2 : zR (znO h c (zcw c).2.2) (64 * c + j) (zn h) = 0 := if_pos rfl
      simp only [zfv, g1, g2]
      rfl
    rw [f2]
  rw [← hpu] at hP1 hD1
  have hkk := kk (fun a => if a = zn h then q else φ a) H1 locs lsR (zext_new φ (zn h) q) ⟨hP1, hD1, zwf_nO hw hc, (if_neg (by omega)).trans h1, (if_neg (by omega)).trans hK1, hsc⟩ hS1 (hl.ext (zext_new φ (zn h) q) (Nat.le_succ _)) (zc1 (show zok _ (.inr _) from Nat.lt_succ_self _) (fun v hv => (hst v hv).mono (Nat.le_succ _)))
  rw [List.map_cons, zst_ext (zext_new φ (zn h) q) hst, ztr_ref _ (by omega), if_pos rfl] at hkk
  exact hkk
theorem zat_ok : ∀ c, c < 11 → zat c ≠ 0 → (2 ≤ zat c ∧ zat c ≤ 4) ∧ zel (zat c) = c ∧ ((zcw c).1 = RX8 ∨ (zcw c).1 = RX4 ∨ (zcw c).1 = RX2) := by decide +kernel
theorem zS_anewarray {ix c : Nat} {n : Int} (hd : zdec M pc = some (.anewarray ix)) (hq : zlkc (zown M) ix = some c) (hc0 : zat c ≠ 0) (h0 : 0 ≤ n) (hn : n ≤ 100000) (m2 : zn h + 1 ≤ zn h') (m4 : zs h + n.toNat ≤ zs h') (k : zSnd D cA B b L xs M (pc + 3) ls (.inr (zn h) :: st) (znA h (zat c) n.toNat) r h') : zSnd D cA B b L xs M pc ls (.inl n :: st) h r h' := by
  refine zSnd.gen k (Nat.le_succ _) m2 (Nat.le_add_right _ _) m4 ?_
  intro p l e R s m args below meth cc H locs cells slots Q φ lsR hC hR hS hl hst hcs hss kk
  have e1 : zn (znA h (zat c) n.toNat) - zn h = 1 := by show zn h + 1 - zn h = 1; omega
  have e2 : zs (znA h (zat c) n.toNat) - zs h = n.toNat := by show zs h + n.toNat - zs h = n.toNat; omega
  rw [e1] at hcs kk
  rw [e2] at hss kk
  obtain ⟨hx, hb, -, -, -, hown, -, hts, hK, hX, hbB, hBs, -⟩ := hC
  obtain ⟨hP, hD, hw, h1, hK1, hsc⟩ := hR
  have h2le : 2 ≤ zn h := hw.1
  have hmem := zlkc_mem hq
  have hc : c < 11 := zcc_ok _ hmem
  obtain ⟨ht, hel, hnm⟩ := zat_ok c hc hc0
  have hlink : Cond.classLink (zon (zown M)) ix (zcw c).1 ∈ zW := zW_6 (List.mem_map.mpr ⟨_, hmem, rfl⟩)
  have hAO : va_AO (zcw c).1 s := by
    rcases hnm with e | e | e
    · rw [e]; exact hK.2.1.1
    · rw [e]; exact hK.2.1.2.1
    · rw [e]; exact hK.2.1.2.2
  have hneg : ¬ Int32.ofInt n < 0 := by rw [z0I, zltI (by omega) (by omega)]; omega
  rw [List.map_cons]
  refine va_newq hx hb hown (hts _ hlink) hAO hK.1 hP hD hS (fun q hq => Nat.le_trans hBs hq) hneg (zclamp h0 (by omega)) (by omega) hcs hss (zdec_eq hd rfl (by decide)) ?_
  intro q cA' H1 hK2 hP1 hD1 hS1
  have hcc : cA' = cA (zat c) := by
    obtain ⟨k1, k2, k3, k4, k5, k6⟩ := (hK2.2 4 (cA', .object (zcw c).1) rfl).2
    have hz := ztys_at (cA := cA) ht
    rw [hel] at hz
    obtain ⟨j1, j2, j3, j4, j5, j6⟩ := (hK.1.2 _ _ hz).2
    exact Option.some.inj (k6.symm.trans j6)
  subst hcc
  have hpu : zws cA (fun a => if a = zn h then q else φ a) (znA h (zat c) n.toNat) = zws cA φ h ++ [(q, .inl (cA (zat c), n.toNat, .inr (.inr (.inr (.inr (fun _ => none))))))] := by
    refine zws_push hw rfl (zext_new φ (zn h) q) (if_pos rfl) ?_ (fun x hx2 => (zce_nA hx2).trans (zce_ext hw (zext_new φ (zn h) q) x))
    have f1 : zK (znA h (zat c) n.toNat) (zn h) = (zat c, n.toNat) := if_pos rfl
    rw [zce_arr (by rw [f1]; exact ht)]
    rw [f1]
    have f2 : (fun j => zrf (fun a => if a = zn h then q else φ a) (zB (znA h (zat c) n.toNat) (zn h) j)) = (fun _ => none) := funext (fun j => by
      have g2 : zB (znA h (zat c) n.toNat) (zn h) j = 0 := if_pos rfl
      rw [g2]; rfl)
    rw [f2]
  rw [← hpu] at hP1 hD1
  have hkk := kk (fun a => if a = zn h then q else φ a) H1 locs lsR (zext_new φ (zn h) q) ⟨hP1, hD1, zwf_nA hw (by omega) (by omega), (if_neg (by omega)).trans h1, (if_neg (by omega)).trans hK1, fun j hj => by
    have e9 : zA (znA h (zat c) n.toNat) 1 j = zA h 1 j := if_neg (by omega)
    rw [e9]; exact hsc j hj⟩ hS1 (hl.ext (zext_new φ (zn h) q) (Nat.le_succ _)) (zc1 (show zok _ (.inr _) from Nat.lt_succ_self _) (fun v hv => ((zst1 hst).2 v hv).mono (Nat.le_succ _)))
  rw [List.map_cons, zst_ext (zext_new φ (zn h) q) (zst1 hst).2, ztr_ref _ (by omega), if_pos rfl] at hkk
  exact hkk
end zArr
end
section
/-! CALLS AND ENDS -/
section zCalls
variable {D : va_G} {cA : Nat → ClassId} {B b L : Nat} {xs : Nat → Int32} {M pc : Nat} {ls : zL} {st : List zV} {h : zH} {r : Option zV} {h' : zH}
theorem zcats (φ : Nat → Nat) (st : List zV) : ((st.map (ztr φ)).map fun v => v.category).sum = st.length := by
  induction st with
  | nil => rfl
  | cons v t ih => simp only [List.map_cons, List.sum_cons, ztr_cat, ih, List.length_cons]; omega
theorem zS_copy {ix a d M1 : Nat} {n : Int} (hd : zdec M pc = some (.invokestatic ix)) (hq : zlk2 zcm (zown M) ix = some (5, M1)) (hrk : 1 ≤ zrk M) (hlo : 40 ≤ zlo M) (h0 : 0 ≤ n) (hka : (zK h a).1 = 1) (hkd : (zK h d).1 = 1) (hna : n ≤ (zK h a).2) (hnd : n ≤ (zK h d).2) (hst8 : st.length ≤ 8) (m2 : zn h ≤ zn h') (m4 : zs h ≤ zs h')
    (k : zSnd D cA B b L xs M (pc + 3) ls st (zcp h a d n.toNat) r h') : zSnd D cA B b L xs M pc ls (.inl n :: .inl 0 :: .inr d :: .inl 0 :: .inr a :: st) h r h' := by
  refine zSnd.gen k (Nat.le_refl _) m2 (Nat.le_refl _) m4 ?_
  intro p l e R s m args below meth cc H locs cells slots Q φ lsR hC hR hS hl hst hcs hss kk
  obtain ⟨hx, hb, -, -, hml, hown, -, hts, hK, hX, hbB, hBs, hfr, hlc⟩ := hC
  have hla := zrel_lt hR a
  have hld := zrel_lt hR d
  obtain ⟨hP, hD, hw, h1, hK1, hsc⟩ := hR
  obtain ⟨a2, an⟩ := hw.own hK1 (a := a) (by omega)
  obtain ⟨d2, dn⟩ := hw.own hK1 (a := d) (by omega)
  have hst' := (zst1 (zst1 (zst1 (zst1 (zst1 hst).2).2).2).2).2
  have hlink : Cond.methodLink (zon (zown M)) ix arraycopyName ∈ zW := zW_4 (List.mem_flatMap.mpr ⟨_, zlk2_mem hq, List.mem_cons_self⟩)
  have hnat : Cond.native arraycopyName ∈ zW := zW_0 (by unfold zW0; simp)
  have hsta : Cond.static arraycopyName ∈ zW := zW_0 (by unfold zW0; simp)
  have hini : Cond.initialized "java/lang/System" ∈ zW := zW_0 (by unfold zW0; simp)
  have ha0 : (zws cA φ h)[a - 2]? = some (φ a, .inl (cA 1, (zK h a).2, .inl (fun j => Int32.ofInt (zA h a j)))) := by rw [zws_get a2 an, zce_int hka]
  have ha1 : (zws cA φ h)[d - 2]? = some (φ d, .inl (cA 1, (zK h d).2, .inl (fun j => Int32.ofInt (zA h d j)))) := by rw [zws_get d2 dn, zce_int hkd]
  have hneg : ¬ Int32.ofInt n < 0 := by rw [z0I, zltI (by omega) (by omega)]; omega
  have hneg0 : ¬ Int32.ofInt 0 < 0 := by decide
  have hc0 : (Int32.ofInt 0).toNatClampNeg = 0 := by decide
  have hcn : (Int32.ofInt n).toNatClampNeg = n.toNat := zclamp h0 (by omega)
  have hw2 : zwf (zcp h a d n.toNat) := by
    obtain ⟨w1, w2, w3, w4, w5, w6, w7, w8, w9⟩ := hw
    refine ⟨w1, w2, w3, w4, w5, w6, w7, fun f y => ?_, w9⟩
    show -2147483648 ≤ (if f = d ∧ y < n.toNat then zA h a y else zA h f y) ∧ (if f = d ∧ y < n.toNat then zA h a y else zA h f y) < 2147483648
    by_cases hfy : f = d ∧ y < n.toNat
    · rw [if_pos hfy]; exact w8 a y
    · rw [if_neg hfy]; exact w8 f y
  have hset : zws cA φ (zcp h a d n.toNat) = (zws cA φ h).set (d - 2) (φ d, .inl (cA 1, (zK h d).2, .inl (va_cpy (fun j => Int32.ofInt (zA h a j)) (fun j => Int32.ofInt (zA h d j)) 0 0 n.toNat))) := by
    rw [zws_set (h := h) (h2 := zcp h a d n.toNat) rfl d2 dn (fun y hy => by
      have e7 : (y = d) = False := eq_false hy
      simp only [zce, zcp, zA, zK, zB, e7, false_and, if_false]
      rfl), zce_int (h := zcp h a d n.toNat) hkd]
    have e8 : (fun j => Int32.ofInt (zA (zcp h a d n.toNat) d j)) = va_cpy (fun j => Int32.ofInt (zA h a j)) (fun j => Int32.ofInt (zA h d j)) 0 0 n.toNat := by
      funext j
      show Int32.ofInt (if d = d ∧ j < n.toNat then zA h a j else zA h d j) = if 0 ≤ j ∧ j < 0 + n.toNat then Int32.ofInt (zA h a (0 + (j - 0))) else Int32.ofInt (zA h d j)
      by_cases hj : j < n.toNat
      · rw [if_pos ⟨rfl, hj⟩, if_pos ⟨Nat.zero_le _, by omega⟩, show 0 + (j - 0) = j by omega]
      · rw [if_neg (fun q => hj q.2), if_neg (fun q => hj (by omega))]
    rw [e8]
    rfl
  have hsize : cc.maxLocals = lsR.size := hml.trans hl.2.1.1.symm
  rw [List.map_cons, List.map_cons, List.map_cons, List.map_cons, List.map_cons, ztr_ref φ (show a ≠ 0 by omega), ztr_ref φ (show d ≠ 0 by omega)]
  refine va_copyi (sp := Int32.ofInt 0) (dp := Int32.ofInt 0) (n := Int32.ofInt n) (ty := .int) hx hb hsize hown (hts _ hlink) (hts _ hnat) (hts _ hsta) (hts _ hini) hK.1 hP hD hS (a - 2) (d - 2) 0 0 ha0 ha1 rfl rfl rfl hneg0 hneg0 hneg ?_ ?_ (fun _ _ => rfl) (by omega) ?_ (zdec_eq hd rfl (by decide)) ?_
  · rw [hc0, hcn]; omega
  · rw [hc0, hcn]; omega
  · rw [zcats]
    have e5 : nativeFrameWords "java/lang/System" "arraycopy" 5 = 7 := by decide
    rw [e5]; omega
  · intro H1 locs1 hP1 hD1 hS1
    rw [hc0, hcn, ← hset] at hP1 hD1
    have hsc2 : ∀ j, j < L → Int32.ofInt (zA (zcp h a d n.toNat) 1 j) = xs j := by
      intro j hj
      have e9 : zA (zcp h a d n.toNat) 1 j = zA h 1 j := by
        show (if 1 = d ∧ j < n.toNat then zA h a j else zA h 1 j) = zA h 1 j
        rw [if_neg (by omega)]
      rw [e9]
      exact hsc j hj
    have hkk := kk φ H1 locs1 lsR zext.rf ⟨hP1, hD1, hw2, h1, hK1, hsc2⟩ hS1 hl hst'
    rw [show cells + (zn (zcp h a d n.toNat) - zn h) = cells from by show cells + (zn h - zn h) = cells; omega, show slots + (zs (zcp h a d n.toNat) - zs h) = slots from by show slots + (zs h - zs h) = slots; omega] at hkk
    exact hkk
theorem zS_max {ix M1 : Nat} {x y : Int} (hd : zdec M pc = some (.invokestatic ix)) (hq : zlk2 zcm (zown M) ix = some (6, M1)) (hrk : 1 ≤ zrk M) (hlo : 40 ≤ zlo M) (hst8 : st.length ≤ 8) (m2 : zn h ≤ zn h') (m4 : zs h ≤ zs h') (k : zSnd D cA B b L xs M (pc + 3) ls (.inl (max x y) :: st) h r h') : zSnd D cA B b L xs M pc ls (.inl y :: .inl x :: st) h r h' := by
  refine zSnd.gen k (Nat.le_refl _) m2 (Nat.le_refl _) m4 ?_
  intro p l e R s m args below meth cc H locs cells slots Q φ lsR hC hR hS hl hst hcs hss kk
  obtain ⟨hx, hb, -, -, hml, hown, -, hts, hK, hX, hbB, hBs, hfr, hlc⟩ := hC
  obtain ⟨gx, gy, gs⟩ := zst2 hst
  have hlink : Cond.methodLink (zon (zown M)) ix Lib.Math.max.name ∈ zW := zW_4 (List.mem_flatMap.mpr ⟨_, zlk2_mem hq, List.mem_cons_self⟩)
  have hsta : Cond.static Lib.Math.max.name ∈ zW := zW_0 (by unfold zW0; simp)
  have hcod : Cond.code Lib.Math.max.name Lib.Math.max.code 2 (some .int) ∈ zW := zW_0 (by unfold zW0; simp)
  have hini : Cond.initialized "java/lang/Math" ∈ zW := zW_0 (by unfold zW0; simp)
  have hkk := kk φ H locs lsR zext.rf hR hS hl (zc1 (show zok _ (.inl _) from (by show _ ∧ _; omega)) gs)
  rw [show cells + (zn h - zn h) = cells by omega, show slots + (zs h - zs h) = slots by omega] at hkk
  rw [List.map_cons, List.map_cons]
  refine va_mmax (x := Int32.ofInt x) (y := Int32.ofInt y) hx hb (hml.trans hl.2.1.1.symm) hown (hts _ hlink) (hts _ hsta) (hts _ hini) (hts _ hcod) (by omega) (by rw [zcats]; omega) (by omega) (by omega) (zdec_eq hd rfl (by decide)) ?_
  have e : (if Int32.ofInt x < Int32.ofInt y then Int32.ofInt y else Int32.ofInt x) = Int32.ofInt (max x y) := by
    by_cases hxy : x < y
    · rw [if_pos ((zltI gx gy).mpr hxy), show max x y = y by omega]
    · rw [if_neg (fun q => hxy ((zltI gx gy).mp q)), show max x y = x by omega]
  rw [e]
  exact hkk
theorem zS_min {ix M1 : Nat} {x y : Int} (hd : zdec M pc = some (.invokestatic ix)) (hq : zlk2 zcm (zown M) ix = some (7, M1)) (hrk : 1 ≤ zrk M) (hlo : 40 ≤ zlo M) (hst8 : st.length ≤ 8) (m2 : zn h ≤ zn h') (m4 : zs h ≤ zs h') (k : zSnd D cA B b L xs M (pc + 3) ls (.inl (min x y) :: st) h r h') : zSnd D cA B b L xs M pc ls (.inl y :: .inl x :: st) h r h' := by
  refine zSnd.gen k (Nat.le_refl _) m2 (Nat.le_refl _) m4 ?_
  intro p l e R s m args below meth cc H locs cells slots Q φ lsR hC hR hS hl hst hcs hss kk
  obtain ⟨hx, hb, -, -, hml, hown, -, hts, hK, hX, hbB, hBs, hfr, hlc⟩ := hC
  obtain ⟨gx, gy, gs⟩ := zst2 hst
  have hlink : Cond.methodLink (zon (zown M)) ix Lib.Math.min.name ∈ zW := zW_4 (List.mem_flatMap.mpr ⟨_, zlk2_mem hq, List.mem_cons_self⟩)
  have hsta : Cond.static Lib.Math.min.name ∈ zW := zW_0 (by unfold zW0; simp)
  have hcod : Cond.code Lib.Math.min.name Lib.Math.min.code 2 (some .int) ∈ zW := zW_0 (by unfold zW0; simp)
  have hini : Cond.initialized "java/lang/Math" ∈ zW := zW_0 (by unfold zW0; simp)
  have hkk := kk φ H locs lsR zext.rf hR hS hl (zc1 (show zok _ (.inl _) from (by show _ ∧ _; omega)) gs)
  rw [show cells + (zn h - zn h) = cells by omega, show slots + (zs h - zs h) = slots by omega] at hkk
  rw [List.map_cons, List.map_cons]
  refine va_mmin (x := Int32.ofInt x) (y := Int32.ofInt y) hx hb (hml.trans hl.2.1.1.symm) hown (hts _ hlink) (hts _ hsta) (hts _ hini) (hts _ hcod) (by omega) (by rw [zcats]; omega) (by omega) (by omega) (zdec_eq hd rfl (by decide)) ?_
  have e : (if Int32.ofInt y < Int32.ofInt x then Int32.ofInt y else Int32.ofInt x) = Int32.ofInt (min x y) := by
    by_cases hxy : y < x
    · rw [if_pos ((zltI gy gx).mpr hxy), show min x y = y by omega]
    · rw [if_neg (fun q => hxy ((zltI gy gx).mp q)), show min x y = x by omega]
  rw [e]
  exact hkk
theorem zS_objInit {ix a M1 : Nat} (hd : zdec M pc = some (.invokespecial ix)) (hq : zlk2 zcm (zown M) ix = some (4, M1)) (hrk : 1 ≤ zrk M) (hlo : 20 ≤ zlo M) (ha : a ≠ 0) (hst8 : st.length ≤ 8) (k : zSnd D cA B b L xs M (pc + 3) ls st h r h') : zSnd D cA B b L xs M pc ls (.inr a :: st) h r h' := by
  refine zSnd.of k ?_
  intro p l e R s m args below meth cc H locs cells slots Q φ lsR hC hR hS hl hst kk
  obtain ⟨hx, hb, -, -, hml, hown, -, hts, hK, hX, hbB, hBs, hfr, hlc⟩ := hC
  have hlink : Cond.methodLink (zon (zown M)) ix objectInit ∈ zW := zW_4 (List.mem_flatMap.mpr ⟨_, zlk2_mem hq, List.mem_cons_self⟩)
  have hins : Cond.instanceMethod objectInit ∈ zW := zW_0 (by unfold zW0; simp)
  have hcod : Cond.code objectInit ⟨#[0xb1]⟩ 1 none ∈ zW := zW_0 (by unfold zW0; simp)
  rw [List.map_cons, ztr_ref φ ha]
  refine W.objInit (g := F0 m pc lsR (.ref (φ a) :: st.map (ztr φ))) hx hb hown (hts _ hlink) (hts _ hins) (hts _ hcod) rfl (hl.2.1.1.trans hml.symm) rfl (zdec_eq hd rfl (by decide)) (by omega) ?_ (kk lsR hl (zst1 hst).2)
  show 2 * 0 + ((st.map (ztr φ)).map fun v => v.category).sum + 12 ≤ R.locals
  rw [zcats]; omega
/-- behind a call, whatever it answers -/
theorem z_call {p : Program} {l : Launch} {e : Env} {R : Room} {s : State} {m : MethodId} {args : Array Value} {below : List Frame} {meth : Method} {c : Code} {H : Heap} {locs : List Loc} {cells slots : Nat} {Q : State → Prop} {lsA : Array Slot} {rest st0 : List Value} {A : Nat → Prop} {H0 : Heap} {mc ms : Nat} {Qa : State → Outcome → State → Prop} {X : Option Value → State → Prop}
    (hr : va_Run p l e R s m args below meth c H locs cells slots mc ms (F0 m pc lsA st0) rest Qa A) (hS : va_S A H0 H locs) (hQ : ∀ st1 v t, Qa st1 (.returned v) t → X v t ∧ va_F A st1 t)
    (kk : ∀ (v : Option Value) (t : State) (locs1 : List Loc), X v t → va_S A H0 t.heap locs1 → W p l e R s m args below meth c t.heap locs1 (cells + mc) (slots + ms) Q (F0 m (pc + 3) lsA (v.toList ++ rest))) : W p l e R s m args below meth c H locs cells slots Q (F0 m pc lsA st0) := by
  intro T hT X'
  obtain ⟨v, st₀, t, T', L', h0, X2, hL, e1, e2, hq, st⟩ := hr T hT X'
  obtain ⟨hX, hz, hk⟩ := hQ st₀ v t hq
  rw [h0] at hz hk
  obtain ⟨t2, a1, b1⟩ := kk v t (locs ++ L') hX ⟨Nat.le_trans hS.1 hz, fun q h1 h2 => by rw [hk q (Nat.lt_of_lt_of_le h1 hS.1) h2]; exact hS.2.1 q h1 h2, fun q hq => by
      rcases List.mem_append.mp hq with h | h
      · exact hS.2.2 q h
      · exact hL q h⟩ T' e1 X2
  exact ⟨t2, st t2 a1, b1⟩
def zPc (D : va_G) (cA : Nat → ClassId) (B b L : Nat) (xs : Nat → Int32) (φ : Nat → Nat) (as : List zV) (h : zH) : Array Value → State → Prop := fun a U =>
  a = (as.map (ztr φ)).toArray ∧ zKx D cA U ∧ zRel D cA B b L xs φ h U.heap ∧ va_X b L xs U U.heap ∧ b < B ∧ B ≤ U.heap.size
def zQc (D : va_G) (cA : Nat → ClassId) (B b L : Nat) (xs : Nat → Int32) (φ : Nat → Nat) (h : zH) (r : Option zV) (h' : zH) : Array Value → State → Outcome → State → Prop := fun _ st1 o t =>
  (∃ φ' : Nat → Nat, zext φ φ' (zn h) ∧ o = .returned (zrs φ' r) ∧ zRel D cA B b L xs φ' h' t.heap ∧ ∀ v, r = some v → zok (zn h') v) ∧ va_F (fun q => B ≤ q) st1 t
theorem zargs_mem {φ : Nat → Nat} : ∀ (as : List zV) (k i : Nat) (v : zV), as[i]? = some v → (k + i, ztr φ v) ∈ lv_args k (as.map (ztr φ))
  | [], _, _, _, h => by simp at h
  | w :: t, k, i, v, h => by
    cases i with
    | zero =>
      rw [List.getElem?_cons_zero] at h
      cases h
      exact List.mem_cons_self
    | succ i =>
      rw [List.getElem?_cons_succ] at h
      have := zargs_mem (φ := φ) t (k + 1) i v h
      rw [show k + 1 + i = k + (i + 1) by omega] at this
      rw [List.map_cons]
      simp only [lv_args, ztr_cat]
      exact List.mem_cons_of_mem _ this
theorem zsl_len (φ : Nat → Nat) (as : List zV) : (lg_sl (as.map (ztr φ))).length = as.length := by
  induction as with
  | nil => rfl
  | cons v t ih =>
    simp only [lg_sl, List.map_cons, List.flatMap_cons, List.length_append, List.length_cons] at ih ⊢
    rw [if_neg (by rw [ztr_cat]; decide), ih]
    simp; omega
theorem zlr_ent {φ : Nat → Nat} {as : List zV} {n : Nat} (hn : as.length ≤ zml M) (hok : ∀ v ∈ as, zok n v) : zlr φ n (zml M) ((lg_sl (as.map (ztr φ)) ++ List.replicate (zml M - (lg_sl (as.map (ztr φ))).length) Slot.unset).toArray) (zent M as) := by
  have he := lv_entry (as.map (ztr φ)) (n := zml M) (by rw [zsl_len]; exact hn)
  have key : ∀ (i : Nat) (v : zV), (zent M as)[i]? = some (some v) → as[i]? = some v := by
    intro i v hi
    unfold zent at hi
    by_cases hl : i < as.length
    · rw [List.getElem?_append_left (by simpa using hl), List.getElem?_map] at hi
      cases ha : as[i]? with
      | none => rw [ha] at hi; cases hi
      | some w => rw [ha] at hi; cases hi; rfl
    · rw [List.getElem?_append_right (by simpa using hl), List.getElem?_replicate] at hi
      split at hi <;> cases hi
  refine ⟨by simp [zent]; omega, ⟨he.1, he.2.1, fun q hq => ?_⟩, fun i v hi => hok v (List.mem_of_getElem? (key i v hi))⟩
  obtain ⟨i, v, hi, rfl⟩ := zas_of hq
  have := zargs_mem (φ := φ) as 0 i v (key i v hi)
  rw [Nat.zero_add] at this
  exact he.2.2 _ this
theorem zplain : ∀ M, M < 177 → plainName (zy M).cls = true := by decide +kernel
theorem zcls_ok : ∀ M, M < 177 → (zy M).cls = zon (zown M) ∧ zon (zown M) ∈ zO := by decide +kernel
theorem zmh_ok : ∀ M, M < 177 → (zy M).cls ≠ "java/lang/invoke/MethodHandle" ∧ (zy M).cls ≠ "java/lang/invoke/VarHandle" := by decide +kernel
theorem znp_ok : ∀ M, M < 177 → (parseMethodDescriptor (zy M).desc).map (fun d => d.parameters.length) = some (znp M) := by decide +kernel
theorem zcode_in {M' : Nat} (h1 : 1 ≤ M') (h2 : M' < 177) : Cond.code (zy M') (zby M') (zml M') (zrt M') ∈ zW := by
  have hlen : zmt.length = 177 := rfl
  have hg : zmt[M']? = some zmt[M'] := List.getElem?_eq_getElem (by omega)
  have he : Cond.code (zy M') (zby M') (zml M') (zrt M') = zmtW zmt[M'] := by
    unfold zy zby zml zrt
    rw [hg]
    rfl
  rw [he]
  refine zW_2 (List.mem_map.mpr ⟨_, ?_, rfl⟩)
  have hd : (zmt.drop 1)[M' - 1]? = some zmt[M'] := by rw [List.getElem?_drop, show 1 + (M' - 1) = M' by omega]; exact hg
  exact List.mem_of_getElem? hd
theorem zMet {M' : Nat} {as : List zV} (l : Launch) (φ : Nat → Nat) (IH : zSnd D cA B b L xs M' 0 (zent M' as) [] h r h') (hM : M' < 177) (hok : ∀ v ∈ as, zok (zn h) v) (hn : as.length ≤ zml M') :
    Met l (zy M') (Cond.code (zy M') (zby M') (zml M') (zrt M') :: zW) { frames := zrk M', cells := zn h' - zn h, slots := zs h' - zs h, locals := zlo M' } (zPc D cA B b L xs φ as h) (zQc D cA B b L xs φ h r h') (zn h' - zn h) (zs h' - zs h) (fun q => B ≤ q) := by
  refine Met.ofW (cc := zby M') (maxL := zml M') (ret := zrt M') (zplain M' hM) rfl ?_
  intro p e s m args below meth c s₁ B' hml hv
  obtain ⟨rfl, hK, hR, hX, hbB, hBs⟩ := hv
  have hts := atoms_spec (ws := Cond.code (zy M') (zby M') (zml M') (zrt M') :: zW) B'.pre
  have hown : s.vm.findClass (zy M').cls = some m.cls := findClass_of_methodNamed B'.named
  rw [(zcls_ok M' hM).1] at hown
  have hlocks := B'.notSynchronized
  have hC : zC D cA B b L xs p { frames := zrk M', cells := zn h' - zn h, slots := zs h' - zs h, locals := zlo M' } s m (as.map (ztr φ)).toArray meth c M' :=
    ⟨B'.exec, B'.bytes, B'.returns, hlocks, hml, hown, fun _ => (name_of_methodNamed B'.named B'.method).1, fun w hw => hts w (List.mem_cons_of_mem _ hw), hK, hX, hbB, hBs, Nat.le_refl _, Nat.le_refl _⟩
  rw [lg_entry_eq]
  refine IH p l e _ s m _ below meth c s.heap [] 0 0 _ φ _ hC hR va_S.rf (zlr_ent hn hok) (fun v hv => by cases hv) (by show 0 + (zn h' - zn h) ≤ zn h' - zn h; omega) (by show 0 + (zs h' - zs h) ≤ zs h' - zs h; omega) ?_
  intro φ' H' locs' lsR' pc' he hR' hS' hE
  rw [Nat.zero_add, Nat.zero_add]
  have hfin : ∀ t : State, t.heap = H' → (∀ v, r = some v → zok (zn h') v) → zQc D cA B b L xs φ h r h' (as.map (ztr φ)).toArray s (.returned (zrs φ' r)) t := by
    intro t ht hv
    refine ⟨⟨φ', he, rfl, by rw [ht]; exact hR', hv⟩, hS'.F ht⟩
  rcases hE with ⟨x, rfl, hdec, hx, hrt⟩ | ⟨a, rfl, hdec, ha, C, hrt⟩ | ⟨rfl, hdec, hrt⟩
  · have hvv : ∀ v, some (Sum.inl x : zV) = some v → zok (zn h') v := fun v hv => by cases hv; exact hx
    rcases hrt with hrt | ⟨hrt, hx01⟩
    · exact W.iret B'.exec B'.bytes (B'.returns.trans hrt) (fun t ht _ => hfin t ht hvv) hS'.2.2 hdec
    · refine W.zret B'.exec B'.bytes (B'.returns.trans hrt) ?_ (fun t ht _ => hfin t ht hvv) hS'.2.2 hdec
      rcases hx01 with rfl | rfl
      · decide +kernel
      · decide +kernel
  · have hvv : ∀ v, some (Sum.inr a : zV) = some v → zok (zn h') v := fun v hv => by cases hv; exact ha
    refine W.aret B'.exec B'.bytes (B'.returns.trans hrt) (Or.inl ⟨C, rfl⟩) ?_ (fun t ht _ => hfin t ht hvv) hS'.2.2 hdec
    by_cases h0 : a = 0
    · subst h0; exact Or.inl rfl
    · exact Or.inr ⟨φ' a, ztr_ref φ' h0⟩
  · exact W.vret B'.exec B'.bytes (B'.returns.trans hrt) (fun t ht _ => hfin t ht (fun v hv => by cases hv)) hS'.2.2 hdec
end zCalls
end
section
/-! THE SMALL MACHINE IS SOUND -/
section zSound
variable {D : va_G} {cA : Nat → ClassId} {B b L : Nat} {xs : Nat → Int32} {M pc : Nat} {ls : zL} {st : List zV} {h : zH} {r : Option zV} {h' : zH}
theorem zif_inv {c : Prop} [Decidable c] {k : Option zSR} {o : zSR} (q : zif c k = some o) : c ∧ k = some o := by
  unfold zif at q
  split at q
  · exact ⟨by assumption, q⟩
  · cases q
theorem zopt_inv {α : Type} {a : Option α} {k : α → Option zSR} {o : zSR} (q : zopt a k = some o) : ∃ x, a = some x ∧ k x = some o := by
  cases a with
  | none => cases q
  | some x => exact ⟨x, rfl, q⟩
theorem zjmp_inv {off : Int} {k : Nat → Option zSR} {o : zSR} (q : zjmp pc off k = some o) : 0 ≤ (pc : Int) + off ∧ k ((pc : Int) + off).toNat = some o := by
  unfold zjmp at q
  split at q
  · exact ⟨by assumption, q⟩
  · cases q
theorem zgo_inv {pc2 : Nat} {ls2 : zL} {st2 : List zV} {h2 : zH} {o : zSR} (q : zgo pc2 ls2 st2 h2 = some o) : o = .inl (pc2, ls2, st2, h2) := (Option.some.inj q).symm
theorem zldI_inv {k0 : Nat} {f : Int → Option zSR} {o : zSR} (q : zldI ls k0 f = some o) : ∃ x, ls[k0]? = some (some (.inl x)) ∧ f x = some o := by
  unfold zldI at q
  split at q
  · exact ⟨_, by assumption, q⟩
  · cases q
theorem zldR_inv {k0 : Nat} {f : Nat → Option zSR} {o : zSR} (q : zldR ls k0 f = some o) : ∃ x, ls[k0]? = some (some (.inr x)) ∧ f x = some o := by
  unfold zldR at q
  split at q
  · exact ⟨_, by assumption, q⟩
  · cases q
theorem zb1_inv {k : Int → List zV → Option zSR} {o : zSR} (q : zb1 st k = some o) : ∃ x r, st = .inl x :: r ∧ k x r = some o := by
  unfold zb1 at q
  split at q
  · exact ⟨_, _, rfl, q⟩
  · cases q
theorem zb2_inv {k : Int → Int → List zV → Option zSR} {o : zSR} (q : zb2 st k = some o) : ∃ x y r, st = .inl y :: .inl x :: r ∧ k x y r = some o := by
  unfold zb2 at q
  split at q
  · exact ⟨_, _, _, rfl, q⟩
  · cases q
theorem zr1_inv {k : Nat → List zV → Option zSR} {o : zSR} (q : zr1 st k = some o) : ∃ a r, st = .inr a :: r ∧ k a r = some o := by
  unfold zr1 at q
  split at q
  · exact ⟨_, _, rfl, q⟩
  · cases q
theorem zir1_inv {k : Int → Nat → List zV → Option zSR} {o : zSR} (q : zir1 st k = some o) : ∃ i a r, st = .inl i :: .inr a :: r ∧ k i a r = some o := by
  unfold zir1 at q
  split at q
  · exact ⟨_, _, _, rfl, q⟩
  · cases q
theorem ziir_inv {k : Int → Int → Nat → List zV → Option zSR} {o : zSR} (q : ziir st k = some o) : ∃ x i a r, st = .inl x :: .inl i :: .inr a :: r ∧ k x i a r = some o := by
  unfold ziir at q
  split at q
  · exact ⟨_, _, _, _, rfl, q⟩
  · cases q
theorem zrir_inv {k : Nat → Int → Nat → List zV → Option zSR} {o : zSR} (q : zrir st k = some o) : ∃ v i a r, st = .inr v :: .inl i :: .inr a :: r ∧ k v i a r = some o := by
  unfold zrir at q
  split at q
  · exact ⟨_, _, _, _, rfl, q⟩
  · cases q
theorem zrr_inv {k : Nat → Nat → List zV → Option zSR} {o : zSR} (q : zrr st k = some o) : ∃ v a r, st = .inr v :: .inr a :: r ∧ k v a r = some o := by
  unfold zrr at q
  split at q
  · exact ⟨_, _, _, rfl, q⟩
  · cases q
theorem zv1_inv {k : zV → List zV → Option zSR} {o : zSR} (q : zv1 st k = some o) : ∃ v r, st = v :: r ∧ k v r = some o := by
  unfold zv1 at q
  split at q
  · exact ⟨_, _, rfl, q⟩
  · cases q
theorem zv2_inv {k : zV → zV → List zV → Option zSR} {o : zSR} (q : zv2 st k = some o) : ∃ v w r, st = v :: w :: r ∧ k v w r = some o := by
  unfold zv2 at q
  split at q
  · exact ⟨_, _, _, rfl, q⟩
  · cases q
theorem zS_ireturn {x : Int} (hd : zdec M pc = some .ireturn) (hrt : zrt M = some .int ∨ (zrt M = some .boolean ∧ (x = 0 ∨ x = 1))) : zSnd D cA B b L xs M pc ls [.inl x] h (some (.inl x)) h := by
  intro p l e R s m args below meth c H locs cells slots Q φ lsR hC hR hS hl hst hc hs HR
  have hx : -2147483648 ≤ x ∧ x < 2147483648 := (zst1 hst).1
  have := HR φ H locs lsR pc zext.rf hR hS (Or.inl ⟨x, rfl, zdec_eq hd rfl (by decide), hx, hrt⟩)
  rw [Nat.sub_self, Nat.sub_self] at this
  exact this
theorem zS_areturn {a : Nat} {C : String} (hd : zdec M pc = some .areturn) (hrt : zrt M = some (.object C)) : zSnd D cA B b L xs M pc ls [.inr a] h (some (.inr a)) h := by
  intro p l e R s m args below meth c H locs cells slots Q φ lsR hC hR hS hl hst hc hs HR
  have hx : a < zn h := (zst1 hst).1
  have := HR φ H locs lsR pc zext.rf hR hS (Or.inr (Or.inl ⟨a, rfl, zdec_eq hd rfl (by decide), hx, C, hrt⟩))
  rw [Nat.sub_self, Nat.sub_self] at this
  exact this
theorem zS_return (hd : zdec M pc = some .return_) (hrt : zrt M = none) : zSnd D cA B b L xs M pc ls [] h none h := by
  intro p l e R s m args below meth c H locs cells slots Q φ lsR hC hR hS hl hst hc hs HR
  have := HR φ H locs lsR pc zext.rf hR hS (Or.inr (Or.inr ⟨rfl, zdec_eq hd rfl (by decide), hrt⟩))
  rw [Nat.sub_self, Nat.sub_self] at this
  exact this
theorem zblind {φ : Nat → Nat} {as : List zV} : FrameBlind (zPc D cA B b L xs φ as h) := by
  intro a U g mk q
  obtain ⟨q1, ⟨qk, ⟨qa, qb, qc⟩, qn⟩, q3, q4, q5, q6⟩ := q
  exact ⟨q1, ⟨va_K.moved (u := U) (U := U.calling g mk a) (Vm.Alike.refl U.vm) qk, ⟨va_AO.moved (u := U) (U := U.calling g mk a) (Vm.Alike.refl U.vm) qa, va_AO.moved (u := U) (U := U.calling g mk a) (Vm.Alike.refl U.vm) qb, va_AO.moved (u := U) (U := U.calling g mk a) (Vm.Alike.refl U.vm) qc⟩, fun e he h1 => va_tabs rfl (rfl : U.vm = (U.calling g mk a).vm) (qn e he h1)⟩, q3, va_X.moved (u := U) (U := U.calling g mk a) (Vm.Alike.refl U.vm) q4, q5, q6⟩
theorem zwarm {args : Array Value} {s : State} {M' : Nat} (h1 : 1 ≤ M') (h2 : M' < 177) (hts : ∀ w ∈ zW, w.before args s = true) : ∀ w ∈ Cond.code (zy M') (zby M') (zml M') (zrt M') :: zW, ∀ (a' : Array Value) (U : State), s.WarmedH U.vm → w.before a' U = true := by
  intro w hw a' U hW
  have hw2 : w ∈ zW := by
    rcases List.mem_cons.mp hw with rfl | hw
    · exact zcode_in h1 h2
    · exact hw
  exact word_at hW (good_of_word (List.all_eq_true.mp zW_good w hw2)) (hts w hw2)
theorem zlen_ok {M' : Nat} (h2 : M' < 177) : ∀ sig, parseMethodDescriptor (zy M').desc = some sig → znp M' = sig.parameters.length := by
  intro sig hs
  have := znp_ok M' h2
  rw [hs] at this
  exact (Option.some.inj this).symm
theorem zini {args : Array Value} {s : State} {M' : Nat} (h2 : M' < 177) (hts : ∀ w ∈ zW, w.before args s = true) : (Cond.initialized (zy M').cls).before args s = true := by
  refine hts _ (zW_1 (List.mem_map.mpr ⟨(zy M').cls, ?_, rfl⟩))
  rw [(zcls_ok M' h2).1]
  exact (zcls_ok M' h2).2
/-- what every call needs, and what comes behind it -/
theorem zS_callG {as rest : List zV} {r1 : Option zV} {h1 : zH} (m1 : zn h ≤ zn h1) (m2 : zn h1 ≤ zn h') (m3 : zs h ≤ zs h1) (m4 : zs h1 ≤ zs h') (hst0 : st = as.reverse ++ rest)
    (k : zSnd D cA B b L xs M (pc + 3) ls (r1.toList ++ rest) h1 r h')
    (g : ∀ (p : Program) (l : Launch) (e : Env) (R : Room) (s : State) (m : MethodId) (args : Array Value) (below : List Frame) (meth : Method) (c : Code) (H : Heap) (locs : List Loc) (cells slots : Nat) (φ : Nat → Nat) (lsR : Array Slot),
      zC D cA B b L xs p R s m args meth c M → zRel D cA B b L xs φ h H → lsR.size = zml M → (∀ v ∈ as, zok (zn h) v) → (∀ U : State, U.heap = H → s.WarmedH U.vm → zPc D cA B b L xs φ as h (as.map (ztr φ)).toArray U) →
      cells + (zn h1 - zn h) ≤ R.cells ∧ slots + (zs h1 - zs h) ≤ R.slots →
      va_Run p l e R s m args below meth c H locs cells slots (zn h1 - zn h) (zs h1 - zs h) (F0 m pc lsR (st.map (ztr φ))) (rest.map (ztr φ)) (zQc D cA B b L xs φ h r1 h1 (as.map (ztr φ)).toArray) (fun q => B ≤ q)) : zSnd D cA B b L xs M pc ls st h r h' := by
  refine zSnd.gen k m1 m2 m3 m4 ?_
  intro p l e R s m args below meth c H locs cells slots Q φ lsR hC hR hS hl hst hcs hss kk
  have hC0 := hC
  obtain ⟨hx, hb, -, -, hml, hown, -, hts, hK, hX, hbB, hBs, hfr, hlc⟩ := hC
  have hokA : ∀ v ∈ as, zok (zn h) v := fun v hv => hst v (by rw [hst0]; exact List.mem_append_left _ (List.mem_reverse.mpr hv))
  have hokR : ∀ v ∈ rest, zok (zn h) v := fun v hv => hst v (by rw [hst0]; exact List.mem_append_right _ hv)
  have hpre : ∀ U : State, U.heap = H → s.WarmedH U.vm → zPc D cA B b L xs φ as h (as.map (ztr φ)).toArray U := by
    intro U hU hW
    have hXH : va_X b L xs s H := hX.kept (hS.2.1 b (Nat.lt_of_lt_of_le hbB hBs) (Nat.not_le.mpr hbB))
    exact ⟨rfl, hK.moved hW, by rw [hU]; exact hR, by rw [hU]; exact hXH.moved hW.alike, hbB, by rw [hU]; exact Nat.le_trans hBs hS.1⟩
  have hrun := g p l e R s m args below meth c H locs cells slots φ lsR hC0 hR hl.2.1.1 hokA hpre ⟨hcs, hss⟩
  refine z_call (X := fun v t => ∃ φ' : Nat → Nat, zext φ φ' (zn h) ∧ v = zrs φ' r1 ∧ zRel D cA B b L xs φ' h1 t.heap ∧ ∀ w, r1 = some w → zok (zn h1) w) hrun hS ?_ ?_
  · intro st1 v t hq
    obtain ⟨⟨φ', q1, q2, q3, q4⟩, q5⟩ := hq
    cases q2
    exact ⟨⟨φ', q1, rfl, q3, q4⟩, q5⟩
  · intro v t locs1 hX1 hS1
    obtain ⟨φ', he, rfl, hR1, hok1⟩ := hX1
    have hkk := kk φ' t.heap locs1 lsR he hR1 hS1 (hl.ext he m1) (by
      intro w hw
      rcases List.mem_append.mp hw with hw | hw
      · exact hok1 w (by simpa using hw)
      · exact (hokR w hw).mono m1)
    have e1 : (r1.toList ++ rest).map (ztr φ') = (zrs φ' r1).toList ++ rest.map (ztr φ) := by
      rw [List.map_append, zst_ext he hokR]
      cases r1 <;> rfl
    rw [e1] at hkk
    exact hkk
theorem zS_static {ix M' : Nat} {as rest : List zV} {r1 : Option zV} {h1 : zH} (hd : zdec M pc = some (.invokestatic ix)) (hq : zlk2 zcm (zown M) ix = some (0, M') ∨ zlk2 zcm (zown M) ix = some (1, M')) (hst0 : st = as.reverse ++ rest) (hn : as.length = znp M') (hr8 : rest.length ≤ 8) (hrk : zrk M' + 1 ≤ zrk M) (hlo : 19 + zml M' + zlo M' ≤ zlo M) (hnl : as.length ≤ zml M') (hM1 : 1 ≤ M') (hM2 : M' < 177)
    (m1 : zn h ≤ zn h1) (m2 : zn h1 ≤ zn h') (m3 : zs h ≤ zs h1) (m4 : zs h1 ≤ zs h') (IH : zSnd D cA B b L xs M' 0 (zent M' as) [] h r1 h1) (k : zSnd D cA B b L xs M (pc + 3) ls (r1.toList ++ rest) h1 r h') : zSnd D cA B b L xs M pc ls st h r h' := by
  refine zS_callG m1 m2 m3 m4 hst0 k ?_
  intro p l e R s m args below meth c H locs cells slots φ lsR hC hR hsz hokA hpre hroom
  obtain ⟨hx, hb, -, -, hml, hown, -, hts, hK, hX, hbB, hBs, hfr, hlc⟩ := hC
  have hM := zMet l φ IH hM2 hokA hnl
  have hstk : (F0 m pc lsR (st.map (ztr φ))).stack = (as.map (ztr φ)).reverse ++ rest.map (ztr φ) := by
    show st.map (ztr φ) = _
    rw [hst0, List.map_append, List.map_reverse]
  have hw8 : 2 * (F0 m pc lsR (st.map (ztr φ))).monitorRoom + ((rest.map (ztr φ)).map fun v => v.category).sum ≤ 8 := by
    rw [zcats]; show 2 * 0 + rest.length ≤ 8; omega
  have hbase : (zn h1 - zn h = zn h1 - zn h) ∧ (zs h1 - zs h = zs h1 - zs h) ∧ zrk M' + 1 ≤ R.frames ∧ 8 + (zml M' + 11) + zlo M' ≤ R.locals := ⟨rfl, rfl, by omega, by omega⟩
  rcases hq with hq | hq
  · have hsub : ∀ w ∈ zcmW (zown M, ix, 0, M'), w ∈ zW := fun w hw => zW_4 (List.mem_flatMap.mpr ⟨_, zlk2_mem hq, hw⟩)
    have hlink : Cond.methodLink (zon (zown M)) ix (zy M') ∈ zW := hsub _ List.mem_cons_self
    have hsta : Cond.static (zy M') ∈ zW := hsub _ (List.mem_cons_of_mem _ List.mem_cons_self)
    exact va_runS (As := as.map (ztr φ)) (rest := rest.map (ztr φ)) (index := ix) (n := znp M') (nL := zml M) (Ts := zW) (own := zon (zown M)) (bytes := zby M') (maxL := zml M') (ret := zrt M') ⟨hx, hb, hml, hown, hts⟩ hM
      ⟨⟨rfl, rfl, hbase.2.2.1, hbase.2.2.2, zwarm hM1 hM2 hts, List.mem_cons_self, hts _ (zcode_in hM1 hM2), zini hM2 hts, zmh_ok M' hM2, zlen_ok hM2, hts _ hlink⟩, hts _ hsta⟩ ⟨zblind, hpre⟩ rfl (by rw [List.length_map]; exact hn) hsz hstk hw8 (zdec_eq hd rfl (by decide)) hroom
  · have hsub : ∀ w ∈ zcmW (zown M, ix, 1, M'), w ∈ zW := fun w hw => zW_4 (List.mem_flatMap.mpr ⟨_, zlk2_mem hq, hw⟩)
    have hsta : Cond.static (zy M') ∈ zW := hsub _ List.mem_cons_self
    have hnest : va_Nw (.methodLinkNest (zon (zown M)) ix (zy M') "FarTypewriter") s := hK.2.2 (zown M, ix, 1, M') (zlk2_mem hq) rfl
    exact va_runSN (As := as.map (ztr φ)) (rest := rest.map (ztr φ)) (index := ix) (n := znp M') (nL := zml M) (Ts := zW) (own := zon (zown M)) (host := "FarTypewriter") (bytes := zby M') (maxL := zml M') (ret := zrt M') ⟨hx, hb, hml, hown, hts⟩ hM
      ⟨⟨⟨rfl, rfl, hbase.2.2.1, hbase.2.2.2, zwarm hM1 hM2 hts, List.mem_cons_self⟩, hts _ (zcode_in hM1 hM2), zini hM2 hts, zmh_ok M' hM2, zlen_ok hM2, va_Nw.use rfl hnest⟩, hts _ hsta, trivial⟩ ⟨zblind, hpre⟩ rfl (by rw [List.length_map]; exact hn) hsz hstk hw8 (zdec_eq hd rfl (by decide)) hroom
theorem zS_virtual {ix M' a : Nat} {as rest : List zV} {r1 : Option zV} {h1 : zH} (hd : zdec M pc = some (.invokevirtual ix)) (hq : zlk2 zcm (zown M) ix = some (2, M')) (hst0 : st = (.inr a :: as).reverse ++ rest) (hn : as.length = znp M') (hr8 : rest.length ≤ 8) (hrk : zrk M' + 1 ≤ zrk M) (hlo : 19 + zml M' + zlo M' ≤ zlo M) (hnl : as.length + 1 ≤ zml M') (hM1 : 1 ≤ M') (hM2 : M' < 177) (hk : (zK h a).1 = 10 + zown M') (ho : zown M' < 11)
    (m1 : zn h ≤ zn h1) (m2 : zn h1 ≤ zn h') (m3 : zs h ≤ zs h1) (m4 : zs h1 ≤ zs h') (IH : zSnd D cA B b L xs M' 0 (zent M' (.inr a :: as)) [] h r1 h1) (k : zSnd D cA B b L xs M (pc + 3) ls (r1.toList ++ rest) h1 r h') : zSnd D cA B b L xs M pc ls st h r h' := by
  refine zS_callG m1 m2 m3 m4 hst0 k ?_
  intro p l e R s m args below meth c H locs cells slots φ lsR hC hR hsz hokA hpre hroom
  obtain ⟨hx, hb, -, -, hml, hown, -, hts, hK, hX, hbB, hBs, hfr, hlc⟩ := hC
  have hM := zMet l φ IH hM2 hokA hnl
  obtain ⟨hP, hD, hw, hf1, hK1, hsc⟩ := hR
  obtain ⟨a2, an⟩ := hw.own hK1 (a := a) (by omega)
  have e0 : ((.inr a :: as : List zV).map (ztr φ)) = .ref (φ a) :: as.map (ztr φ) := by rw [List.map_cons, ztr_ref φ (by omega)]
  have hstk : (F0 m pc lsR (st.map (ztr φ))).stack = (as.map (ztr φ)).reverse ++ .ref (φ a) :: rest.map (ztr φ) := by
    show st.map (ztr φ) = _
    rw [hst0, List.map_append, List.map_reverse, e0, List.reverse_cons, List.append_assoc]
    rfl
  have hw8 : 2 * (F0 m pc lsR (st.map (ztr φ))).monitorRoom + ((rest.map (ztr φ)).map fun v => v.category).sum ≤ 8 := by
    rw [zcats]; show 2 * 0 + rest.length ≤ 8; omega
  have hsub : ∀ w ∈ zcmW (zown M, ix, 2, M'), w ∈ zW := fun w hw => zW_4 (List.mem_flatMap.mpr ⟨_, zlk2_mem hq, hw⟩)
  have hlink : Cond.methodLink (zon (zown M)) ix (zy M') ∈ zW := hsub _ List.mem_cons_self
  have hins : Cond.instanceMethod (zy M') ∈ zW := hsub _ (List.mem_cons_of_mem _ List.mem_cons_self)
  have hsel : Cond.selects (zy M').cls (zy M') (zy M') ∈ zW := hsub _ (List.mem_cons_of_mem _ (List.mem_cons_of_mem _ List.mem_cons_self))
  have hrecv := va_recv hK.1 hP (zcl_at ho) (q0 := a - 2) (a := φ a) (by rw [zws_get a2 an, zce_obj hk])
  have hcn : (zcw (zown M')).1 = (zy M').cls := by
    have g : ∀ c, c < 11 → (zcw c).1 = zon c := by decide +kernel
    rw [g _ ho, (zcls_ok M' hM2).1]
  rw [hcn] at hrecv
  rw [e0] at hpre ⊢
  exact va_runV (As := as.map (ztr φ)) (rest := rest.map (ztr φ)) (index := ix) (n := znp M') (nL := zml M) (Ts := zW) (own := zon (zown M)) (C := (zy M').cls) (b := φ a) (bytes := zby M') (maxL := zml M') (ret := zrt M') ⟨hx, hb, hml, hown, hts⟩ hM
    ⟨⟨rfl, rfl, Nat.le_trans hrk hfr, (by show 8 + (zml M' + 11) + zlo M' ≤ R.locals; omega), zwarm hM1 hM2 hts, List.mem_cons_self, hts _ (zcode_in hM1 hM2), zini hM2 hts, zmh_ok M' hM2, zlen_ok hM2, hts _ hlink⟩, hts _ hins, hts _ hsel⟩ ⟨zblind, hrecv, hpre⟩ rfl (by rw [List.length_map]; exact hn) hsz hstk hw8 (zdec_eq hd rfl (by decide)) hroom
theorem zret_init : ∀ e ∈ zcm, e.2.2.1 = 3 → (zy e.2.2.2).name = "<init>" ∧ zrt e.2.2.2 = none := by decide +kernel
theorem zS_special {ix M' a : Nat} {as rest : List zV} {r1 : Option zV} {h1 : zH} (hd : zdec M pc = some (.invokespecial ix)) (hq : zlk2 zcm (zown M) ix = some (3, M')) (hst0 : st = (.inr a :: as).reverse ++ rest) (hn : as.length = znp M') (hr8 : rest.length ≤ 8) (hrk : zrk M' + 1 ≤ zrk M) (hlo : 19 + zml M' + zlo M' ≤ zlo M) (hnl : as.length + 1 ≤ zml M') (hM1 : 1 ≤ M') (hM2 : M' < 177) (ha0 : a ≠ 0)
    (m1 : zn h ≤ zn h1) (m2 : zn h1 ≤ zn h') (m3 : zs h ≤ zs h1) (m4 : zs h1 ≤ zs h') (IH : zSnd D cA B b L xs M' 0 (zent M' (.inr a :: as)) [] h r1 h1) (k : zSnd D cA B b L xs M (pc + 3) ls (r1.toList ++ rest) h1 r h') : zSnd D cA B b L xs M pc ls st h r h' := by
  refine zS_callG m1 m2 m3 m4 hst0 k ?_
  intro p l e R s m args below meth c H locs cells slots φ lsR hC hR hsz hokA hpre hroom
  obtain ⟨hx, hb, -, -, hml, hown, -, hts, hK, hX, hbB, hBs, hfr, hlc⟩ := hC
  have hM := zMet l φ IH hM2 hokA hnl
  have e0 : ((.inr a :: as : List zV).map (ztr φ)) = .ref (φ a) :: as.map (ztr φ) := by rw [List.map_cons, ztr_ref φ ha0]
  have hstk : (F0 m pc lsR (st.map (ztr φ))).stack = (as.map (ztr φ)).reverse ++ .ref (φ a) :: rest.map (ztr φ) := by
    show st.map (ztr φ) = _
    rw [hst0, List.map_append, List.map_reverse, e0, List.reverse_cons, List.append_assoc]
    rfl
  have hw8 : 2 * (F0 m pc lsR (st.map (ztr φ))).monitorRoom + ((rest.map (ztr φ)).map fun v => v.category).sum ≤ 8 := by
    rw [zcats]; show 2 * 0 + rest.length ≤ 8; omega
  have hsub : ∀ w ∈ zcmW (zown M, ix, 3, M'), w ∈ zW := fun w hw => zW_4 (List.mem_flatMap.mpr ⟨_, zlk2_mem hq, hw⟩)
  have hlink : Cond.methodLink (zon (zown M)) ix (zy M') ∈ zW := hsub _ List.mem_cons_self
  have hins : Cond.instanceMethod (zy M') ∈ zW := hsub _ (List.mem_cons_of_mem _ List.mem_cons_self)
  obtain ⟨hnm, hrn⟩ : (zy M').name = "<init>" ∧ zrt M' = none := zret_init _ (zlk2_mem hq) rfl
  have hcod := zcode_in hM1 hM2
  have hwarm := zwarm (M' := M') hM1 hM2 hts
  rw [hrn] at hM hcod hwarm
  rw [e0] at hpre ⊢
  exact va_runI (As := as.map (ztr φ)) (rest := rest.map (ztr φ)) (index := ix) (n := znp M') (nL := zml M) (Ts := zW) (own := zon (zown M)) (b := φ a) (bytes := zby M') (maxL := zml M') ⟨hx, hb, hml, hown, hts⟩ hM
    ⟨⟨rfl, rfl, Nat.le_trans hrk hfr, (by show 8 + (zml M' + 11) + zlo M' ≤ R.locals; omega), hwarm, List.mem_cons_self, hts _ hcod, zini hM2 hts, zmh_ok M' hM2, zlen_ok hM2, hts _ hlink⟩, hnm, hts _ hins⟩ ⟨zblind, hpre⟩ rfl (by rw [List.length_map]; exact hn) hsz hstk hw8 (zdec_eq hd rfl (by decide)) hroom
end zSound
end
section
/-! THE SMALL MACHINE IS SOUND: where it comes to an end, the machine comes to the same -/
section zMain
variable {D : va_G} {cA : Nat → ClassId} {B b L : Nat} {xs : Nat → Int32} {M pc : Nat} {ls : zL} {st : List zV} {h : zH}
/-- what a step says: a move (the ways on carry back), an end, or a call -/
def zOk (D : va_G) (cA : Nat → ClassId) (B b L : Nat) (xs : Nat → Int32) (M pc : Nat) (ls : zL) (st : List zV) (h : zH) (o : zSR) : Prop := match o with
  | .inl q => (zn h ≤ zn q.2.2.2 ∧ zs h ≤ zs q.2.2.2) ∧ ∀ r h', zn q.2.2.2 ≤ zn h' → zs q.2.2.2 ≤ zs h' → zSnd D cA B b L xs M q.1 q.2.1 q.2.2.1 q.2.2.2 r h' → zSnd D cA B b L xs M pc ls st h r h'
  | .inr (.inl r) => zSnd D cA B b L xs M pc ls st h r h
  | .inr (.inr q) => ∀ r1 h1 r h', zn h ≤ zn h1 → zn h1 ≤ zn h' → zs h ≤ zs h1 → zs h1 ≤ zs h' → zSnd D cA B b L xs q.1 0 (zent q.1 q.2.1) [] h r1 h1 → zSnd D cA B b L xs M (pc + 3) ls (r1.toList ++ q.2.2) h1 r h' → zSnd D cA B b L xs M pc ls st h r h'
theorem zOk.mv {pc2 : Nat} {ls2 : zL} {st2 : List zV} {o : zSR} (q : zgo pc2 ls2 st2 h = some o) (k : ∀ r h', zn h ≤ zn h' → zs h ≤ zs h' → zSnd D cA B b L xs M pc2 ls2 st2 h r h' → zSnd D cA B b L xs M pc ls st h r h') : zOk D cA B b L xs M pc ls st h o := by
  rw [zgo_inv q]
  exact ⟨⟨Nat.le_refl _, Nat.le_refl _⟩, k⟩
theorem zOk.wr {pc2 : Nat} {ls2 : zL} {st2 : List zV} {h2 : zH} {o : zSR} (q : zgo pc2 ls2 st2 h2 = some o) (m1 : zn h ≤ zn h2) (m2 : zs h ≤ zs h2) (k : ∀ r h', zn h2 ≤ zn h' → zs h2 ≤ zs h' → zSnd D cA B b L xs M pc2 ls2 st2 h2 r h' → zSnd D cA B b L xs M pc ls st h r h') : zOk D cA B b L xs M pc ls st h o := by
  rw [zgo_inv q]
  exact ⟨⟨m1, m2⟩, k⟩
theorem zOk.br {P : Prop} [Decidable P] {p1 p2 : Nat} {st2 : List zV} {o : zSR} (q : (if P then zgo p1 ls st2 h else zgo p2 ls st2 h) = some o) (k : ∀ r h', (if P then zSnd D cA B b L xs M p1 ls st2 h r h' else zSnd D cA B b L xs M p2 ls st2 h r h') → zSnd D cA B b L xs M pc ls st h r h') : zOk D cA B b L xs M pc ls st h o := by
  by_cases hP : P
  · rw [if_pos hP] at q
    exact zOk.mv q (fun r h' _ _ kk => k r h' (by rw [if_pos hP]; exact kk))
  · rw [if_neg hP] at q
    exact zOk.mv q (fun r h' _ _ kk => k r h' (by rw [if_neg hP]; exact kk))
theorem zcall_inv {M1 n : Nat} {ok : List zV → Bool} {o : zSR} (q : zcall M M1 n st ok = some o) : ∃ as rest, o = .inr (.inr (M1, as, rest)) ∧ st = as.reverse ++ rest ∧ as.length = n ∧ rest.length ≤ 8 ∧ zrk M1 + 1 ≤ zrk M ∧ 19 + zml M1 + zlo M1 ≤ zlo M ∧ n ≤ zml M1 ∧ 1 ≤ M1 ∧ M1 < 177 ∧ ok as = true := by
  obtain ⟨⟨h1, h2, h3, h4, h5, h6, h7, h8⟩, h9⟩ := zif_inv q
  refine ⟨(st.take n).reverse, st.drop n, (Option.some.inj h9).symm, ?_, ?_, h2, h3, h4, h5, h6, h7, h8⟩
  · rw [List.reverse_reverse, List.take_append_drop]
  · rw [List.length_reverse, List.length_take]; omega
set_option maxHeartbeats 4000000 in
theorem zstep_ok {i : Instr} {o : zSR} (hd : zdec M pc = some i) (hs : zstep M i pc ls st h = some o) : zOk D cA B b L xs M pc ls st h o := by
  cases i with
  | iconst n =>
    obtain ⟨hn, q⟩ := zif_inv hs
    exact zOk.mv q (fun r h' _ _ k => zS_iconst hd hn k)
  | bipush n =>
    obtain ⟨hn, q⟩ := zif_inv hs
    exact zOk.mv q (fun r h' _ _ k => zS_bipush hd hn k)
  | sipush n =>
    obtain ⟨hn, q⟩ := zif_inv hs
    exact zOk.mv q (fun r h' _ _ k => zS_sipush hd hn k)
  | ldc ix =>
    obtain ⟨v, hv, q⟩ := zopt_inv hs
    obtain ⟨hn, q⟩ := zif_inv q
    exact zOk.mv q (fun r h' _ _ k => zS_ldc hd hv hn k)
  | aconst_null => exact zOk.mv hs (fun r h' _ _ k => zS_null hd k)
  | iload k0 =>
    obtain ⟨x, hv, q⟩ := zldI_inv hs
    exact zOk.mv q (fun r h' _ _ k => zS_iload hd hv k)
  | iload_n k0 =>
    obtain ⟨x, hv, q⟩ := zldI_inv hs
    exact zOk.mv q (fun r h' _ _ k => zS_iload_n hd hv k)
  | aload k0 =>
    obtain ⟨x, hv, q⟩ := zldR_inv hs
    exact zOk.mv q (fun r h' _ _ k => zS_aload hd hv k)
  | aload_n k0 =>
    obtain ⟨x, hv, q⟩ := zldR_inv hs
    exact zOk.mv q (fun r h' _ _ k => zS_aload_n hd hv k)
  | istore k0 =>
    obtain ⟨x, t, rfl, q⟩ := zb1_inv hs
    obtain ⟨hk, q⟩ := zif_inv q
    exact zOk.mv q (fun r h' _ _ k => zS_istore hd hk k)
  | istore_n k0 =>
    obtain ⟨x, t, rfl, q⟩ := zb1_inv hs
    obtain ⟨hk, q⟩ := zif_inv q
    exact zOk.mv q (fun r h' _ _ k => zS_istore_n hd hk k)
  | astore k0 =>
    obtain ⟨x, t, rfl, q⟩ := zr1_inv hs
    obtain ⟨hk, q⟩ := zif_inv q
    exact zOk.mv q (fun r h' _ _ k => zS_astore hd hk k)
  | astore_n k0 =>
    obtain ⟨x, t, rfl, q⟩ := zr1_inv hs
    obtain ⟨hk, q⟩ := zif_inv q
    exact zOk.mv q (fun r h' _ _ k => zS_astore_n hd hk k)
  | iinc k0 n =>
    obtain ⟨x, hv, q⟩ := zldI_inv hs
    exact zOk.mv q (fun r h' _ _ k => zS_iinc hd hv k)
  | iadd =>
    obtain ⟨x, y, t, rfl, q⟩ := zb2_inv hs
    exact zOk.mv q (fun r h' _ _ k => zS_iadd hd k)
  | isub =>
    obtain ⟨x, y, t, rfl, q⟩ := zb2_inv hs
    exact zOk.mv q (fun r h' _ _ k => zS_isub hd k)
  | imul =>
    obtain ⟨x, y, t, rfl, q⟩ := zb2_inv hs
    exact zOk.mv q (fun r h' _ _ k => zS_imul hd k)
  | iand =>
    obtain ⟨x, y, t, rfl, q⟩ := zb2_inv hs
    exact zOk.mv q (fun r h' _ _ k => zS_iand hd k)
  | ixor =>
    obtain ⟨x, y, t, rfl, q⟩ := zb2_inv hs
    exact zOk.mv q (fun r h' _ _ k => zS_ixor hd k)
  | ishr =>
    obtain ⟨x, y, t, rfl, q⟩ := zb2_inv hs
    exact zOk.mv q (fun r h' _ _ k => zS_ishr hd k)
  | idiv =>
    obtain ⟨x, y, t, rfl, q⟩ := zb2_inv hs
    obtain ⟨h0, q⟩ := zif_inv q
    exact zOk.mv q (fun r h' _ _ k => zS_idiv hd h0 k)
  | irem =>
    obtain ⟨x, y, t, rfl, q⟩ := zb2_inv hs
    obtain ⟨h0, q⟩ := zif_inv q
    exact zOk.mv q (fun r h' _ _ k => zS_irem hd h0 k)
  | dup =>
    obtain ⟨v, t, rfl, q⟩ := zv1_inv hs
    exact zOk.mv q (fun r h' _ _ k => zS_dup hd k)
  | dup2 =>
    obtain ⟨v, w, t, rfl, q⟩ := zv2_inv hs
    exact zOk.mv q (fun r h' _ _ k => zS_dup2 hd k)
  | pop =>
    obtain ⟨v, t, rfl, q⟩ := zv1_inv hs
    exact zOk.mv q (fun r h' _ _ k => zS_pop hd k)
  | goto off =>
    have hs : zjmp pc off (fun t => zgo t ls st h) = some o := hs
    obtain ⟨h0, q⟩ := zjmp_inv hs
    exact zOk.mv q (fun r h' _ _ k => zS_goto hd h0 k)
  | ifCond cd off =>
    cases cd with
    | eq =>
      obtain ⟨x, t, rfl, q⟩ := zb1_inv hs
      obtain ⟨h0, q⟩ := zjmp_inv q
      exact zOk.br q (fun r h' k => zS_if_eq hd h0 k)
    | ne =>
      obtain ⟨x, t, rfl, q⟩ := zb1_inv hs
      obtain ⟨h0, q⟩ := zjmp_inv q
      exact zOk.br q (fun r h' k => zS_if_ne hd h0 k)
    | lt =>
      obtain ⟨x, t, rfl, q⟩ := zb1_inv hs
      obtain ⟨h0, q⟩ := zjmp_inv q
      exact zOk.br q (fun r h' k => zS_if_lt hd h0 k)
    | ge =>
      obtain ⟨x, t, rfl, q⟩ := zb1_inv hs
      obtain ⟨h0, q⟩ := zjmp_inv q
      exact zOk.br q (fun r h' k => zS_if_ge hd h0 k)
    | gt =>
      obtain ⟨x, t, rfl, q⟩ := zb1_inv hs
      obtain ⟨h0, q⟩ := zjmp_inv q
      exact zOk.br q (fun r h' k => zS_if_gt hd h0 k)
    | le =>
      obtain ⟨x, t, rfl, q⟩ := zb1_inv hs
      obtain ⟨h0, q⟩ := zjmp_inv q
      exact zOk.br q (fun r h' k => zS_if_le hd h0 k)
  | if_icmp cd off =>
    cases cd with
    | eq =>
      obtain ⟨x, y, t, rfl, q⟩ := zb2_inv hs
      obtain ⟨h0, q⟩ := zjmp_inv q
      exact zOk.br q (fun r h' k => zS_icmp_eq hd h0 k)
    | ne =>
      obtain ⟨x, y, t, rfl, q⟩ := zb2_inv hs
      obtain ⟨h0, q⟩ := zjmp_inv q
      exact zOk.br q (fun r h' k => zS_icmp_ne hd h0 k)
    | lt =>
      obtain ⟨x, y, t, rfl, q⟩ := zb2_inv hs
      obtain ⟨h0, q⟩ := zjmp_inv q
      exact zOk.br q (fun r h' k => zS_icmp_lt hd h0 k)
    | ge =>
      obtain ⟨x, y, t, rfl, q⟩ := zb2_inv hs
      obtain ⟨h0, q⟩ := zjmp_inv q
      exact zOk.br q (fun r h' k => zS_icmp_ge hd h0 k)
    | gt =>
      obtain ⟨x, y, t, rfl, q⟩ := zb2_inv hs
      obtain ⟨h0, q⟩ := zjmp_inv q
      exact zOk.br q (fun r h' k => zS_icmp_gt hd h0 k)
    | le =>
      obtain ⟨x, y, t, rfl, q⟩ := zb2_inv hs
      obtain ⟨h0, q⟩ := zjmp_inv q
      exact zOk.br q (fun r h' k => zS_icmp_le hd h0 k)
  | ifnull off =>
    obtain ⟨a, t, rfl, q⟩ := zr1_inv hs
    obtain ⟨h0, q⟩ := zjmp_inv q
    exact zOk.br q (fun r h' k => zS_ifnull hd h0 k)
  | ifnonnull off =>
    obtain ⟨a, t, rfl, q⟩ := zr1_inv hs
    obtain ⟨h0, q⟩ := zjmp_inv q
    exact zOk.br q (fun r h' k => zS_ifnonnull hd h0 k)
  | tableswitch d lo hi offs =>
    obtain ⟨x, t, rfl, q⟩ := zb1_inv hs
    by_cases hx : x < lo ∨ hi < x
    · rw [if_pos hx] at q
      obtain ⟨h0, q⟩ := zjmp_inv q
      exact zOk.mv q (fun r h' _ _ k => zS_tableOut hd hx h0 k)
    · rw [if_neg hx] at q
      obtain ⟨off, ho, q⟩ := zopt_inv q
      obtain ⟨h0, q⟩ := zjmp_inv q
      exact zOk.mv q (fun r h' _ _ k => zS_tableIn hd hx ho h0 k)
  | getfield ix =>
    obtain ⟨w, hw, q⟩ := zopt_inv hs
    obtain ⟨a, t, rfl, q⟩ := zr1_inv q
    obtain ⟨hk, q⟩ := zif_inv q
    exact zOk.mv q (fun r h' _ _ k => zS_getfield hd hw hk k)
  | putfield ix =>
    obtain ⟨w, hw, q⟩ := zopt_inv hs
    obtain ⟨hf, q⟩ := zif_inv q
    by_cases hz : zir w.1 w.2 = true
    · rw [if_pos hz] at q
      obtain ⟨v, a, t, rfl, q⟩ := zrr_inv q
      obtain ⟨hk, q⟩ := zif_inv q
      exact zOk.wr q (Nat.le_refl _) (Nat.le_refl _) (fun r h' m2 m4 k => zS_putR hd hw hf hz hk m2 m4 k)
    · rw [if_neg hz] at q
      obtain ⟨x, a, t, rfl, q⟩ := zir1_inv q
      obtain ⟨⟨hk, h01⟩, q⟩ := zif_inv q
      exact zOk.wr q (Nat.le_refl _) (Nat.le_refl _) (fun r h' m2 m4 k => zS_putI hd hw hf hz hk h01 m2 m4 k)
  | iaload =>
    obtain ⟨i, a, t, rfl, q⟩ := zir1_inv hs
    obtain ⟨⟨hk, h0, hi⟩, q⟩ := zif_inv q
    exact zOk.mv q (fun r h' _ _ k => zS_iaload hd hk h0 hi k)
  | iastore =>
    obtain ⟨x, i, a, t, rfl, q⟩ := ziir_inv hs
    obtain ⟨⟨hk, h0, hi⟩, q⟩ := zif_inv q
    exact zOk.wr q (Nat.le_refl _) (Nat.le_refl _) (fun r h' m2 m4 k => zS_iastore hd hk h0 hi m2 m4 k)
  | aaload =>
    obtain ⟨i, a, t, rfl, q⟩ := zir1_inv hs
    obtain ⟨⟨hk, h0, hi⟩, q⟩ := zif_inv q
    exact zOk.mv q (fun r h' _ _ k => zS_aaload hd hk h0 hi k)
  | aastore =>
    obtain ⟨v, i, a, t, rfl, q⟩ := zrir_inv hs
    obtain ⟨⟨hk, hv, h0, hi⟩, q⟩ := zif_inv q
    exact zOk.wr q (Nat.le_refl _) (Nat.le_refl _) (fun r h' m2 m4 k => zS_aastore hd hk hv h0 hi m2 m4 k)
  | arraylength =>
    obtain ⟨a, t, rfl, q⟩ := zr1_inv hs
    obtain ⟨hk, q⟩ := zif_inv q
    exact zOk.mv q (fun r h' _ _ k => zS_alen hd hk k)
  | newarray ty =>
    cases ty with
    | int =>
      obtain ⟨n, t, rfl, q⟩ := zb1_inv hs
      obtain ⟨⟨h0, hn⟩, q⟩ := zif_inv q
      exact zOk.wr q (Nat.le_succ _) (Nat.le_add_right _ _) (fun r h' m2 m4 k => zS_newarray hd h0 hn m2 m4 k)
    | _ => exact nomatch (show (none : Option zSR) = some o from hs)
  | anewarray ix =>
    obtain ⟨c, hc, q⟩ := zopt_inv hs
    obtain ⟨n, t, rfl, q⟩ := zb1_inv q
    obtain ⟨⟨hc0, h0, hn⟩, q⟩ := zif_inv q
    exact zOk.wr q (Nat.le_succ _) (Nat.le_add_right _ _) (fun r h' m2 m4 k => zS_anewarray hd hc hc0 h0 hn m2 m4 k)
  | new ix =>
    obtain ⟨c, hc, q⟩ := zopt_inv hs
    exact zOk.wr q (Nat.le_succ _) (Nat.le_add_right _ _) (fun r h' m2 m4 k => zS_new hd hc m2 m4 k)
  | invokestatic ix =>
    obtain ⟨⟨kd, M1⟩, hw, q⟩ := zopt_inv hs
    dsimp only at q
    by_cases h01 : kd = 0 ∨ kd = 1
    · rw [if_pos h01] at q
      obtain ⟨as, rest, rfl, g1, g2, g3, g4, g5, g6, g7, g8, -⟩ := zcall_inv q
      refine fun r1 h1 r h' m1 m2 m3 m4 IH k => zS_static hd ?_ g1 g2 g3 g4 g5 (by omega) g7 g8 m1 m2 m3 m4 IH k
      rcases h01 with rfl | rfl
      · exact Or.inl hw
      · exact Or.inr hw
    · rw [if_neg h01] at q
      by_cases h6 : kd = 6
      · rw [if_pos h6] at q
        subst h6
        obtain ⟨x, y, t, rfl, q⟩ := zb2_inv q
        obtain ⟨⟨a1, a2, a3⟩, q⟩ := zif_inv q
        exact zOk.mv q (fun r h' m2 m4 k => zS_max hd hw a1 a2 a3 m2 m4 k)
      · rw [if_neg h6] at q
        by_cases h7 : kd = 7
        · rw [if_pos h7] at q
          subst h7
          obtain ⟨x, y, t, rfl, q⟩ := zb2_inv q
          obtain ⟨⟨a1, a2, a3⟩, q⟩ := zif_inv q
          exact zOk.mv q (fun r h' m2 m4 k => zS_min hd hw a1 a2 a3 m2 m4 k)
        · rw [if_neg h7] at q
          obtain ⟨⟨h5, a1, a2⟩, q5⟩ := zif_inv q
          have h5 : kd = 5 := h5
          clear q
          subst h5
          split at q5
          · obtain ⟨⟨⟨e1, e2, b0⟩, ⟨b1, b2⟩, b3, b4, b5⟩, q6⟩ := zif_inv q5
            clear q5
            subst e1; subst e2
            exact zOk.wr q6 (Nat.le_refl _) (Nat.le_refl _) (fun r h' m2 m4 k => zS_copy hd hw a1 a2 b0 b1 b2 b3 b4 b5 m2 m4 k)
          · cases q5
  | invokevirtual ix =>
    obtain ⟨⟨kd, M1⟩, hw, q⟩ := zopt_inv hs
    obtain ⟨h2, q⟩ := zif_inv q
    have h2 : kd = 2 := h2
    subst h2
    obtain ⟨as, rest, rfl, g1, g2, g3, g4, g5, g6, g7, g8, g9⟩ := zcall_inv q
    cases as with
    | nil => cases g9
    | cons v as =>
      cases v with
      | inl x => cases g9
      | inr a =>
        have g9' : Nat.beq (zK h a).1 (10 + zown M1) = true ∧ Nat.blt (zown M1) 11 = true := by simpa [zrcv] using g9
        have hk : (zK h a).1 = 10 + zown M1 := Nat.eq_of_beq_eq_true g9'.1
        have ho : zown M1 < 11 := Nat.blt_eq.mp g9'.2
        have hl : as.length = znp M1 := by simpa using g2
        exact fun r1 h1 r h' m1 m2 m3 m4 IH k => zS_virtual hd hw g1 hl g3 g4 g5 (by show as.length + 1 ≤ _; rw [hl]; exact g6) g7 g8 hk ho m1 m2 m3 m4 IH k
  | invokespecial ix =>
    obtain ⟨⟨kd, M1⟩, hw, q⟩ := zopt_inv hs
    dsimp only at q
    by_cases h3 : kd = 3
    · rw [if_pos h3] at q
      subst h3
      obtain ⟨as, rest, rfl, g1, g2, g3, g4, g5, g6, g7, g8, g9⟩ := zcall_inv q
      cases as with
      | nil => cases g9
      | cons v as =>
        cases v with
        | inl x => cases g9
        | inr a =>
          have ha : a ≠ 0 := by
            intro h0
            subst h0
            cases g9
          have hl : as.length = znp M1 := by simpa using g2
          exact fun r1 h1 r h' m1 m2 m3 m4 IH k => zS_special hd hw g1 hl g3 g4 g5 (by show as.length + 1 ≤ _; rw [hl]; exact g6) g7 g8 ha m1 m2 m3 m4 IH k
    · rw [if_neg h3] at q
      obtain ⟨⟨h4, a1, a2⟩, q4⟩ := zif_inv q
      have h4 : kd = 4 := h4
      clear q
      subst h4
      obtain ⟨a, t, rfl, q5⟩ := zr1_inv q4
      obtain ⟨⟨ha, h8⟩, q6⟩ := zif_inv q5
      exact zOk.mv q6 (fun r h' _ _ k => zS_objInit hd hw a1 a2 ha h8 k)
  | ireturn =>
    simp only [zstep] at hs
    split at hs
    · obtain ⟨hr, q⟩ := zif_inv hs
      cases q
      exact zS_ireturn hd hr
    · cases hs
  | areturn =>
    simp only [zstep] at hs
    split at hs
    · split at hs
      · rename_i hr
        cases hs
        exact zS_areturn hd hr
      · cases hs
    · cases hs
  | return_ =>
    simp only [zstep] at hs
    split at hs
    · split at hs
      · rename_i hr
        cases hs
        exact zS_return hd hr
      · cases hs
    · cases hs
  | _ => exact nomatch (show (none : Option zSR) = some o from hs)
theorem zsound : ∀ (n M pc : Nat) (ls : zL) (st : List zV) (h : zH) (r : Option zV) (h' : zH), zrun n M pc ls st h = some (r, h') → (zn h ≤ zn h' ∧ zs h ≤ zs h') ∧ zSnd D cA B b L xs M pc ls st h r h'
  | 0, M, pc, ls, st, h, r, h', hr => by cases hr
  | n + 1, M, pc, ls, st, h, r, h', hr => by
    unfold zrun at hr
    cases hd : zdec M pc with
    | none => rw [hd] at hr; cases hr
    | some i =>
      rw [hd] at hr
      dsimp only at hr
      cases hs : zstep M i pc ls st h with
      | none => rw [hs] at hr; cases hr
      | some o =>
        rw [hs] at hr
        have hok := zstep_ok (D := D) (cA := cA) (B := B) (b := b) (L := L) (xs := xs) hd hs
        cases o with
        | inl q =>
          dsimp only at hr
          obtain ⟨⟨m1, m2⟩, hk⟩ := hok
          obtain ⟨⟨m3, m4⟩, IH⟩ := zsound n M q.1 q.2.1 q.2.2.1 q.2.2.2 r h' hr
          exact ⟨⟨Nat.le_trans m1 m3, Nat.le_trans m2 m4⟩, hk r h' m3 m4 IH⟩
        | inr o =>
          cases o with
          | inl r1 =>
            cases hr
            exact ⟨⟨Nat.le_refl _, Nat.le_refl _⟩, hok⟩
          | inr q =>
            dsimp only at hr
            cases hc : zrun n q.1 0 (zent q.1 q.2.1) [] h with
            | none => rw [hc] at hr; cases hr
            | some w =>
              rw [hc] at hr
              dsimp only at hr
              obtain ⟨⟨m1, m2⟩, IH1⟩ := zsound n q.1 0 (zent q.1 q.2.1) [] h w.1 w.2 hc
              obtain ⟨⟨m3, m4⟩, IH2⟩ := zsound n M (pc + 3) ls (w.1.toList ++ q.2.2) w.2 r h' hr
              exact ⟨⟨Nat.le_trans m1 m3, Nat.le_trans m2 m4⟩, hok w.1 w.2 r h' m1 m3 m2 m4 IH1 IH2⟩
end zMain
end
section
/-! THE CLAIM OUT OF ONE WALK OF THE LAW'S BODY. Your part is whole_start (and what it stands on); all else here is the same for every law, but numbers. -/
def R_law : String := "FarTypewriterLaw"
def lw_P (b : Addr) (xs : List Int32) (args : Array Value) (s : State) : Prop := args = #[.ref b] ∧ s.IntsAt b xs ∧ xs.length ≤ 2560 ∧ (Jvm.Cond.and given_1 narrow_1).before args s = true
def lw_Q (_ : Array Value) (s : State) (o : Outcome) (t : State) : Prop := o = .returned (some (.int 1)) ∧ Framed s o t [] 600000 7302250
def lw_Z (below : List Frame) (a : Array Value) (s : State) : State → Prop := fun t => ∃ o, t.status = .running ∧ Ended t below o ∧ lw_Q a s o t
/-- the law's own end, with 1 on the stack, nothing written that was there before, its room as the claim has it -/
theorem lw_ret {p : Program} {l : Launch} {e : Env} {s : State} {m : MethodId} {below : List Frame} {meth : Method} {c : Code} {b : Nat} (hx : p.tables.exec = Jvm.exec) (hb : c.code = code) (hr : meth.sig.returnType = ret) (hlocks : meth.locks = false) {pc : Nat} {H : Heap} {ls : Array Slot} (hdg : decode code pc = .ok (.ireturn, 1)) : W p l e room_1 s m #[Value.ref b] below meth c H [] 600000 7302250 (lw_Z below #[Value.ref b] s) (F0 m pc ls [.int 1]) := by
  intro T hT X
  obtain ⟨fs, hret, hrun, hended, hW, hframe⟩ := X.leave (v := some (.int 1)) (hlocks := hlocks) (fun h => by rw [hr] at h; cases h)
  have hmeth' : T.vm.method? m = some meth := X.method'
  refine ⟨T.setFrames fs, ?_, .returned (some (.int 1)), hrun, hended, rfl, ⟨_, rfl⟩, hW, hframe⟩
  jvm_step X.here [X.here.top, hx, hb, hdg, hmeth', hr, ret, narrow_b1]
  (try refine ⟨rfl, ?_⟩); (try refine ⟨rfl, ?_⟩)
  first | (intro acts; rw [hret _ acts rfl rfl rfl]) | rw [hret _ _ rfl rfl rfl]
  exact Steps.refl _
/-- what holds at the law's entry: the machine, the code, the tables' words (any of lw_tbl by 'hts w (by decide +kernel)'), the script of L ints xs at the cell b, what the Statement gives of the start (any of its parts by flat_of_before) -/
def lw_At (p : Program) (s : State) (m : MethodId) (meth : Method) (c : Code) (b L : Nat) (xs : Nat → Int32) : Prop :=
  p.tables.exec = Jvm.exec ∧ c.code = code ∧ meth.sig.returnType = ret ∧ c.maxLocals = 4 ∧ s.vm.findClass R_law = some m.cls ∧ (∀ w ∈ lw_tbl, w.before #[Value.ref b] s = true) ∧ va_X b L xs s s.heap ∧ b < s.heap.size ∧ meth.locks = false ∧ (Jvm.Cond.and given_1 narrow_1).before #[Value.ref b] s = true
/-- the small machine's heap at the law's entry -/
def zh0 (L : Nat) (f : Nat → Int) : zH := (fun a => if a = 1 then (5, L) else (0, 0), fun _ _ => 0, fun _ _ => 0, fun a i => if a = 1 then f i else 0, fun _ _ => 0, 2, 0)
def zls0 : zL := [some (.inr 1), none, none, none]
theorem zknown {args : Array Value} {s : State} (hts : ∀ w ∈ lw_tbl, w.before args s = true) : ∃ (D : va_G), ∀ (k : Nat) (q : vw_C), vwCl[k]? = some q → u_Kn s q.1 q.2.1 q.2.2 (D.1 k) (D.2 k) := by
  have key : ∀ k : Nat, ∃ (cC : ClassId) (iS : Nat → Nat), ∀ q : vw_C, vwCl[k]? = some q → u_Kn s q.1 q.2.1 q.2.2 cC iS := by
    intro k
    by_cases hk : k < 11
    · have hw : ∀ w ∈ u_ws (zcw k).1 (zcw k).2.1 (zcw k).2.2, w ∈ lw_tbl := fun w hw => zW_in w (zcl_in hk w hw)
      have hi : Cond.instantiable (zcw k).1 (zcw k).2.2 ∈ lw_tbl := zW_in _ (zW_3 (List.mem_flatMap.mpr ⟨zcw k, List.mem_of_getElem? (zcl_at hk), List.mem_cons_self⟩))
      obtain ⟨cC, iS, h⟩ := u_known hts hw (hts _ hi)
      refine ⟨cC, iS, fun q hq => ?_⟩
      rw [zcl_at hk] at hq
      cases hq
      exact h
    · refine ⟨0, fun _ => 0, fun q hq => ?_⟩
      have hlen : vwCl.length = 11 := rfl
      rw [List.getElem?_eq_none (by omega)] at hq
      cases hq
  exact ⟨(fun k => Classical.choose (key k), fun k => Classical.choose (Classical.choose_spec (key k))), fun k q hq => Classical.choose_spec (Classical.choose_spec (key k)) q hq⟩
theorem zarrI {args : Array Value} {s : State} (hb : (Cond.arrayClass .int).before args s = true) : ∃ cI : ClassId, ArrOfT s cI .int ∧ va_RA s cI .int := by
  obtain ⟨cA, kA, comp, h1, h2, h3⟩ := Cond.arrayClass_spec hb
  exact ⟨cA, fun n z => ⟨fun k h => (by cases h), kA, h2, comp, h3⟩, h1⟩
theorem zarrO {C : String} {s : State} (hb : va_AO C s) : ∃ cI : ClassId, ArrOfT s cI (.object C) ∧ va_RA s cI (.object C) := by
  obtain ⟨comp, c, k, h1, h2, h3, h4, h5⟩ := Cond.arrayOver_spec hb
  exact ⟨c, fun n z => ⟨fun k h => (by cases h), k, h3, comp, h4⟩, k, comp, h3, h4, h1, h5⟩
theorem znest_in : ∀ e ∈ zcm, e.2.2.1 = 1 → Cond.methodLinkNest (zon e.1) e.2.1 (zy e.2.2.2) "FarTypewriter" ∈ tables_1 := by decide +kernel
theorem zao_in : (Cond.arrayOver (.object RX8) ∈ tables_1 ∧ Cond.arrayOver (.object RX4) ∈ tables_1) ∧ Cond.arrayOver (.object RX2) ∈ tables_1 := by decide +kernel
theorem ztbl_in {w : Cond} (h : w ∈ tables_1) : w ∈ lw_tbl := List.mem_append_right _ h
set_option maxHeartbeats 4000000 in
theorem z_start {p : Program} {e : Env} {s : State} {m : MethodId} {below : List Frame} {meth : Method} {c : Code} (l : Launch) {b L : Nat} {xs : Nat → Int32} (hL : L ≤ 2560) (C0 : lw_At p s m meth c b L xs)
    (hE : zE 0 0 zls0 [] (zh0 L (fun i => (xs i).toInt)) (fun r h' => r = some (.inl 1) ∧ zn h' ≤ 600000 ∧ zs h' ≤ 7302250)) :
    W p l e room_1 s m #[Value.ref b] below meth c s.heap [] 0 0 (lw_Z below #[Value.ref b] s) (entryFrame m ([Value.ref b] : List Value).toArray 4) := by
  obtain ⟨hx, hb, hr, hml, hown, hts, hX, hbl, hlocks, hgv⟩ := C0
  obtain ⟨n, r, h', hrun, rfl, hz1, hz2⟩ := hE
  obtain ⟨D, hD⟩ := zknown hts
  have hao8 : va_AO RX8 s := va_AO.of (hts _ (ztbl_in zao_in.1.1))
  have hao4 : va_AO RX4 s := va_AO.of (hts _ (ztbl_in zao_in.1.2))
  have hao2 : va_AO RX2 s := va_AO.of (hts _ (ztbl_in zao_in.2))
  obtain ⟨c1, a1, b1⟩ := zarrI (hts _ (zW_in _ (zW_0 List.mem_cons_self)))
  obtain ⟨c2, a2, b2⟩ := zarrO hao8
  obtain ⟨c3, a3, b3⟩ := zarrO hao4
  obtain ⟨c4, a4, b4⟩ := zarrO hao2
  obtain ⟨cA, e1, e2, e3, e4⟩ : ∃ cA : Nat → ClassId, cA 1 = c1 ∧ cA 2 = c2 ∧ cA 3 = c3 ∧ cA 4 = c4 := ⟨fun t => if t = 1 then c1 else if t = 2 then c2 else if t = 3 then c3 else c4, rfl, rfl, rfl, rfl⟩
  have hK : va_K D vwCl (ztys cA) s := by
    refine ⟨hD, fun k q hq => ?_⟩
    unfold ztys at hq
    rw [e1, e2, e3, e4] at hq
    match k, hq with
    | 0, hq => cases hq; exact ⟨a1, b1⟩
    | 1, hq => cases hq; exact ⟨a2, b2⟩
    | 2, hq => cases hq; exact ⟨a3, b3⟩
    | 3, hq => cases hq; exact ⟨a4, b4⟩
    | k + 4, hq => simp at hq
  have hKx : zKx D cA s := ⟨hK, ⟨hao8, hao4, hao2⟩, fun q hq h1 => va_Nw.of rfl (hts _ (ztbl_in (znest_in q hq h1)))⟩
  have hC : zC D cA s.heap.size b L xs p room_1 s m #[Value.ref b] meth c 0 := by
    exact ⟨hx, hb, hr, hlocks, hml, hown, fun h0 => absurd rfl h0, fun w hw => hts w (zW_in w hw), hKx, hX, hbl, Nat.le_refl _, by decide +kernel, by decide +kernel⟩
  have hwf : zwf (zh0 L (fun i => (xs i).toInt)) := by
    refine ⟨Nat.le_refl _, fun a h1 h2 => ?_, fun a h1 => ?_, rfl, fun a => ?_, fun f a => ⟨by show -2147483648 ≤ (0 : Int); omega, by show (0 : Int) < 2147483648; omega⟩, fun f a => by show 0 < 2; omega, fun a i => ?_, fun a i => by show 0 < 2; omega⟩
    · have : a < 2 := h2
      omega
    · have h1 : 2 ≤ a := h1
      show (if a = 1 then (5, L) else (0, 0)).1 = 0
      rw [if_neg (by omega)]
    · show (if a = 1 then (5, L) else (0, 0)).2 < 2147483648
      by_cases ha : a = 1
      · rw [if_pos ha]; show L < 2147483648; omega
      · rw [if_neg ha]; show 0 < 2147483648; omega
    · show -2147483648 ≤ (if a = 1 then (xs i).toInt else 0) ∧ (if a = 1 then (xs i).toInt else 0) < 2147483648
      by_cases ha : a = 1
      · rw [if_pos ha]; exact z32 _
      · rw [if_neg ha]; omega
  have hR : zRel D cA s.heap.size b L xs (fun _ => b) (zh0 L (fun i => (xs i).toInt)) s.heap := by
    refine ⟨fun k q h => by simp [zws, zh0, zn] at h, ⟨fun i j p q h => by simp [zws, zh0, zn] at h, fun k q h => by simp [zws, zh0, zn] at h⟩, hwf, rfl, rfl, fun j hj => ?_⟩
    show Int32.ofInt ((xs j).toInt) = xs j
    exact Int32.ofInt_toInt _
  obtain ⟨-, hS⟩ := zsound (D := D) (cA := cA) (B := s.heap.size) (b := b) (L := L) (xs := xs) n 0 0 zls0 [] (zh0 L (fun i => (xs i).toInt)) (some (.inl 1)) h' hrun
  have hent : zlr (fun _ => b) (zn (zh0 L (fun i => (xs i).toInt))) (zml 0) ((lg_sl ([.inr 1].map (ztr (fun _ => b))) ++ List.replicate (zml 0 - (lg_sl ([.inr 1].map (ztr (fun _ => b)))).length) Slot.unset).toArray) (zent 0 [.inr 1]) := zlr_ent (M := 0) (by decide +kernel) (fun v hv => by
    rw [List.mem_singleton.mp hv]
    show 1 < 2
    omega)
  rw [lg_entry_eq]
  have h0n : zn (zh0 L (fun i => (xs i).toInt)) = 2 := rfl
  have h0s : zs (zh0 L (fun i => (xs i).toInt)) = 0 := rfl
  refine hS p l e room_1 s m #[Value.ref b] below meth c s.heap [] 0 0 _ (fun _ => b) _ hC hR va_S.rf hent (fun v hv => by cases hv) (by rw [h0n]; show 0 + (zn h' - 2) ≤ 600000; omega) (by rw [h0s]; show 0 + (zs h' - 0) ≤ 7302250; omega) ?_
  intro φ' H' locs' lsR' pc' he hR' hS' hE
  have hdec : decode code pc' = .ok (.ireturn, 1) := by
    rcases hE with ⟨x, hx1, hd, -⟩ | ⟨a, ha, -⟩ | ⟨h1, -⟩
    · exact hd
    · cases ha
    · cases h1
  refine va_forget (fun q hq => hS'.2.2 q hq) ?_
  refine W.widen (k := 600000) (n := 7302250) (by rw [h0n]; omega) (by rw [h0s]; omega) ?_
  exact lw_ret hx hb hr hlocks hdec
end
section
/-! ROWS OF THE SMALL MACHINE: what a run from here comes to, an instruction each -/
section zRows
variable {M pc pc' : Nat} {ls : zL} {st : List zV} {h : zH} {Q : Option zV → zH → Prop}
theorem zrun_up : ∀ (n M pc : Nat) (ls : zL) (st : List zV) (h : zH) (w : Option zV × zH), zrun n M pc ls st h = some w → zrun (n + 1) M pc ls st h = some w
  | 0, M, pc, ls, st, h, w, hr => by cases hr
  | n + 1, M, pc, ls, st, h, w, hr => by
    unfold zrun at hr ⊢
    cases hd : zdec M pc with
    | none => rw [hd] at hr; cases hr
    | some i =>
      rw [hd] at hr
      dsimp only at hr ⊢
      cases hs : zstep M i pc ls st h with
      | none => rw [hs] at hr; cases hr
      | some o =>
        rw [hs] at hr
        cases o with
        | inl q => exact zrun_up n M q.1 q.2.1 q.2.2.1 q.2.2.2 w hr
        | inr o =>
          cases o with
          | inl r => exact hr
          | inr q =>
            dsimp only at hr ⊢
            cases hc : zrun n q.1 0 (zent q.1 q.2.1) [] h with
            | none => rw [hc] at hr; cases hr
            | some v =>
              rw [hc] at hr
              dsimp only at hr
              rw [zrun_up n q.1 0 (zent q.1 q.2.1) [] h v hc]
              exact zrun_up n M (pc + 3) ls (v.1.toList ++ q.2.2) v.2 w hr
theorem zrun_add {n M pc : Nat} {ls : zL} {st : List zV} {h : zH} {w : Option zV × zH} (hr : zrun n M pc ls st h = some w) : ∀ k, zrun (n + k) M pc ls st h = some w
  | 0 => hr
  | k + 1 => zrun_up (n + k) M pc ls st h w (zrun_add hr k)
theorem zrun_le {n m M pc : Nat} {ls : zL} {st : List zV} {h : zH} {w : Option zV × zH} (hr : zrun n M pc ls st h = some w) (hm : n ≤ m) : zrun m M pc ls st h = some w := by
  have := zrun_add hr (m - n)
  rwa [show n + (m - n) = m by omega] at this
theorem zE_det {r1 r2 : Option zV} {h1 h2 : zH} {n m : Nat} (a : zrun n M pc ls st h = some (r1, h1)) (b : zrun m M pc ls st h = some (r2, h2)) : r1 = r2 ∧ h1 = h2 := by
  have a' := zrun_le a (Nat.le_max_left n m)
  have b' := zrun_le b (Nat.le_max_right n m)
  rw [a'] at b'
  cases b'
  exact ⟨rfl, rfl⟩
theorem zE.mono {Q' : Option zV → zH → Prop} (a : zE M pc ls st h Q) (hq : ∀ r h', Q r h' → Q' r h') : zE M pc ls st h Q' := by
  obtain ⟨n, r, h', h1, h2⟩ := a
  exact ⟨n, r, h', h1, hq r h' h2⟩
/-- two facts of one run -/
theorem zE.and {Q' : Option zV → zH → Prop} (a : zE M pc ls st h Q) (c : zE M pc ls st h Q') : zE M pc ls st h (fun r h' => Q r h' ∧ Q' r h') := by
  obtain ⟨n, r, h', h1, h2⟩ := a
  obtain ⟨n2, r2, h2', h3, h4⟩ := c
  obtain ⟨rfl, rfl⟩ := zE_det h1 h3
  exact ⟨n, r, h', h1, h2, h4⟩
theorem zE_mv {i : Instr} {pc2 : Nat} {ls2 : zL} {st2 : List zV} {h2 : zH} (hd : zdec M pc = some i) (hs : zstep M i pc ls st h = some (.inl (pc2, ls2, st2, h2))) : zE M pc ls st h Q ↔ zE M pc2 ls2 st2 h2 Q := by
  constructor
  · rintro ⟨n, r, h', h1, h3⟩
    cases n with
    | zero => cases h1
    | succ n =>
      unfold zrun at h1
      rw [hd] at h1
      dsimp only at h1
      rw [hs] at h1
      exact ⟨n, r, h', h1, h3⟩
  · rintro ⟨n, r, h', h1, h3⟩
    refine ⟨n + 1, r, h', ?_, h3⟩
    unfold zrun
    rw [hd]
    dsimp only
    rw [hs]
    exact h1
theorem zE_no {i : Instr} (hd : zdec M pc = some i) (hs : zstep M i pc ls st h = none) : ¬ zE M pc ls st h Q := by
  rintro ⟨n, r, h', h1, h3⟩
  cases n with
  | zero => cases h1
  | succ n =>
    unfold zrun at h1
    rw [hd] at h1
    dsimp only at h1
    rw [hs] at h1
    cases h1
theorem zE_rt {i : Instr} {r : Option zV} (hd : zdec M pc = some i) (hs : zstep M i pc ls st h = some (.inr (.inl r))) : zE M pc ls st h Q ↔ Q r h := by
  constructor
  · rintro ⟨n, r', h', h1, h3⟩
    cases n with
    | zero => cases h1
    | succ n =>
      unfold zrun at h1
      rw [hd] at h1
      dsimp only at h1
      rw [hs] at h1
      cases h1
      exact h3
  · intro hq
    refine ⟨1, r, h, ?_, hq⟩
    unfold zrun
    rw [hd]
    dsimp only
    rw [hs]
theorem zE_cl {i : Instr} {M' : Nat} {as rest : List zV} (hd : zdec M pc = some i) (hs : zstep M i pc ls st h = some (.inr (.inr (M', as, rest)))) : zE M pc ls st h Q ↔ zE M' 0 (zent M' as) [] h (fun r h' => zE M (pc + 3) ls (r.toList ++ rest) h' Q) := by
  constructor
  · rintro ⟨n, r, h', h1, h3⟩
    cases n with
    | zero => cases h1
    | succ n =>
      unfold zrun at h1
      rw [hd] at h1
      dsimp only at h1
      rw [hs] at h1
      dsimp only at h1
      cases hc : zrun n M' 0 (zent M' as) [] h with
      | none => rw [hc] at h1; cases h1
      | some v =>
        rw [hc] at h1
        exact ⟨n, v.1, v.2, hc, n, r, h', h1, h3⟩
  · rintro ⟨n, r1, h1, a1, m, r, h', a2, a3⟩
    refine ⟨max n m + 1, r, h', ?_, a3⟩
    unfold zrun
    rw [hd]
    dsimp only
    rw [hs]
    dsimp only
    rw [zrun_le a1 (Nat.le_max_left n m)]
    exact zrun_le a2 (Nat.le_max_right n m)
/-- a test that a step makes -/
theorem zE_if {i : Instr} {c : Prop} [Decidable c] {pc2 : Nat} {ls2 : zL} {st2 : List zV} {h2 : zH} (hd : zdec M pc = some i) (hs : zstep M i pc ls st h = zif c (zgo pc2 ls2 st2 h2)) : zE M pc ls st h Q ↔ (c ∧ zE M pc2 ls2 st2 h2 Q) := by
  by_cases hc : c
  · rw [zE_mv (pc2 := pc2) (ls2 := ls2) (st2 := st2) (h2 := h2) hd (by rw [hs]; unfold zif; rw [if_pos hc]; rfl)]
    exact ⟨fun q => ⟨hc, q⟩, fun q => q.2⟩
  · constructor
    · intro q
      exact absurd q (zE_no hd (by rw [hs]; unfold zif; rw [if_neg hc]))
    · intro q
      exact absurd q.1 hc
theorem zE_br {i : Instr} {c : Prop} [Decidable c] {p1 p2 : Nat} {st2 : List zV} (hd : zdec M pc = some i) (hs : zstep M i pc ls st h = if c then zgo p1 ls st2 h else zgo p2 ls st2 h) : zE M pc ls st h Q ↔ if c then zE M p1 ls st2 h Q else zE M p2 ls st2 h Q := by
  by_cases hc : c
  · rw [if_pos hc]
    exact zE_mv hd (by rw [hs, if_pos hc]; rfl)
  · rw [if_neg hc]
    exact zE_mv hd (by rw [hs, if_neg hc]; rfl)
theorem zX_iconst {n : Int} (hd : zdec M pc = some (.iconst n)) (hn : -1 ≤ n ∧ n ≤ 5) (hp : pc + 1 = pc') : zE M pc ls st h Q ↔ zE M pc' ls (.inl n :: st) h Q := by subst hp; exact zE_mv hd (if_pos hn)
theorem zX_bipush {n : Int} (hd : zdec M pc = some (.bipush n)) (hn : -128 ≤ n ∧ n ≤ 127) (hp : pc + 2 = pc') : zE M pc ls st h Q ↔ zE M pc' ls (.inl n :: st) h Q := by subst hp; exact zE_mv hd (if_pos hn)
theorem zX_sipush {n : Int} (hd : zdec M pc = some (.sipush n)) (hn : -32768 ≤ n ∧ n ≤ 32767) (hp : pc + 3 = pc') : zE M pc ls st h Q ↔ zE M pc' ls (.inl n :: st) h Q := by subst hp; exact zE_mv hd (if_pos hn)
theorem zX_ldc {ix : Nat} {v : Int} (hd : zdec M pc = some (.ldc ix)) (hv : zlkk (zown M) ix = some v) (hn : 0 ≤ v ∧ v ≤ 100000) (hp : pc + 2 = pc') : zE M pc ls st h Q ↔ zE M pc' ls (.inl v :: st) h Q := by
  subst hp
  exact zE_mv hd (by show zopt (zlkk (zown M) ix) _ = _; rw [hv]; exact if_pos hn)
theorem zX_null (hd : zdec M pc = some .aconst_null) (hp : pc + 1 = pc') : zE M pc ls st h Q ↔ zE M pc' ls (.inr 0 :: st) h Q := by subst hp; exact zE_mv hd rfl
theorem zX_iload {k : Nat} {x : Int} (hd : zdec M pc = some (.iload k)) (hv : ls[k]? = some (some (.inl x))) (hp : pc + 2 = pc') : zE M pc ls st h Q ↔ zE M pc' ls (.inl x :: st) h Q := by
  subst hp; exact zE_mv hd (by show zldI ls k _ = _; unfold zldI; rw [hv]; rfl)
theorem zX_iload_n {k : Fin 4} {x : Int} (hd : zdec M pc = some (.iload_n k)) (hv : ls[(k : Nat)]? = some (some (.inl x))) (hp : pc + 1 = pc') : zE M pc ls st h Q ↔ zE M pc' ls (.inl x :: st) h Q := by
  subst hp; exact zE_mv hd (by show zldI ls k _ = _; unfold zldI; rw [hv]; rfl)
theorem zX_aload {k : Nat} {x : Nat} (hd : zdec M pc = some (.aload k)) (hv : ls[k]? = some (some (.inr x))) (hp : pc + 2 = pc') : zE M pc ls st h Q ↔ zE M pc' ls (.inr x :: st) h Q := by
  subst hp; exact zE_mv hd (by show zldR ls k _ = _; unfold zldR; rw [hv]; rfl)
theorem zX_aload_n {k : Fin 4} {x : Nat} (hd : zdec M pc = some (.aload_n k)) (hv : ls[(k : Nat)]? = some (some (.inr x))) (hp : pc + 1 = pc') : zE M pc ls st h Q ↔ zE M pc' ls (.inr x :: st) h Q := by
  subst hp; exact zE_mv hd (by show zldR ls k _ = _; unfold zldR; rw [hv]; rfl)
theorem zX_istore {k : Nat} {x : Int} {ls' : zL} (hd : zdec M pc = some (.istore k)) (hk : k < ls.length) (hs : ls.set k (some (.inl x)) = ls') (hp : pc + 2 = pc') : zE M pc ls (.inl x :: st) h Q ↔ zE M pc' ls' st h Q := by subst hp hs; exact zE_mv hd (if_pos hk)
theorem zX_istore_n {k : Fin 4} {x : Int} {ls' : zL} (hd : zdec M pc = some (.istore_n k)) (hk : (k : Nat) < ls.length) (hs : ls.set (k : Nat) (some (.inl x)) = ls') (hp : pc + 1 = pc') : zE M pc ls (.inl x :: st) h Q ↔ zE M pc' ls' st h Q := by subst hp hs; exact zE_mv hd (if_pos hk)
theorem zX_astore {k : Nat} {x : Nat} {ls' : zL} (hd : zdec M pc = some (.astore k)) (hk : k < ls.length) (hs : ls.set k (some (.inr x)) = ls') (hp : pc + 2 = pc') : zE M pc ls (.inr x :: st) h Q ↔ zE M pc' ls' st h Q := by subst hp hs; exact zE_mv hd (if_pos hk)
theorem zX_astore_n {k : Fin 4} {x : Nat} {ls' : zL} (hd : zdec M pc = some (.astore_n k)) (hk : (k : Nat) < ls.length) (hs : ls.set (k : Nat) (some (.inr x)) = ls') (hp : pc + 1 = pc') : zE M pc ls (.inr x :: st) h Q ↔ zE M pc' ls' st h Q := by subst hp hs; exact zE_mv hd (if_pos hk)
theorem zX_iinc {k : Nat} {n x : Int} {ls' : zL} (hd : zdec M pc = some (.iinc k n)) (hv : ls[k]? = some (some (.inl x))) (hs : ls.set k (some (.inl (zw (x + n)))) = ls') (hp : pc + 3 = pc') : zE M pc ls st h Q ↔ zE M pc' ls' st h Q := by
  subst hp hs; exact zE_mv hd (by show zldI ls k _ = _; unfold zldI; rw [hv]; rfl)
theorem zX_iadd {x y : Int} (hd : zdec M pc = some .iadd) (hp : pc + 1 = pc') : zE M pc ls (.inl y :: .inl x :: st) h Q ↔ zE M pc' ls (.inl (zw (x + y)) :: st) h Q := by subst hp; exact zE_mv hd rfl
theorem zX_isub {x y : Int} (hd : zdec M pc = some .isub) (hp : pc + 1 = pc') : zE M pc ls (.inl y :: .inl x :: st) h Q ↔ zE M pc' ls (.inl (zw (x - y)) :: st) h Q := by subst hp; exact zE_mv hd rfl
theorem zX_imul {x y : Int} (hd : zdec M pc = some .imul) (hp : pc + 1 = pc') : zE M pc ls (.inl y :: .inl x :: st) h Q ↔ zE M pc' ls (.inl (zw (x * y)) :: st) h Q := by subst hp; exact zE_mv hd rfl
theorem zX_iand {x y : Int} (hd : zdec M pc = some .iand) (hp : pc + 1 = pc') : zE M pc ls (.inl y :: .inl x :: st) h Q ↔ zE M pc' ls (.inl (zand x y) :: st) h Q := by subst hp; exact zE_mv hd rfl
theorem zX_ixor {x y : Int} (hd : zdec M pc = some .ixor) (hp : pc + 1 = pc') : zE M pc ls (.inl y :: .inl x :: st) h Q ↔ zE M pc' ls (.inl (zxor x y) :: st) h Q := by subst hp; exact zE_mv hd rfl
theorem zX_ishr {x y : Int} (hd : zdec M pc = some .ishr) (hp : pc + 1 = pc') : zE M pc ls (.inl y :: .inl x :: st) h Q ↔ zE M pc' ls (.inl (zshr x y) :: st) h Q := by subst hp; exact zE_mv hd rfl
theorem zX_idiv {x y : Int} (hd : zdec M pc = some .idiv) (hp : pc + 1 = pc') : zE M pc ls (.inl y :: .inl x :: st) h Q ↔ (y ≠ 0 ∧ zE M pc' ls (.inl (zw (x.tdiv y)) :: st) h Q) := by subst hp; exact zE_if hd rfl
theorem zX_irem {x y : Int} (hd : zdec M pc = some .irem) (hp : pc + 1 = pc') : zE M pc ls (.inl y :: .inl x :: st) h Q ↔ (y ≠ 0 ∧ zE M pc' ls (.inl (zw (x.tmod y)) :: st) h Q) := by subst hp; exact zE_if hd rfl
theorem zX_dup {v : zV} (hd : zdec M pc = some .dup) (hp : pc + 1 = pc') : zE M pc ls (v :: st) h Q ↔ zE M pc' ls (v :: v :: st) h Q := by subst hp; exact zE_mv hd rfl
theorem zX_dup2 {v w : zV} (hd : zdec M pc = some .dup2) (hp : pc + 1 = pc') : zE M pc ls (v :: w :: st) h Q ↔ zE M pc' ls (v :: w :: v :: w :: st) h Q := by subst hp; exact zE_mv hd rfl
theorem zX_pop {v : zV} (hd : zdec M pc = some .pop) (hp : pc + 1 = pc') : zE M pc ls (v :: st) h Q ↔ zE M pc' ls st h Q := by subst hp; exact zE_mv hd rfl
theorem zjmp_eq {off : Int} {t : Nat} {k : Nat → Option zSR} (ht : (pc : Int) + off = (t : Int)) : zjmp pc off k = k t := by
  unfold zjmp
  rw [ht, if_pos (by omega), Int.toNat_natCast]
theorem zX_goto {off : Int} {t : Nat} (hd : zdec M pc = some (.goto off)) (ht : (pc : Int) + off = (t : Int)) : zE M pc ls st h Q ↔ zE M t ls st h Q := zE_mv hd (zjmp_eq (k := fun t => zgo t ls st h) ht)
theorem zX_if_eq {x off : Int} {t : Nat} (hd : zdec M pc = some (.ifCond .eq off)) (ht : (pc : Int) + off = (t : Int)) (hp : pc + 3 = pc') : zE M pc ls (.inl x :: st) h Q ↔ if x = 0 then zE M t ls st h Q else zE M pc' ls st h Q := by subst hp; exact zE_br hd (zjmp_eq (k := fun t => if x = 0 then zgo t ls st h else zgo (pc + 3) ls st h) ht)
theorem zX_if_ne {x off : Int} {t : Nat} (hd : zdec M pc = some (.ifCond .ne off)) (ht : (pc : Int) + off = (t : Int)) (hp : pc + 3 = pc') : zE M pc ls (.inl x :: st) h Q ↔ if x ≠ 0 then zE M t ls st h Q else zE M pc' ls st h Q := by subst hp; exact zE_br hd (zjmp_eq (k := fun t => if x ≠ 0 then zgo t ls st h else zgo (pc + 3) ls st h) ht)
theorem zX_if_lt {x off : Int} {t : Nat} (hd : zdec M pc = some (.ifCond .lt off)) (ht : (pc : Int) + off = (t : Int)) (hp : pc + 3 = pc') : zE M pc ls (.inl x :: st) h Q ↔ if x < 0 then zE M t ls st h Q else zE M pc' ls st h Q := by subst hp; exact zE_br hd (zjmp_eq (k := fun t => if x < 0 then zgo t ls st h else zgo (pc + 3) ls st h) ht)
theorem zX_if_ge {x off : Int} {t : Nat} (hd : zdec M pc = some (.ifCond .ge off)) (ht : (pc : Int) + off = (t : Int)) (hp : pc + 3 = pc') : zE M pc ls (.inl x :: st) h Q ↔ if 0 ≤ x then zE M t ls st h Q else zE M pc' ls st h Q := by subst hp; exact zE_br hd (zjmp_eq (k := fun t => if 0 ≤ x then zgo t ls st h else zgo (pc + 3) ls st h) ht)
theorem zX_if_gt {x off : Int} {t : Nat} (hd : zdec M pc = some (.ifCond .gt off)) (ht : (pc : Int) + off = (t : Int)) (hp : pc + 3 = pc') : zE M pc ls (.inl x :: st) h Q ↔ if 0 < x then zE M t ls st h Q else zE M pc' ls st h Q := by subst hp; exact zE_br hd (zjmp_eq (k := fun t => if 0 < x then zgo t ls st h else zgo (pc + 3) ls st h) ht)
theorem zX_if_le {x off : Int} {t : Nat} (hd : zdec M pc = some (.ifCond .le off)) (ht : (pc : Int) + off = (t : Int)) (hp : pc + 3 = pc') : zE M pc ls (.inl x :: st) h Q ↔ if x ≤ 0 then zE M t ls st h Q else zE M pc' ls st h Q := by subst hp; exact zE_br hd (zjmp_eq (k := fun t => if x ≤ 0 then zgo t ls st h else zgo (pc + 3) ls st h) ht)
theorem zX_icmp_eq {x y off : Int} {t : Nat} (hd : zdec M pc = some (.if_icmp .eq off)) (ht : (pc : Int) + off = (t : Int)) (hp : pc + 3 = pc') : zE M pc ls (.inl y :: .inl x :: st) h Q ↔ if x = y then zE M t ls st h Q else zE M pc' ls st h Q := by subst hp; exact zE_br hd (zjmp_eq (k := fun t => if x = y then zgo t ls st h else zgo (pc + 3) ls st h) ht)
theorem zX_icmp_ne {x y off : Int} {t : Nat} (hd : zdec M pc = some (.if_icmp .ne off)) (ht : (pc : Int) + off = (t : Int)) (hp : pc + 3 = pc') : zE M pc ls (.inl y :: .inl x :: st) h Q ↔ if x ≠ y then zE M t ls st h Q else zE M pc' ls st h Q := by subst hp; exact zE_br hd (zjmp_eq (k := fun t => if x ≠ y then zgo t ls st h else zgo (pc + 3) ls st h) ht)
theorem zX_icmp_lt {x y off : Int} {t : Nat} (hd : zdec M pc = some (.if_icmp .lt off)) (ht : (pc : Int) + off = (t : Int)) (hp : pc + 3 = pc') : zE M pc ls (.inl y :: .inl x :: st) h Q ↔ if x < y then zE M t ls st h Q else zE M pc' ls st h Q := by subst hp; exact zE_br hd (zjmp_eq (k := fun t => if x < y then zgo t ls st h else zgo (pc + 3) ls st h) ht)
theorem zX_icmp_ge {x y off : Int} {t : Nat} (hd : zdec M pc = some (.if_icmp .ge off)) (ht : (pc : Int) + off = (t : Int)) (hp : pc + 3 = pc') : zE M pc ls (.inl y :: .inl x :: st) h Q ↔ if y ≤ x then zE M t ls st h Q else zE M pc' ls st h Q := by subst hp; exact zE_br hd (zjmp_eq (k := fun t => if y ≤ x then zgo t ls st h else zgo (pc + 3) ls st h) ht)
theorem zX_icmp_gt {x y off : Int} {t : Nat} (hd : zdec M pc = some (.if_icmp .gt off)) (ht : (pc : Int) + off = (t : Int)) (hp : pc + 3 = pc') : zE M pc ls (.inl y :: .inl x :: st) h Q ↔ if y < x then zE M t ls st h Q else zE M pc' ls st h Q := by subst hp; exact zE_br hd (zjmp_eq (k := fun t => if y < x then zgo t ls st h else zgo (pc + 3) ls st h) ht)
theorem zX_icmp_le {x y off : Int} {t : Nat} (hd : zdec M pc = some (.if_icmp .le off)) (ht : (pc : Int) + off = (t : Int)) (hp : pc + 3 = pc') : zE M pc ls (.inl y :: .inl x :: st) h Q ↔ if x ≤ y then zE M t ls st h Q else zE M pc' ls st h Q := by subst hp; exact zE_br hd (zjmp_eq (k := fun t => if x ≤ y then zgo t ls st h else zgo (pc + 3) ls st h) ht)
theorem zX_ifnull {x : Nat} {off : Int} {t : Nat} (hd : zdec M pc = some (.ifnull off)) (ht : (pc : Int) + off = (t : Int)) (hp : pc + 3 = pc') : zE M pc ls (.inr x :: st) h Q ↔ if x = 0 then zE M t ls st h Q else zE M pc' ls st h Q := by subst hp; exact zE_br hd (zjmp_eq (k := fun t => if x = 0 then zgo t ls st h else zgo (pc + 3) ls st h) ht)
theorem zX_ifnonnull {x : Nat} {off : Int} {t : Nat} (hd : zdec M pc = some (.ifnonnull off)) (ht : (pc : Int) + off = (t : Int)) (hp : pc + 3 = pc') : zE M pc ls (.inr x :: st) h Q ↔ if x ≠ 0 then zE M t ls st h Q else zE M pc' ls st h Q := by subst hp; exact zE_br hd (zjmp_eq (k := fun t => if x ≠ 0 then zgo t ls st h else zgo (pc + 3) ls st h) ht)
theorem zX_getI {ix c k f c9 a : Nat} (hd : zdec M pc = some (.getfield ix)) (hq : zlk2 zcf (zown M) ix = some (c, k)) (hz : zir c k = false) (hf : 64 * c + k = f) (hc : 10 + c = c9) (hp : pc + 3 = pc') : zE M pc ls (.inr a :: st) h Q ↔ ((zK h a).1 = c9 ∧ zE M pc' ls (.inl (zI h f a) :: st) h Q) := by
  subst hf hc hp
  refine zE_if hd ?_
  show zopt (zlk2 zcf (zown M) ix) _ = _
  rw [hq]
  show zif _ (zgo (pc + 3) ls ((if zir c k = true then .inr (zR h (64 * c + k) a) else .inl (zI h (64 * c + k) a)) :: st) h) = _
  rw [if_neg (by rw [hz]; decide)]
theorem zX_getR {ix c k f c9 a : Nat} (hd : zdec M pc = some (.getfield ix)) (hq : zlk2 zcf (zown M) ix = some (c, k)) (hz : zir c k = true) (hf : 64 * c + k = f) (hc : 10 + c = c9) (hp : pc + 3 = pc') : zE M pc ls (.inr a :: st) h Q ↔ ((zK h a).1 = c9 ∧ zE M pc' ls (.inr (zR h f a) :: st) h Q) := by
  subst hf hc hp
  refine zE_if hd ?_
  show zopt (zlk2 zcf (zown M) ix) _ = _
  rw [hq]
  show zif _ (zgo (pc + 3) ls ((if zir c k = true then .inr (zR h (64 * c + k) a) else .inl (zI h (64 * c + k) a)) :: st) h) = _
  rw [if_pos hz]
theorem zX_putI {ix c k f c9 a : Nat} {x : Int} (hd : zdec M pc = some (.putfield ix)) (hq : zlk2 zcf (zown M) ix = some (c, k)) (hz : zir c k = false) (hb : zbk c k = false) (ho : zfok M c k = true) (hf : 64 * c + k = f) (hc : 10 + c = c9) (hp : pc + 3 = pc') : zE M pc ls (.inl x :: .inr a :: st) h Q ↔ ((zK h a).1 = c9 ∧ zE M pc' ls st (zsI h f a x) Q) := by
  subst hf hc hp
  have e : zE M pc ls (.inl x :: .inr a :: st) h Q ↔ (((zK h a).1 = 10 + c ∧ (zbk c k = true → x = 0 ∨ x = 1)) ∧ zE M (pc + 3) ls st (zsI h (64 * c + k) a x) Q) := by
    refine zE_if hd ?_
    show zopt (zlk2 zcf (zown M) ix) _ = _
    rw [hq]
    show zif (zfok M c k = true) (if zir c k = true then _ else _) = _
    unfold zif
    rw [if_pos ho, if_neg (by rw [hz]; decide)]
    rfl
  rw [e, hb]
  simp
theorem zX_putZ {ix c k f c9 a : Nat} {x : Int} (hd : zdec M pc = some (.putfield ix)) (hq : zlk2 zcf (zown M) ix = some (c, k)) (hz : zir c k = false) (hb : zbk c k = true) (ho : zfok M c k = true) (hf : 64 * c + k = f) (hc : 10 + c = c9) (hp : pc + 3 = pc') : zE M pc ls (.inl x :: .inr a :: st) h Q ↔ ((zK h a).1 = c9 ∧ (x = 0 ∨ x = 1) ∧ zE M pc' ls st (zsI h f a x) Q) := by
  subst hf hc hp
  have e : zE M pc ls (.inl x :: .inr a :: st) h Q ↔ (((zK h a).1 = 10 + c ∧ (zbk c k = true → x = 0 ∨ x = 1)) ∧ zE M (pc + 3) ls st (zsI h (64 * c + k) a x) Q) := by
    refine zE_if hd ?_
    show zopt (zlk2 zcf (zown M) ix) _ = _
    rw [hq]
    show zif (zfok M c k = true) (if zir c k = true then _ else _) = _
    unfold zif
    rw [if_pos ho, if_neg (by rw [hz]; decide)]
    rfl
  rw [e, hb, and_assoc]
  simp
theorem zX_putR {ix c k f c9 a v : Nat} (hd : zdec M pc = some (.putfield ix)) (hq : zlk2 zcf (zown M) ix = some (c, k)) (hz : zir c k = true) (ho : zfok M c k = true) (hf : 64 * c + k = f) (hc : 10 + c = c9) (hp : pc + 3 = pc') : zE M pc ls (.inr v :: .inr a :: st) h Q ↔ ((zK h a).1 = c9 ∧ zE M pc' ls st (zsR h f a v) Q) := by
  subst hf hc hp
  refine zE_if hd ?_
  show zopt (zlk2 zcf (zown M) ix) _ = _
  rw [hq]
  show zif (zfok M c k = true) (if zir c k = true then _ else _) = _
  unfold zif
  rw [if_pos ho, if_pos hz]
  rfl
theorem zX_iaload {a : Nat} {i : Int} (hd : zdec M pc = some .iaload) (hp : pc + 1 = pc') : zE M pc ls (.inl i :: .inr a :: st) h Q ↔ (((zK h a).1 = 1 ∨ (zK h a).1 = 5) ∧ (0 ≤ i ∧ i < (zK h a).2) ∧ zE M pc' ls (.inl (zA h a i.toNat) :: st) h Q) := by
  subst hp
  have e : zE M pc ls (.inl i :: .inr a :: st) h Q ↔ ((((zK h a).1 = 1 ∨ (zK h a).1 = 5) ∧ 0 ≤ i ∧ i < (zK h a).2) ∧ zE M (pc + 1) ls (.inl (zA h a i.toNat) :: st) h Q) := zE_if hd rfl
  rw [e, and_assoc]
theorem zX_iastore {a : Nat} {i x : Int} (hd : zdec M pc = some .iastore) (hp : pc + 1 = pc') : zE M pc ls (.inl x :: .inl i :: .inr a :: st) h Q ↔ ((zK h a).1 = 1 ∧ (0 ≤ i ∧ i < (zK h a).2) ∧ zE M pc' ls st (zsA h a i.toNat x) Q) := by
  subst hp
  have e : zE M pc ls (.inl x :: .inl i :: .inr a :: st) h Q ↔ (((zK h a).1 = 1 ∧ 0 ≤ i ∧ i < (zK h a).2) ∧ zE M (pc + 1) ls st (zsA h a i.toNat x) Q) := zE_if hd rfl
  rw [e, and_assoc]
theorem zX_aaload {a : Nat} {i : Int} (hd : zdec M pc = some .aaload) (hp : pc + 1 = pc') : zE M pc ls (.inl i :: .inr a :: st) h Q ↔ ((2 ≤ (zK h a).1 ∧ (zK h a).1 ≤ 4) ∧ (0 ≤ i ∧ i < (zK h a).2) ∧ zE M pc' ls (.inr (zB h a i.toNat) :: st) h Q) := by
  subst hp
  have e : zE M pc ls (.inl i :: .inr a :: st) h Q ↔ (((2 ≤ (zK h a).1 ∧ (zK h a).1 ≤ 4) ∧ 0 ≤ i ∧ i < (zK h a).2) ∧ zE M (pc + 1) ls (.inr (zB h a i.toNat) :: st) h Q) := zE_if hd rfl
  rw [e, and_assoc]
theorem zX_aastore {a v : Nat} {i : Int} (hd : zdec M pc = some .aastore) (hp : pc + 1 = pc') : zE M pc ls (.inr v :: .inl i :: .inr a :: st) h Q ↔ ((2 ≤ (zK h a).1 ∧ (zK h a).1 ≤ 4) ∧ (zK h v).1 = 10 + zel (zK h a).1 ∧ (0 ≤ i ∧ i < (zK h a).2) ∧ zE M pc' ls st (zsB h a i.toNat v) Q) := by
  subst hp
  have e : zE M pc ls (.inr v :: .inl i :: .inr a :: st) h Q ↔ (((2 ≤ (zK h a).1 ∧ (zK h a).1 ≤ 4) ∧ (zK h v).1 = 10 + zel (zK h a).1 ∧ 0 ≤ i ∧ i < (zK h a).2) ∧ zE M (pc + 1) ls st (zsB h a i.toNat v) Q) := zE_if hd rfl
  rw [e]
  exact ⟨fun q => ⟨q.1.1, q.1.2.1, q.1.2.2, q.2⟩, fun q => ⟨⟨q.1, q.2.1, q.2.2.1⟩, q.2.2.2⟩⟩
theorem zX_alen {a : Nat} (hd : zdec M pc = some .arraylength) (hp : pc + 1 = pc') : zE M pc ls (.inr a :: st) h Q ↔ ((1 ≤ (zK h a).1 ∧ (zK h a).1 ≤ 5) ∧ zE M pc' ls (.inl ((zK h a).2 : Int) :: st) h Q) := by subst hp; exact zE_if hd rfl
theorem zX_newarray {n : Int} (hd : zdec M pc = some (.newarray .int)) (hp : pc + 2 = pc') : zE M pc ls (.inl n :: st) h Q ↔ ((0 ≤ n ∧ n ≤ 100000) ∧ zE M pc' ls (.inr (zn h) :: st) (znA h 1 n.toNat) Q) := by subst hp; exact zE_if hd rfl
theorem zX_anewarray {n : Int} {ix c t : Nat} (hd : zdec M pc = some (.anewarray ix)) (hq : zlkc (zown M) ix = some c) (ht : zat c = t) (ht0 : t ≠ 0) (hp : pc + 3 = pc') : zE M pc ls (.inl n :: st) h Q ↔ ((0 ≤ n ∧ n ≤ 100000) ∧ zE M pc' ls (.inr (zn h) :: st) (znA h t n.toNat) Q) := by
  subst hp ht
  have e : zE M pc ls (.inl n :: st) h Q ↔ ((zat c ≠ 0 ∧ 0 ≤ n ∧ n ≤ 100000) ∧ zE M (pc + 3) ls (.inr (zn h) :: st) (znA h (zat c) n.toNat) Q) := by
    refine zE_if hd ?_
    show zopt (zlkc (zown M) ix) _ = _
    rw [hq]
    rfl
  rw [e]
  exact ⟨fun q => ⟨q.1.2, q.2⟩, fun q => ⟨⟨ht0, q.1⟩, q.2⟩⟩
theorem zX_new {ix c N : Nat} (hd : zdec M pc = some (.new ix)) (hq : zlkc (zown M) ix = some c) (hN : (zcw c).2.2 = N) (hp : pc + 3 = pc') : zE M pc ls st h Q ↔ zE M pc' ls (.inr (zn h) :: st) (znO h c N) Q := by
  subst hp hN
  exact zE_mv hd (by show zopt (zlkc (zown M) ix) _ = _; rw [hq]; rfl)
theorem zX_objInit {ix a k9 : Nat} (hd : zdec M pc = some (.invokespecial ix)) (hq : zlk2 zcm (zown M) ix = some (4, k9)) (hr : 1 ≤ zrk M ∧ 20 ≤ zlo M) (h8 : st.length ≤ 8) (hp : pc + 3 = pc') : zE M pc ls (.inr a :: st) h Q ↔ (a ≠ 0 ∧ zE M pc' ls st h Q) := by
  subst hp
  have e : zE M pc ls (.inr a :: st) h Q ↔ ((a ≠ 0 ∧ st.length ≤ 8) ∧ zE M (pc + 3) ls st h Q) := by
    refine zE_if hd ?_
    show zopt (zlk2 zcm (zown M) ix) _ = _
    rw [hq]
    dsimp only [zopt]
    rw [if_neg (by decide)]
    exact if_pos ⟨rfl, hr.1, hr.2⟩
  rw [e]
  exact ⟨fun q => ⟨q.1.1, q.2⟩, fun q => ⟨⟨q.1, h8⟩, q.2⟩⟩
theorem zX_max {ix k9 : Nat} {x y : Int} (hd : zdec M pc = some (.invokestatic ix)) (hq : zlk2 zcm (zown M) ix = some (6, k9)) (hr : 1 ≤ zrk M ∧ 40 ≤ zlo M) (h8 : st.length ≤ 8) (hp : pc + 3 = pc') : zE M pc ls (.inl y :: .inl x :: st) h Q ↔ zE M pc' ls (.inl (max x y) :: st) h Q := by
  subst hp
  refine zE_mv hd ?_
  show zopt (zlk2 zcm (zown M) ix) _ = _
  rw [hq]
  exact if_pos ⟨hr.1, hr.2, h8⟩
theorem zX_min {ix k9 : Nat} {x y : Int} (hd : zdec M pc = some (.invokestatic ix)) (hq : zlk2 zcm (zown M) ix = some (7, k9)) (hr : 1 ≤ zrk M ∧ 40 ≤ zlo M) (h8 : st.length ≤ 8) (hp : pc + 3 = pc') : zE M pc ls (.inl y :: .inl x :: st) h Q ↔ zE M pc' ls (.inl (min x y) :: st) h Q := by
  subst hp
  refine zE_mv hd ?_
  show zopt (zlk2 zcm (zown M) ix) _ = _
  rw [hq]
  exact if_pos ⟨hr.1, hr.2, h8⟩
theorem zX_copy {ix k9 a d : Nat} {n sp dp : Int} (hd : zdec M pc = some (.invokestatic ix)) (hq : zlk2 zcm (zown M) ix = some (5, k9)) (hr : 1 ≤ zrk M ∧ 40 ≤ zlo M) (h8 : st.length ≤ 8) (hp : pc + 3 = pc') : zE M pc ls (.inl n :: .inl dp :: .inr d :: .inl sp :: .inr a :: st) h Q ↔ ((sp = 0 ∧ dp = 0 ∧ 0 ≤ n) ∧ ((zK h a).1 = 1 ∧ (zK h d).1 = 1) ∧ (n ≤ (zK h a).2 ∧ n ≤ (zK h d).2) ∧ zE M pc' ls st (zcp h a d n.toNat) Q) := by
  subst hp
  have e : zE M pc ls (.inl n :: .inl dp :: .inr d :: .inl sp :: .inr a :: st) h Q ↔ (((sp = 0 ∧ dp = 0 ∧ 0 ≤ n) ∧ ((zK h a).1 = 1 ∧ (zK h d).1 = 1) ∧ n ≤ (zK h a).2 ∧ n ≤ (zK h d).2 ∧ st.length ≤ 8) ∧ zE M (pc + 3) ls st (zcp h a d n.toNat) Q) := by
    refine zE_if hd ?_
    show zopt (zlk2 zcm (zown M) ix) _ = _
    rw [hq]
    exact if_pos ⟨rfl, hr.1, hr.2⟩
  rw [e]
  exact ⟨fun q => ⟨q.1.1, q.1.2.1, ⟨q.1.2.2.1, q.1.2.2.2.1⟩, q.2⟩, fun q => ⟨⟨q.1, q.2.1, q.2.2.1.1, q.2.2.1.2, h8⟩, q.2.2.2⟩⟩
theorem zX_ireturn {x : Int} (hd : zdec M pc = some .ireturn) (hr : zrt M = some .int) : zE M pc ls [.inl x] h Q ↔ Q (some (.inl x)) h := zE_rt hd (if_pos (Or.inl hr))
theorem zX_zreturn {x : Int} (hd : zdec M pc = some .ireturn) (hr : zrt M = some .boolean) : zE M pc ls [.inl x] h Q ↔ ((x = 0 ∨ x = 1) ∧ Q (some (.inl x)) h) := by
  by_cases hx : x = 0 ∨ x = 1
  · rw [zE_rt hd (show zstep M .ireturn pc ls [.inl x] h = _ from if_pos (Or.inr ⟨hr, hx⟩))]
    exact ⟨fun q => ⟨hx, q⟩, fun q => q.2⟩
  · constructor
    · intro q
      refine absurd q (zE_no hd (show zstep M .ireturn pc ls [.inl x] h = none from if_neg ?_))
      rintro (h1 | h1)
      · rw [hr] at h1; cases h1
      · exact hx h1.2
    · intro q
      exact absurd q.1 hx
theorem zX_areturn {a : Nat} {C : String} (hd : zdec M pc = some .areturn) (hr : zrt M = some (.object C)) : zE M pc ls [.inr a] h Q ↔ Q (some (.inr a)) h := zE_rt hd (by show (match zrt M with | some (.object _) => _ | _ => none) = _; rw [hr])
theorem zX_return (hd : zdec M pc = some .return_) (hr : zrt M = none) : zE M pc ls [] h Q ↔ Q none h := zE_rt hd (by show (match zrt M with | none => _ | _ => none) = _; rw [hr])
/-- what a call needs of the tables -/
def zcok (M M' n m : Nat) : Bool := decide (zrk M' + 1 ≤ zrk M ∧ 19 + zml M' + zlo M' ≤ zlo M ∧ n ≤ zml M' ∧ 1 ≤ M' ∧ M' < 177 ∧ zml M' = m)
theorem zcall_eq {M' n m : Nat} {ok : List zV → Bool} {as rest : List zV} (hc : zcok M M' n m = true) (hst : st = as.reverse ++ rest) (hn : as.length = n) (h8 : rest.length ≤ 8) (hok : ok as = true) : zcall M M' n st ok = some (.inr (.inr (M', as, rest))) := by
  have h1 := of_decide_eq_true hc
  have e1 : st.take n = as.reverse := by rw [hst, List.take_left' (by rw [List.length_reverse]; exact hn)]
  have e2 : st.drop n = rest := by rw [hst, List.drop_left' (by rw [List.length_reverse]; exact hn)]
  have e3 : n ≤ st.length := by rw [hst, List.length_append, List.length_reverse]; omega
  unfold zcall
  rw [e1, e2, List.reverse_reverse]
  exact if_pos ⟨e3, h8, h1.1, h1.2.1, h1.2.2.1, h1.2.2.2.1, h1.2.2.2.2.1, hok⟩
theorem zX_callS {ix M' n m kd : Nat} {as rest : List zV} {ls' : zL} (hd : zdec M pc = some (.invokestatic ix)) (hq : zlk2 zcm (zown M) ix = some (kd, M')) (hk : kd = 0 ∨ kd = 1) (hnp : znp M' = n) (hc : zcok M M' n m = true) (hst : st = as.reverse ++ rest) (hn : as.length = n) (h8 : rest.length ≤ 8) (hl : as.map some ++ List.replicate (m - n) none = ls') (hp : pc + 3 = pc') :
    zE M pc ls st h Q ↔ zE M' 0 ls' [] h (fun r h' => zE M pc' ls (r.toList ++ rest) h' Q) := by
  subst hp hnp
  have h1 := of_decide_eq_true hc
  have e : zent M' as = ls' := by unfold zent; rw [h1.2.2.2.2.2, hn]; exact hl
  rw [← e]
  refine zE_cl hd ?_
  show zopt (zlk2 zcm (zown M) ix) _ = _
  rw [hq]
  show (if kd = 0 ∨ kd = 1 then zcall M M' (znp M') st (fun _ => true) else _) = _
  rw [if_pos hk]
  exact zcall_eq hc hst hn h8 rfl
theorem zX_callV {ix M' n m c9 a : Nat} {as rest : List zV} {ls' : zL} (hd : zdec M pc = some (.invokevirtual ix)) (hq : zlk2 zcm (zown M) ix = some (2, M')) (hnp : znp M' + 1 = n) (hc9 : 10 + zown M' = c9) (ho : Nat.blt (zown M') 11 = true) (hc : zcok M M' n m = true) (hst : st = (.inr a :: as).reverse ++ rest) (hn : as.length + 1 = n) (h8 : rest.length ≤ 8) (hl : (.inr a :: as).map some ++ List.replicate (m - n) none = ls') (hp : pc + 3 = pc') :
    zE M pc ls st h Q ↔ ((zK h a).1 = c9 ∧ zE M' 0 ls' [] h (fun r h' => zE M pc' ls (r.toList ++ rest) h' Q)) := by
  subst hp hnp hc9
  have h1 := of_decide_eq_true hc
  have e : zent M' (.inr a :: as) = ls' := by unfold zent; rw [h1.2.2.2.2.2, List.length_cons, hn]; exact hl
  by_cases hk : (zK h a).1 = 10 + zown M'
  · have hok : zrcv h M' (.inr a :: as) = true := by
      show (Nat.beq (zK h a).1 (10 + zown M') && Nat.blt (zown M') 11) = true
      rw [ho, hk, Nat.beq_refl]
      rfl
    have e2 : zE M pc ls st h Q ↔ zE M' 0 (zent M' (.inr a :: as)) [] h (fun r h' => zE M (pc + 3) ls (r.toList ++ rest) h' Q) := by
      refine zE_cl hd ?_
      show zopt (zlk2 zcm (zown M) ix) _ = _
      rw [hq]
      show zif ((2 : Nat) = 2) (zcall M M' (znp M' + 1) st (zrcv h M')) = _
      unfold zif
      rw [if_pos rfl]
      exact zcall_eq hc hst hn h8 hok
    rw [e2, e]
    exact ⟨fun q => ⟨hk, q⟩, fun q => q.2⟩
  · constructor
    · intro q
      refine absurd q (zE_no hd ?_)
      show zopt (zlk2 zcm (zown M) ix) _ = _
      rw [hq]
      show zif ((2 : Nat) = 2) (zcall M M' (znp M' + 1) st (zrcv h M')) = _
      unfold zif
      rw [if_pos rfl]
      unfold zcall zif
      refine if_neg ?_
      rintro ⟨-, -, -, -, -, -, -, h9⟩
      have e1 : st.take (znp M' + 1) = (.inr a :: as).reverse := by rw [hst, List.take_left' (by rw [List.length_reverse]; exact hn)]
      rw [e1, List.reverse_reverse] at h9
      have h9' : (Nat.beq (zK h a).1 (10 + zown M') && Nat.blt (zown M') 11) = true := h9
      rw [ho, Bool.and_true] at h9'
      exact hk (Nat.eq_of_beq_eq_true h9')
    · intro q
      exact absurd q.1 hk
theorem zX_callI {ix M' n m a : Nat} {as rest : List zV} {ls' : zL} (hd : zdec M pc = some (.invokespecial ix)) (hq : zlk2 zcm (zown M) ix = some (3, M')) (hnp : znp M' + 1 = n) (hc : zcok M M' n m = true) (hst : st = (.inr a :: as).reverse ++ rest) (hn : as.length + 1 = n) (h8 : rest.length ≤ 8) (hl : (.inr a :: as).map some ++ List.replicate (m - n) none = ls') (hp : pc + 3 = pc') :
    zE M pc ls st h Q ↔ (a ≠ 0 ∧ zE M' 0 ls' [] h (fun r h' => zE M pc' ls (r.toList ++ rest) h' Q)) := by
  subst hp hnp
  have h1 := of_decide_eq_true hc
  have e : zent M' (.inr a :: as) = ls' := by unfold zent; rw [h1.2.2.2.2.2, List.length_cons, hn]; exact hl
  by_cases hk : a ≠ 0
  · have hok : znn (.inr a :: as) = true := by
      show (!(Nat.beq a 0)) = true
      cases a with
      | zero => exact absurd rfl hk
      | succ a => rfl
    have e2 : zE M pc ls st h Q ↔ zE M' 0 (zent M' (.inr a :: as)) [] h (fun r h' => zE M (pc + 3) ls (r.toList ++ rest) h' Q) := by
      refine zE_cl hd ?_
      show zopt (zlk2 zcm (zown M) ix) _ = _
      rw [hq]
      dsimp only [zopt]
      rw [if_pos rfl]
      exact zcall_eq hc hst hn h8 hok
    rw [e2, e]
    exact ⟨fun q => ⟨hk, q⟩, fun q => q.2⟩
  · constructor
    · intro q
      refine absurd q (zE_no hd ?_)
      show zopt (zlk2 zcm (zown M) ix) _ = _
      rw [hq]
      dsimp only [zopt]
      rw [if_pos rfl]
      unfold zcall zif
      refine if_neg ?_
      rintro ⟨-, -, -, -, -, -, -, h9⟩
      have e1 : st.take (znp M' + 1) = (.inr a :: as).reverse := by rw [hst, List.take_left' (by rw [List.length_reverse]; exact hn)]
      rw [e1, List.reverse_reverse] at h9
      have : a = 0 := Classical.not_not.mp hk
      subst this
      cases h9
    · intro q
      exact absurd q.1 hk
end zRows
/-- a table of ways on -/
def ztab (tg : List Nat) (i : Nat) (k : Nat → Prop) : Prop := match tg[i]? with
  | some t => k t
  | none => False
theorem zX_tab {M pc d9 : Nat} {ls : zL} {st : List zV} {h : zH} {Q : Option zV → zH → Prop} {d lo hi x : Int} {offs : Array Int} {tg : List Nat} (hd : zdec M pc = some (.tableswitch d lo hi offs)) (h9 : (pc : Int) + d = (d9 : Int)) (ht : offs.toList.map (fun o => (pc : Int) + o) = tg.map (fun t : Nat => (t : Int))) :
    zE M pc ls (.inl x :: st) h Q ↔ if x < lo ∨ hi < x then zE M d9 ls st h Q else ztab tg (x - lo).toNat (fun t => zE M t ls st h Q) := by
  by_cases hx : x < lo ∨ hi < x
  · rw [if_pos hx]
    exact zE_mv hd ((if_pos hx).trans (zjmp_eq (k := fun t => zgo t ls st h) h9))
  · rw [if_neg hx]
    have h1 : (offs.toList.map (fun o => (pc : Int) + o))[(x - lo).toNat]? = (tg.map (fun t : Nat => (t : Int)))[(x - lo).toNat]? := by rw [ht]
    rw [List.getElem?_map, List.getElem?_map, Array.getElem?_toList] at h1
    have hs : zstep M (.tableswitch d lo hi offs) pc ls (.inl x :: st) h = zopt offs[(x - lo).toNat]? (fun off => zjmp pc off fun t => zgo t ls st h) := if_neg hx
    unfold ztab
    cases ho : offs[(x - lo).toNat]? with
    | none =>
      rw [ho] at h1 hs
      cases hg : tg[(x - lo).toNat]? with
      | none => exact ⟨fun q => absurd q (zE_no hd hs), fun q => q.elim⟩
      | some t => rw [hg] at h1; cases h1
    | some o =>
      rw [ho] at h1 hs
      cases hg : tg[(x - lo).toNat]? with
      | none => rw [hg] at h1; cases h1
      | some t =>
        rw [hg] at h1
        simp only [Option.map_some, Option.some.injEq] at h1
        exact zE_mv hd (hs.trans (zjmp_eq (k := fun t => zgo t ls st h) h1))
end
section
-- FarTypewriter$Guess.<init>()V
theorem xX2_init_0 {a0 : Nat} {h : zH} {Q : Option zV → zH → Prop} : zE 14 0 [some (.inr a0)] [] h Q ↔ a0 ≠ 0 ∧ zE 14 4 [some (.inr a0)] [] h Q := (zX_aload_n (k := 0) (x := a0) (pc' := 1) (by decide +kernel) rfl rfl).trans <| zX_objInit (ix := 3) (k9 := 0) (pc' := 4) (by decide +kernel) (by decide +kernel) (by decide +kernel) (Nat.le_of_ble_eq_true rfl) rfl
theorem xX2_init_4  {l0 : Option zV} {h : zH} {Q : Option zV → zH → Prop} : zE 14 4 [l0] [] h Q ↔ Q none h := zX_return (by decide +kernel) (by decide +kernel)
-- FarTypewriter$Guess.isRight(LFarTypewriter$State;)Z
theorem xX2_isRight_0 {a0 : Nat} {l1 : Option zV} {h : zH} {Q : Option zV → zH → Prop} : zE 15 0 [some (.inr a0), l1] [] h Q ↔ (zK h a0).1 = 11 ∧ (if (zI h 68 a0) = ((-1)) then zE 15 40 [some (.inr a0), l1] [] h Q else zE 15 8 [some (.inr a0), l1] [] h Q) := (zX_aload_n (k := 0) (x := a0) (pc' := 1) (by decide +kernel) rfl rfl).trans <| (zX_getI (ix := 9) (c := 1) (k := 4) (f := 68) (c9 := 11) (pc' := 4) (by decide +kernel) (by decide +kernel) (by decide +kernel) rfl rfl rfl).trans <| and_congr_right' <| (zX_iconst (n := -1) (pc' := 5) (by decide +kernel) (by decide) rfl).trans <| zX_icmp_eq (off := 35) (t := 40) (pc' := 8) (by decide +kernel) (by decide) rfl
theorem xX2_isRight_8 {a1 : Nat} {a0 : Nat} {h : zH} {Q : Option zV → zH → Prop} : zE 15 8 [some (.inr a0), some (.inr a1)] [] h Q ↔ (zK h a1).1 = 17 ∧ (zK h a0).1 = 11 ∧ (zK h a0).1 = 11 ∧ (zK h (zR h 448 a1)).1 = 16 ∧ zE 56 0 [some (.inr (zR h 448 a1)), some (.inl (zI h 66 a0)), some (.inl (zI h 67 a0))] [] h (fun r h' => zE 15 23 [some (.inr a0), some (.inr a1)] (r.toList ++ []) h' Q) := (zX_aload_n (k := 1) (x := a1) (pc' := 9) (by decide +kernel) rfl rfl).trans <| (zX_getR (ix := 15) (c := 7) (k := 0) (f := 448) (c9 := 17) (pc' := 12) (by decide +kernel) (by decide +kernel) (by decide +kernel) rfl rfl rfl).trans <| and_congr_right' <| (zX_aload_n (k := 0) (x := a0) (pc' := 13) (by decide +kernel) rfl rfl).trans <| (zX_getI (ix := 21) (c := 1) (k := 2) (f := 66) (c9 := 11) (pc' := 16) (by decide +kernel) (by decide +kernel) (by decide +kernel) rfl rfl rfl).trans <| and_congr_right' <| (zX_aload_n (k := 0) (x := a0) (pc' := 17) (by decide +kernel) rfl rfl).trans <| (zX_getI (ix := 24) (c := 1) (k := 3) (f := 67) (c9 := 11) (pc' := 20) (by decide +kernel) (by decide +kernel) (by decide +kernel) rfl rfl rfl).trans <| and_congr_right' <| zX_callV (ix := 27) (M' := 56) (n := 3) (m := 3) (c9 := 16) (a := zR h 448 a1) (as := [.inl (zI h 66 a0), .inl (zI h 67 a0)]) (rest := []) (ls' := [some (.inr (zR h 448 a1)), some (.inl (zI h 66 a0)), some (.inl (zI h 67 a0))]) (pc' := 23) (by decide +kernel) (by decide +kernel) (by decide +kernel) (by decide +kernel) (by decide +kernel) (by decide +kernel) rfl rfl (Nat.le_of_ble_eq_true rfl) rfl rfl
theorem xX2_isRight_23 {s0 : Int} {a0 : Nat} {l1 : Option zV} {h : zH} {Q : Option zV → zH → Prop} : zE 15 23 [some (.inr a0), l1] [.inl s0] h Q ↔ (128 : Int) ≠ 0 ∧ (zK h a0).1 = 11 ∧ (if (zw (s0.tmod 128)) ≠ (zI h 68 a0) then zE 15 38 [some (.inr a0), l1] [] h Q else zE 15 34 [some (.inr a0), l1] [] h Q) := (zX_sipush (n := 128) (pc' := 26) (by decide +kernel) (by decide) rfl).trans <| (zX_irem (pc' := 27) (by decide +kernel) rfl).trans <| and_congr_right' <| (zX_aload_n (k := 0) (x := a0) (pc' := 28) (by decide +kernel) rfl rfl).trans <| (zX_getI (ix := 9) (c := 1) (k := 4) (f := 68) (c9 := 11) (pc' := 31) (by decide +kernel) (by decide +kernel) (by decide +kernel) rfl rfl rfl).trans <| and_congr_right' <| zX_icmp_ne (off := 7) (t := 38) (pc' := 34) (by decide +kernel) (by decide) rfl
theorem xX2_isRight_34  {l0 l1 : Option zV} {h : zH} {Q : Option zV → zH → Prop} : zE 15 34 [l0, l1] [] h Q ↔ zE 15 39 [l0, l1] [.inl 1] h Q := (zX_iconst (n := 1) (pc' := 35) (by decide +kernel) (by decide) rfl).trans <| zX_goto (off := 4) (t := 39) (by decide +kernel) (by decide)
theorem xX2_isRight_38  {l0 l1 : Option zV} {h : zH} {Q : Option zV → zH → Prop} : zE 15 38 [l0, l1] [] h Q ↔ zE 15 39 [l0, l1] [.inl 0] h Q := (zX_iconst (n := 0) (pc' := 39) (by decide +kernel) (by decide) rfl).trans <| Iff.rfl
theorem xX2_isRight_39 {s0 : Int} {l0 l1 : Option zV} {h : zH} {Q : Option zV → zH → Prop} : zE 15 39 [l0, l1] [.inl s0] h Q ↔ (s0 = 0 ∨ s0 = 1) ∧ Q (some (.inl s0)) h := zX_zreturn (by decide +kernel) (by decide +kernel)
theorem xX2_isRight_40 {a0 : Nat} {a1 : Nat} {h : zH} {Q : Option zV → zH → Prop} : zE 15 40 [some (.inr a0), some (.inr a1)] [] h Q ↔ (zK h a0).1 = 11 ∧ (zK h a1).1 = 17 ∧ (if (zI h 64 a0) < (zI h 450 a1) then zE 15 79 [some (.inr a0), some (.inr a1)] [] h Q else zE 15 51 [some (.inr a0), some (.inr a1)] [] h Q) := (zX_aload_n (k := 0) (x := a0) (pc' := 41) (by decide +kernel) rfl rfl).trans <| (zX_getI (ix := 33) (c := 1) (k := 0) (f := 64) (c9 := 11) (pc' := 44) (by decide +kernel) (by decide +kernel) (by decide +kernel) rfl rfl rfl).trans <| and_congr_right' <| (zX_aload_n (k := 1) (x := a1) (pc' := 45) (by decide +kernel) rfl rfl).trans <| (zX_getI (ix := 36) (c := 7) (k := 2) (f := 450) (c9 := 17) (pc' := 48) (by decide +kernel) (by decide +kernel) (by decide +kernel) rfl rfl rfl).trans <| and_congr_right' <| zX_icmp_lt (off := 31) (t := 79) (pc' := 51) (by decide +kernel) (by decide) rfl
theorem xX2_isRight_51 {a1 : Nat} {a0 : Nat} {h : zH} {Q : Option zV → zH → Prop} : zE 15 51 [some (.inr a0), some (.inr a1)] [] h Q ↔ (zK h a1).1 = 17 ∧ (zK h (zR h 448 a1)).1 = 16 ∧ (zK h a0).1 = 11 ∧ (if (zI h 385 (zR h 448 a1)) ≠ (zI h 69 a0) then zE 15 83 [some (.inr a0), some (.inr a1)] [] h Q else zE 15 65 [some (.inr a0), some (.inr a1)] [] h Q) := (zX_aload_n (k := 1) (x := a1) (pc' := 52) (by decide +kernel) rfl rfl).trans <| (zX_getR (ix := 15) (c := 7) (k := 0) (f := 448) (c9 := 17) (pc' := 55) (by decide +kernel) (by decide +kernel) (by decide +kernel) rfl rfl rfl).trans <| and_congr_right' <| (zX_getI (ix := 39) (c := 6) (k := 1) (f := 385) (c9 := 16) (pc' := 58) (by decide +kernel) (by decide +kernel) (by decide +kernel) rfl rfl rfl).trans <| and_congr_right' <| (zX_aload_n (k := 0) (x := a0) (pc' := 59) (by decide +kernel) rfl rfl).trans <| (zX_getI (ix := 40) (c := 1) (k := 5) (f := 69) (c9 := 11) (pc' := 62) (by decide +kernel) (by decide +kernel) (by decide +kernel) rfl rfl rfl).trans <| and_congr_right' <| zX_icmp_ne (off := 21) (t := 83) (pc' := 65) (by decide +kernel) (by decide) rfl
theorem xX2_isRight_65 {a1 : Nat} {a0 : Nat} {h : zH} {Q : Option zV → zH → Prop} : zE 15 65 [some (.inr a0), some (.inr a1)] [] h Q ↔ (zK h a1).1 = 17 ∧ (zK h (zR h 448 a1)).1 = 16 ∧ (zK h a0).1 = 11 ∧ (if (zI h 386 (zR h 448 a1)) ≠ (zI h 70 a0) then zE 15 83 [some (.inr a0), some (.inr a1)] [] h Q else zE 15 79 [some (.inr a0), some (.inr a1)] [] h Q) := (zX_aload_n (k := 1) (x := a1) (pc' := 66) (by decide +kernel) rfl rfl).trans <| (zX_getR (ix := 15) (c := 7) (k := 0) (f := 448) (c9 := 17) (pc' := 69) (by decide +kernel) (by decide +kernel) (by decide +kernel) rfl rfl rfl).trans <| and_congr_right' <| (zX_getI (ix := 43) (c := 6) (k := 2) (f := 386) (c9 := 16) (pc' := 72) (by decide +kernel) (by decide +kernel) (by decide +kernel) rfl rfl rfl).trans <| and_congr_right' <| (zX_aload_n (k := 0) (x := a0) (pc' := 73) (by decide +kernel) rfl rfl).trans <| (zX_getI (ix := 44) (c := 1) (k := 6) (f := 70) (c9 := 11) (pc' := 76) (by decide +kernel) (by decide +kernel) (by decide +kernel) rfl rfl rfl).trans <| and_congr_right' <| zX_icmp_ne (off := 7) (t := 83) (pc' := 79) (by decide +kernel) (by decide) rfl
theorem xX2_isRight_79  {l0 l1 : Option zV} {h : zH} {Q : Option zV → zH → Prop} : zE 15 79 [l0, l1] [] h Q ↔ zE 15 84 [l0, l1] [.inl 1] h Q := (zX_iconst (n := 1) (pc' := 80) (by decide +kernel) (by decide) rfl).trans <| zX_goto (off := 4) (t := 84) (by decide +kernel) (by decide)
theorem xX2_isRight_83  {l0 l1 : Option zV} {h : zH} {Q : Option zV → zH → Prop} : zE 15 83 [l0, l1] [] h Q ↔ zE 15 84 [l0, l1] [.inl 0] h Q := (zX_iconst (n := 0) (pc' := 84) (by decide +kernel) (by decide) rfl).trans <| Iff.rfl
theorem xX2_isRight_84 {s0 : Int} {l0 l1 : Option zV} {h : zH} {Q : Option zV → zH → Prop} : zE 15 84 [l0, l1] [.inl s0] h Q ↔ (s0 = 0 ∨ s0 = 1) ∧ Q (some (.inl s0)) h := zX_zreturn (by decide +kernel) (by decide +kernel)
-- FarTypewriter$Letter.<init>(I)V
theorem xX4_init_0 {a0 : Nat} {l1 : Option zV} {h : zH} {Q : Option zV → zH → Prop} : zE 30 0 [some (.inr a0), l1] [] h Q ↔ a0 ≠ 0 ∧ zE 30 4 [some (.inr a0), l1] [] h Q := (zX_aload_n (k := 0) (x := a0) (pc' := 1) (by decide +kernel) rfl rfl).trans <| zX_objInit (ix := 3) (k9 := 0) (pc' := 4) (by decide +kernel) (by decide +kernel) (by decide +kernel) (Nat.le_of_ble_eq_true rfl) rfl
theorem xX4_init_4 {a0 : Nat} {x1 : Int} {h : zH} {Q : Option zV → zH → Prop} : zE 30 4 [some (.inr a0), some (.inl x1)] [] h Q ↔ zE 30 10 [some (.inr a0), some (.inl x1)] [.inl (max x1 0), .inr a0] h Q := (zX_aload_n (k := 0) (x := a0) (pc' := 5) (by decide +kernel) rfl rfl).trans <| (zX_iload_n (k := 1) (x := x1) (pc' := 6) (by decide +kernel) rfl rfl).trans <| (zX_iconst (n := 0) (pc' := 7) (by decide +kernel) (by decide) rfl).trans <| zX_max (ix := 9) (k9 := 0) (pc' := 10) (by decide +kernel) (by decide +kernel) (by decide +kernel) (Nat.le_of_ble_eq_true rfl) rfl
theorem xX4_init_10 {s0 : Int} {s1 : Nat} {l0 l1 : Option zV} {h : zH} {Q : Option zV → zH → Prop} : zE 30 10 [l0, l1] [.inl s0, .inr s1] h Q ↔ (0 ≤ s0 ∧ s0 ≤ 100000) ∧ zE 30 12 [l0, l1] [.inr (zn h), .inr s1] (znA h 1 s0.toNat) Q := zX_newarray (pc' := 12) (by decide +kernel) rfl
theorem xX4_init_12 {s0 : Nat} {s1 : Nat} {l0 l1 : Option zV} {h : zH} {Q : Option zV → zH → Prop} : zE 30 12 [l0, l1] [.inr s0, .inr s1] h Q ↔ (zK h s1).1 = 13 ∧ zE 30 15 [l0, l1] [] (zsR h 192 s1 s0) Q := zX_putR (ix := 15) (c := 3) (k := 0) (f := 192) (c9 := 13) (pc' := 15) (by decide +kernel) (by decide +kernel) (by decide +kernel) (by decide +kernel) rfl rfl rfl
theorem xX4_init_15  {l0 l1 : Option zV} {h : zH} {Q : Option zV → zH → Prop} : zE 30 15 [l0, l1] [] h Q ↔ Q none h := zX_return (by decide +kernel) (by decide +kernel)
-- FarTypewriter$Letter.put(I)V
theorem xX4_put_0 {a0 : Nat} {l1 : Option zV} {h : zH} {Q : Option zV → zH → Prop} : zE 31 0 [some (.inr a0), l1] [] h Q ↔ (zK h a0).1 = 13 ∧ (if (zI h 193 a0) < 0 then zE 31 43 [some (.inr a0), l1] [] h Q else zE 31 7 [some (.inr a0), l1] [] h Q) := (zX_aload_n (k := 0) (x := a0) (pc' := 1) (by decide +kernel) rfl rfl).trans <| (zX_getI (ix := 21) (c := 3) (k := 1) (f := 193) (c9 := 13) (pc' := 4) (by decide +kernel) (by decide +kernel) (by decide +kernel) rfl rfl rfl).trans <| and_congr_right' <| zX_if_lt (off := 39) (t := 43) (pc' := 7) (by decide +kernel) (by decide) rfl
theorem xX4_put_7 {a0 : Nat} {l1 : Option zV} {h : zH} {Q : Option zV → zH → Prop} : zE 31 7 [some (.inr a0), l1] [] h Q ↔ (zK h a0).1 = 13 ∧ (zK h a0).1 = 13 ∧ (1 ≤ (zK h (zR h 192 a0)).1 ∧ (zK h (zR h 192 a0)).1 ≤ 5) ∧ (if (((zK h (zR h 192 a0)).2 : Int)) ≤ (zI h 193 a0) then zE 31 43 [some (.inr a0), l1] [] h Q else zE 31 19 [some (.inr a0), l1] [] h Q) := (zX_aload_n (k := 0) (x := a0) (pc' := 8) (by decide +kernel) rfl rfl).trans <| (zX_getI (ix := 21) (c := 3) (k := 1) (f := 193) (c9 := 13) (pc' := 11) (by decide +kernel) (by decide +kernel) (by decide +kernel) rfl rfl rfl).trans <| and_congr_right' <| (zX_aload_n (k := 0) (x := a0) (pc' := 12) (by decide +kernel) rfl rfl).trans <| (zX_getR (ix := 15) (c := 3) (k := 0) (f := 192) (c9 := 13) (pc' := 15) (by decide +kernel) (by decide +kernel) (by decide +kernel) rfl rfl rfl).trans <| and_congr_right' <| (zX_alen (pc' := 16) (by decide +kernel) rfl).trans <| and_congr_right' <| zX_icmp_ge (off := 27) (t := 43) (pc' := 19) (by decide +kernel) (by decide) rfl
theorem xX4_put_19 {a0 : Nat} {x1 : Int} {h : zH} {Q : Option zV → zH → Prop} : zE 31 19 [some (.inr a0), some (.inl x1)] [] h Q ↔ (zK h a0).1 = 13 ∧ (zK h a0).1 = 13 ∧ (zK h (zR h 192 a0)).1 = 1 ∧ (0 ≤ (zI h 193 a0) ∧ (zI h 193 a0) < (zK h (zR h 192 a0)).2) ∧ zE 31 33 [some (.inr a0), some (.inl x1)] [] (zsA h (zR h 192 a0) (zI h 193 a0).toNat (zand x1 255)) Q := (zX_aload_n (k := 0) (x := a0) (pc' := 20) (by decide +kernel) rfl rfl).trans <| (zX_getR (ix := 15) (c := 3) (k := 0) (f := 192) (c9 := 13) (pc' := 23) (by decide +kernel) (by decide +kernel) (by decide +kernel) rfl rfl rfl).trans <| and_congr_right' <| (zX_aload_n (k := 0) (x := a0) (pc' := 24) (by decide +kernel) rfl rfl).trans <| (zX_getI (ix := 21) (c := 3) (k := 1) (f := 193) (c9 := 13) (pc' := 27) (by decide +kernel) (by decide +kernel) (by decide +kernel) rfl rfl rfl).trans <| and_congr_right' <| (zX_iload_n (k := 1) (x := x1) (pc' := 28) (by decide +kernel) rfl rfl).trans <| (zX_sipush (n := 255) (pc' := 31) (by decide +kernel) (by decide) rfl).trans <| (zX_iand (pc' := 32) (by decide +kernel) rfl).trans <| zX_iastore (pc' := 33) (by decide +kernel) rfl
theorem xX4_put_33 {a0 : Nat} {l1 : Option zV} {h : zH} {Q : Option zV → zH → Prop} : zE 31 33 [some (.inr a0), l1] [] h Q ↔ (zK h a0).1 = 13 ∧ (zK h a0).1 = 13 ∧ zE 31 43 [some (.inr a0), l1] [] (zsI h 193 a0 (zw ((zI h 193 a0) + 1))) Q := (zX_aload_n (k := 0) (x := a0) (pc' := 34) (by decide +kernel) rfl rfl).trans <| (zX_dup (pc' := 35) (by decide +kernel) rfl).trans <| (zX_getI (ix := 21) (c := 3) (k := 1) (f := 193) (c9 := 13) (pc' := 38) (by decide +kernel) (by decide +kernel) (by decide +kernel) rfl rfl rfl).trans <| and_congr_right' <| (zX_iconst (n := 1) (pc' := 39) (by decide +kernel) (by decide) rfl).trans <| (zX_iadd (pc' := 40) (by decide +kernel) rfl).trans <| zX_putI (ix := 21) (c := 3) (k := 1) (f := 193) (c9 := 13) (pc' := 43) (by decide +kernel) (by decide +kernel) (by decide +kernel) (by decide +kernel) (by decide +kernel) rfl rfl rfl
theorem xX4_put_43  {l0 l1 : Option zV} {h : zH} {Q : Option zV → zH → Prop} : zE 31 43 [l0, l1] [] h Q ↔ Q none h := zX_return (by decide +kernel) (by decide +kernel)
-- FarTypewriter$Letter.putNumber(I)V
theorem xX4_putNumber_0 {a0 : Nat} {x1 : Int} {h : zH} {Q : Option zV → zH → Prop} : zE 32 0 [some (.inr a0), some (.inl x1)] [] h Q ↔ (zK h a0).1 = 13 ∧ zE 31 0 [some (.inr a0), some (.inl (zshr x1 8))] [] h (fun r h' => zE 32 8 [some (.inr a0), some (.inl x1)] (r.toList ++ []) h' Q) := (zX_aload_n (k := 0) (x := a0) (pc' := 1) (by decide +kernel) rfl rfl).trans <| (zX_iload_n (k := 1) (x := x1) (pc' := 2) (by decide +kernel) rfl rfl).trans <| (zX_bipush (n := 8) (pc' := 4) (by decide +kernel) (by decide) rfl).trans <| (zX_ishr (pc' := 5) (by decide +kernel) rfl).trans <| zX_callV (ix := 25) (M' := 31) (n := 2) (m := 2) (c9 := 13) (a := a0) (as := [.inl (zshr x1 8)]) (rest := []) (ls' := [some (.inr a0), some (.inl (zshr x1 8))]) (pc' := 8) (by decide +kernel) (by decide +kernel) (by decide +kernel) (by decide +kernel) (by decide +kernel) (by decide +kernel) rfl rfl (Nat.le_of_ble_eq_true rfl) rfl rfl
theorem xX4_putNumber_8 {a0 : Nat} {x1 : Int} {h : zH} {Q : Option zV → zH → Prop} : zE 32 8 [some (.inr a0), some (.inl x1)] [] h Q ↔ (zK h a0).1 = 13 ∧ zE 31 0 [some (.inr a0), some (.inl x1)] [] h (fun r h' => zE 32 13 [some (.inr a0), some (.inl x1)] (r.toList ++ []) h' Q) := (zX_aload_n (k := 0) (x := a0) (pc' := 9) (by decide +kernel) rfl rfl).trans <| (zX_iload_n (k := 1) (x := x1) (pc' := 10) (by decide +kernel) rfl rfl).trans <| zX_callV (ix := 25) (M' := 31) (n := 2) (m := 2) (c9 := 13) (a := a0) (as := [.inl x1]) (rest := []) (ls' := [some (.inr a0), some (.inl x1)]) (pc' := 13) (by decide +kernel) (by decide +kernel) (by decide +kernel) (by decide +kernel) (by decide +kernel) (by decide +kernel) rfl rfl (Nat.le_of_ble_eq_true rfl) rfl rfl
theorem xX4_putNumber_13  {l0 l1 : Option zV} {h : zH} {Q : Option zV → zH → Prop} : zE 32 13 [l0, l1] [] h Q ↔ Q none h := zX_return (by decide +kernel) (by decide +kernel)
-- FarTypewriter$Letter.seal()V
theorem xX4_seal_0 {a0 : Nat} {h : zH} {Q : Option zV → zH → Prop} : zE 33 0 [some (.inr a0)] [] h Q ↔ (zK h a0).1 = 13 ∧ (zK h a0).1 = 13 ∧ zE 39 0 [some (.inr a0), some (.inl (zI h 193 a0)), none, none] [] h (fun r h' => zE 33 9 [some (.inr a0)] (r.toList ++ [.inr a0]) h' Q) := (zX_aload_n (k := 0) (x := a0) (pc' := 1) (by decide +kernel) rfl rfl).trans <| (zX_aload_n (k := 0) (x := a0) (pc' := 2) (by decide +kernel) rfl rfl).trans <| (zX_aload_n (k := 0) (x := a0) (pc' := 3) (by decide +kernel) rfl rfl).trans <| (zX_getI (ix := 21) (c := 3) (k := 1) (f := 193) (c9 := 13) (pc' := 6) (by decide +kernel) (by decide +kernel) (by decide +kernel) rfl rfl rfl).trans <| and_congr_right' <| zX_callV (ix := 29) (M' := 39) (n := 2) (m := 4) (c9 := 13) (a := a0) (as := [.inl (zI h 193 a0)]) (rest := [.inr a0]) (ls' := [some (.inr a0), some (.inl (zI h 193 a0)), none, none]) (pc' := 9) (by decide +kernel) (by decide +kernel) (by decide +kernel) (by decide +kernel) (by decide +kernel) (by decide +kernel) rfl rfl (Nat.le_of_ble_eq_true rfl) rfl rfl
theorem xX4_seal_9 {s0 : Int} {s1 : Nat} {l0 : Option zV} {h : zH} {Q : Option zV → zH → Prop} : zE 33 9 [l0] [.inl s0, .inr s1] h Q ↔ (zK h s1).1 = 13 ∧ zE 32 0 [some (.inr s1), some (.inl s0)] [] h (fun r h' => zE 33 12 [l0] (r.toList ++ []) h' Q) := zX_callV (ix := 33) (M' := 32) (n := 2) (m := 2) (c9 := 13) (a := s1) (as := [.inl s0]) (rest := []) (ls' := [some (.inr s1), some (.inl s0)]) (pc' := 12) (by decide +kernel) (by decide +kernel) (by decide +kernel) (by decide +kernel) (by decide +kernel) (by decide +kernel) rfl rfl (Nat.le_of_ble_eq_true rfl) rfl rfl
theorem xX4_seal_12  {l0 : Option zV} {h : zH} {Q : Option zV → zH → Prop} : zE 33 12 [l0] [] h Q ↔ Q none h := zX_return (by decide +kernel) (by decide +kernel)
-- FarTypewriter$Letter.at(I)I
theorem xX4_at_0 {x1 : Int} {l0 : Option zV} {h : zH} {Q : Option zV → zH → Prop} : zE 34 0 [l0, some (.inl x1)] [] h Q ↔ if x1 < 0 then zE 34 30 [l0, some (.inl x1)] [] h Q else zE 34 4 [l0, some (.inl x1)] [] h Q := (zX_iload_n (k := 1) (x := x1) (pc' := 1) (by decide +kernel) rfl rfl).trans <| zX_if_lt (off := 29) (t := 30) (pc' := 4) (by decide +kernel) (by decide) rfl
theorem xX4_at_4 {x1 : Int} {a0 : Nat} {h : zH} {Q : Option zV → zH → Prop} : zE 34 4 [some (.inr a0), some (.inl x1)] [] h Q ↔ (zK h a0).1 = 13 ∧ (if (zI h 193 a0) ≤ x1 then zE 34 30 [some (.inr a0), some (.inl x1)] [] h Q else zE 34 12 [some (.inr a0), some (.inl x1)] [] h Q) := (zX_iload_n (k := 1) (x := x1) (pc' := 5) (by decide +kernel) rfl rfl).trans <| (zX_aload_n (k := 0) (x := a0) (pc' := 6) (by decide +kernel) rfl rfl).trans <| (zX_getI (ix := 21) (c := 3) (k := 1) (f := 193) (c9 := 13) (pc' := 9) (by decide +kernel) (by decide +kernel) (by decide +kernel) rfl rfl rfl).trans <| and_congr_right' <| zX_icmp_ge (off := 21) (t := 30) (pc' := 12) (by decide +kernel) (by decide) rfl
theorem xX4_at_12 {x1 : Int} {a0 : Nat} {h : zH} {Q : Option zV → zH → Prop} : zE 34 12 [some (.inr a0), some (.inl x1)] [] h Q ↔ (zK h a0).1 = 13 ∧ (1 ≤ (zK h (zR h 192 a0)).1 ∧ (zK h (zR h 192 a0)).1 ≤ 5) ∧ (if (((zK h (zR h 192 a0)).2 : Int)) ≤ x1 then zE 34 30 [some (.inr a0), some (.inl x1)] [] h Q else zE 34 21 [some (.inr a0), some (.inl x1)] [] h Q) := (zX_iload_n (k := 1) (x := x1) (pc' := 13) (by decide +kernel) rfl rfl).trans <| (zX_aload_n (k := 0) (x := a0) (pc' := 14) (by decide +kernel) rfl rfl).trans <| (zX_getR (ix := 15) (c := 3) (k := 0) (f := 192) (c9 := 13) (pc' := 17) (by decide +kernel) (by decide +kernel) (by decide +kernel) rfl rfl rfl).trans <| and_congr_right' <| (zX_alen (pc' := 18) (by decide +kernel) rfl).trans <| and_congr_right' <| zX_icmp_ge (off := 12) (t := 30) (pc' := 21) (by decide +kernel) (by decide) rfl
theorem xX4_at_21 {a0 : Nat} {x1 : Int} {h : zH} {Q : Option zV → zH → Prop} : zE 34 21 [some (.inr a0), some (.inl x1)] [] h Q ↔ (zK h a0).1 = 13 ∧ ((zK h (zR h 192 a0)).1 = 1 ∨ (zK h (zR h 192 a0)).1 = 5) ∧ (0 ≤ x1 ∧ x1 < (zK h (zR h 192 a0)).2) ∧ zE 34 31 [some (.inr a0), some (.inl x1)] [.inl (zA h (zR h 192 a0) x1.toNat)] h Q := (zX_aload_n (k := 0) (x := a0) (pc' := 22) (by decide +kernel) rfl rfl).trans <| (zX_getR (ix := 15) (c := 3) (k := 0) (f := 192) (c9 := 13) (pc' := 25) (by decide +kernel) (by decide +kernel) (by decide +kernel) rfl rfl rfl).trans <| and_congr_right' <| (zX_iload_n (k := 1) (x := x1) (pc' := 26) (by decide +kernel) rfl rfl).trans <| (zX_iaload (pc' := 27) (by decide +kernel) rfl).trans <| and_congr_right' <| and_congr_right' <| zX_goto (off := 4) (t := 31) (by decide +kernel) (by decide)
theorem xX4_at_30  {l0 l1 : Option zV} {h : zH} {Q : Option zV → zH → Prop} : zE 34 30 [l0, l1] [] h Q ↔ zE 34 31 [l0, l1] [.inl ((-1))] h Q := (zX_iconst (n := -1) (pc' := 31) (by decide +kernel) (by decide) rfl).trans <| Iff.rfl
theorem xX4_at_31 {s0 : Int} {l0 l1 : Option zV} {h : zH} {Q : Option zV → zH → Prop} : zE 34 31 [l0, l1] [.inl s0] h Q ↔ Q (some (.inl s0)) h := zX_ireturn (by decide +kernel) (by decide +kernel)
-- FarTypewriter$Letter.numberAt(I)I
theorem xX4_numberAt_0 {a0 : Nat} {x1 : Int} {h : zH} {Q : Option zV → zH → Prop} : zE 35 0 [some (.inr a0), some (.inl x1)] [] h Q ↔ (zK h a0).1 = 13 ∧ zE 34 0 [some (.inr a0), some (.inl x1)] [] h (fun r h' => zE 35 5 [some (.inr a0), some (.inl x1)] (r.toList ++ []) h' Q) := (zX_aload_n (k := 0) (x := a0) (pc' := 1) (by decide +kernel) rfl rfl).trans <| (zX_iload_n (k := 1) (x := x1) (pc' := 2) (by decide +kernel) rfl rfl).trans <| zX_callV (ix := 36) (M' := 34) (n := 2) (m := 2) (c9 := 13) (a := a0) (as := [.inl x1]) (rest := []) (ls' := [some (.inr a0), some (.inl x1)]) (pc' := 5) (by decide +kernel) (by decide +kernel) (by decide +kernel) (by decide +kernel) (by decide +kernel) (by decide +kernel) rfl rfl (Nat.le_of_ble_eq_true rfl) rfl rfl
theorem xX4_numberAt_5 {s0 : Int} {a0 : Nat} {x1 : Int} {h : zH} {Q : Option zV → zH → Prop} : zE 35 5 [some (.inr a0), some (.inl x1)] [.inl s0] h Q ↔ (zK h a0).1 = 13 ∧ zE 34 0 [some (.inr a0), some (.inl (zw (x1 + 1)))] [] h (fun r h' => zE 35 16 [some (.inr a0), some (.inl x1)] (r.toList ++ [.inl (zw (s0 * 256))]) h' Q) := (zX_sipush (n := 256) (pc' := 8) (by decide +kernel) (by decide) rfl).trans <| (zX_imul (pc' := 9) (by decide +kernel) rfl).trans <| (zX_aload_n (k := 0) (x := a0) (pc' := 10) (by decide +kernel) rfl rfl).trans <| (zX_iload_n (k := 1) (x := x1) (pc' := 11) (by decide +kernel) rfl rfl).trans <| (zX_iconst (n := 1) (pc' := 12) (by decide +kernel) (by decide) rfl).trans <| (zX_iadd (pc' := 13) (by decide +kernel) rfl).trans <| zX_callV (ix := 36) (M' := 34) (n := 2) (m := 2) (c9 := 13) (a := a0) (as := [.inl (zw (x1 + 1))]) (rest := [.inl (zw (s0 * 256))]) (ls' := [some (.inr a0), some (.inl (zw (x1 + 1)))]) (pc' := 16) (by decide +kernel) (by decide +kernel) (by decide +kernel) (by decide +kernel) (by decide +kernel) (by decide +kernel) rfl rfl (Nat.le_of_ble_eq_true rfl) rfl rfl
theorem xX4_numberAt_16 {s0 : Int} {s1 : Int} {l0 l1 : Option zV} {h : zH} {Q : Option zV → zH → Prop} : zE 35 16 [l0, l1] [.inl s0, .inl s1] h Q ↔ Q (some (.inl (zw (s1 + s0)))) h := (zX_iadd (pc' := 17) (by decide +kernel) rfl).trans <| zX_ireturn (by decide +kernel) (by decide +kernel)
-- FarTypewriter$Letter.isWhole(I)Z
theorem xX4_isWhole_0 {a0 : Nat} {l1 l2 : Option zV} {h : zH} {Q : Option zV → zH → Prop} : zE 36 0 [some (.inr a0), l1, l2] [] h Q ↔ (zK h a0).1 = 13 ∧ (zK h a0).1 = 13 ∧ (if (zI h 193 a0) < 10 then zE 36 42 [some (.inr a0), l1, some (.inl (zw ((zI h 193 a0) - 2)))] [] h Q else zE 36 16 [some (.inr a0), l1, some (.inl (zw ((zI h 193 a0) - 2)))] [] h Q) := (zX_aload_n (k := 0) (x := a0) (pc' := 1) (by decide +kernel) rfl rfl).trans <| (zX_getI (ix := 21) (c := 3) (k := 1) (f := 193) (c9 := 13) (pc' := 4) (by decide +kernel) (by decide +kernel) (by decide +kernel) rfl rfl rfl).trans <| and_congr_right' <| (zX_iconst (n := 2) (pc' := 5) (by decide +kernel) (by decide) rfl).trans <| (zX_isub (pc' := 6) (by decide +kernel) rfl).trans <| (zX_istore_n (k := 2) (ls' := [some (.inr a0), l1, some (.inl (zw ((zI h 193 a0) - 2)))]) (pc' := 7) (by decide +kernel) (Nat.le_of_ble_eq_true rfl) rfl rfl).trans <| (zX_aload_n (k := 0) (x := a0) (pc' := 8) (by decide +kernel) rfl rfl).trans <| (zX_getI (ix := 21) (c := 3) (k := 1) (f := 193) (c9 := 13) (pc' := 11) (by decide +kernel) (by decide +kernel) (by decide +kernel) rfl rfl rfl).trans <| and_congr_right' <| (zX_bipush (n := 10) (pc' := 13) (by decide +kernel) (by decide) rfl).trans <| zX_icmp_lt (off := 29) (t := 42) (pc' := 16) (by decide +kernel) (by decide) rfl
theorem xX4_isWhole_16 {a0 : Nat} {l1 l2 : Option zV} {h : zH} {Q : Option zV → zH → Prop} : zE 36 16 [some (.inr a0), l1, l2] [] h Q ↔ (zK h a0).1 = 13 ∧ zE 34 0 [some (.inr a0), some (.inl 0)] [] h (fun r h' => zE 36 21 [some (.inr a0), l1, l2] (r.toList ++ []) h' Q) := (zX_aload_n (k := 0) (x := a0) (pc' := 17) (by decide +kernel) rfl rfl).trans <| (zX_iconst (n := 0) (pc' := 18) (by decide +kernel) (by decide) rfl).trans <| zX_callV (ix := 36) (M' := 34) (n := 2) (m := 2) (c9 := 13) (a := a0) (as := [.inl 0]) (rest := []) (ls' := [some (.inr a0), some (.inl 0)]) (pc' := 21) (by decide +kernel) (by decide +kernel) (by decide +kernel) (by decide +kernel) (by decide +kernel) (by decide +kernel) rfl rfl (Nat.le_of_ble_eq_true rfl) rfl rfl
theorem xX4_isWhole_21 {s0 : Int} {x1 : Int} {l0 l2 : Option zV} {h : zH} {Q : Option zV → zH → Prop} : zE 36 21 [l0, some (.inl x1), l2] [.inl s0] h Q ↔ if s0 ≠ x1 then zE 36 42 [l0, some (.inl x1), l2] [] h Q else zE 36 25 [l0, some (.inl x1), l2] [] h Q := (zX_iload_n (k := 1) (x := x1) (pc' := 22) (by decide +kernel) rfl rfl).trans <| zX_icmp_ne (off := 20) (t := 42) (pc' := 25) (by decide +kernel) (by decide) rfl
theorem xX4_isWhole_25 {a0 : Nat} {x2 : Int} {l1 : Option zV} {h : zH} {Q : Option zV → zH → Prop} : zE 36 25 [some (.inr a0), l1, some (.inl x2)] [] h Q ↔ (zK h a0).1 = 13 ∧ zE 39 0 [some (.inr a0), some (.inl x2), none, none] [] h (fun r h' => zE 36 30 [some (.inr a0), l1, some (.inl x2)] (r.toList ++ []) h' Q) := (zX_aload_n (k := 0) (x := a0) (pc' := 26) (by decide +kernel) rfl rfl).trans <| (zX_iload_n (k := 2) (x := x2) (pc' := 27) (by decide +kernel) rfl rfl).trans <| zX_callV (ix := 29) (M' := 39) (n := 2) (m := 4) (c9 := 13) (a := a0) (as := [.inl x2]) (rest := []) (ls' := [some (.inr a0), some (.inl x2), none, none]) (pc' := 30) (by decide +kernel) (by decide +kernel) (by decide +kernel) (by decide +kernel) (by decide +kernel) (by decide +kernel) rfl rfl (Nat.le_of_ble_eq_true rfl) rfl rfl
theorem xX4_isWhole_30 {s0 : Int} {a0 : Nat} {x2 : Int} {l1 : Option zV} {h : zH} {Q : Option zV → zH → Prop} : zE 36 30 [some (.inr a0), l1, some (.inl x2)] [.inl s0] h Q ↔ (zK h a0).1 = 13 ∧ zE 35 0 [some (.inr a0), some (.inl x2)] [] h (fun r h' => zE 36 35 [some (.inr a0), l1, some (.inl x2)] (r.toList ++ [.inl s0]) h' Q) := (zX_aload_n (k := 0) (x := a0) (pc' := 31) (by decide +kernel) rfl rfl).trans <| (zX_iload_n (k := 2) (x := x2) (pc' := 32) (by decide +kernel) rfl rfl).trans <| zX_callV (ix := 39) (M' := 35) (n := 2) (m := 2) (c9 := 13) (a := a0) (as := [.inl x2]) (rest := [.inl s0]) (ls' := [some (.inr a0), some (.inl x2)]) (pc' := 35) (by decide +kernel) (by decide +kernel) (by decide +kernel) (by decide +kernel) (by decide +kernel) (by decide +kernel) rfl rfl (Nat.le_of_ble_eq_true rfl) rfl rfl
theorem xX4_isWhole_35 {s0 : Int} {s1 : Int} {l0 l1 l2 : Option zV} {h : zH} {Q : Option zV → zH → Prop} : zE 36 35 [l0, l1, l2] [.inl s0, .inl s1] h Q ↔ if s1 ≠ s0 then zE 36 42 [l0, l1, l2] [] h Q else zE 36 38 [l0, l1, l2] [] h Q := zX_icmp_ne (off := 7) (t := 42) (pc' := 38) (by decide +kernel) (by decide) rfl
theorem xX4_isWhole_38  {l0 l1 l2 : Option zV} {h : zH} {Q : Option zV → zH → Prop} : zE 36 38 [l0, l1, l2] [] h Q ↔ zE 36 43 [l0, l1, l2] [.inl 1] h Q := (zX_iconst (n := 1) (pc' := 39) (by decide +kernel) (by decide) rfl).trans <| zX_goto (off := 4) (t := 43) (by decide +kernel) (by decide)
theorem xX4_isWhole_42  {l0 l1 l2 : Option zV} {h : zH} {Q : Option zV → zH → Prop} : zE 36 42 [l0, l1, l2] [] h Q ↔ zE 36 43 [l0, l1, l2] [.inl 0] h Q := (zX_iconst (n := 0) (pc' := 43) (by decide +kernel) (by decide) rfl).trans <| Iff.rfl
theorem xX4_isWhole_43 {s0 : Int} {l0 l1 l2 : Option zV} {h : zH} {Q : Option zV → zH → Prop} : zE 36 43 [l0, l1, l2] [.inl s0] h Q ↔ (s0 = 0 ∨ s0 = 1) ∧ Q (some (.inl s0)) h := zX_zreturn (by decide +kernel) (by decide +kernel)
-- FarTypewriter$Letter.bend(II)Z
theorem xX4_bend_0 {x1 : Int} {l0 l2 : Option zV} {h : zH} {Q : Option zV → zH → Prop} : zE 37 0 [l0, some (.inl x1), l2] [] h Q ↔ if x1 < 0 then zE 37 21 [l0, some (.inl x1), l2] [] h Q else zE 37 4 [l0, some (.inl x1), l2] [] h Q := (zX_iload_n (k := 1) (x := x1) (pc' := 1) (by decide +kernel) rfl rfl).trans <| zX_if_lt (off := 20) (t := 21) (pc' := 4) (by decide +kernel) (by decide) rfl
theorem xX4_bend_4 {x1 : Int} {a0 : Nat} {l2 : Option zV} {h : zH} {Q : Option zV → zH → Prop} : zE 37 4 [some (.inr a0), some (.inl x1), l2] [] h Q ↔ (zK h a0).1 = 13 ∧ (if (zI h 193 a0) ≤ x1 then zE 37 21 [some (.inr a0), some (.inl x1), l2] [] h Q else zE 37 12 [some (.inr a0), some (.inl x1), l2] [] h Q) := (zX_iload_n (k := 1) (x := x1) (pc' := 5) (by decide +kernel) rfl rfl).trans <| (zX_aload_n (k := 0) (x := a0) (pc' := 6) (by decide +kernel) rfl rfl).trans <| (zX_getI (ix := 21) (c := 3) (k := 1) (f := 193) (c9 := 13) (pc' := 9) (by decide +kernel) (by decide +kernel) (by decide +kernel) rfl rfl rfl).trans <| and_congr_right' <| zX_icmp_ge (off := 12) (t := 21) (pc' := 12) (by decide +kernel) (by decide) rfl
theorem xX4_bend_12 {x1 : Int} {a0 : Nat} {l2 : Option zV} {h : zH} {Q : Option zV → zH → Prop} : zE 37 12 [some (.inr a0), some (.inl x1), l2] [] h Q ↔ (zK h a0).1 = 13 ∧ (1 ≤ (zK h (zR h 192 a0)).1 ∧ (zK h (zR h 192 a0)).1 ≤ 5) ∧ (if x1 < (((zK h (zR h 192 a0)).2 : Int)) then zE 37 23 [some (.inr a0), some (.inl x1), l2] [] h Q else zE 37 21 [some (.inr a0), some (.inl x1), l2] [] h Q) := (zX_iload_n (k := 1) (x := x1) (pc' := 13) (by decide +kernel) rfl rfl).trans <| (zX_aload_n (k := 0) (x := a0) (pc' := 14) (by decide +kernel) rfl rfl).trans <| (zX_getR (ix := 15) (c := 3) (k := 0) (f := 192) (c9 := 13) (pc' := 17) (by decide +kernel) (by decide +kernel) (by decide +kernel) rfl rfl rfl).trans <| and_congr_right' <| (zX_alen (pc' := 18) (by decide +kernel) rfl).trans <| and_congr_right' <| zX_icmp_lt (off := 5) (t := 23) (pc' := 21) (by decide +kernel) (by decide) rfl
theorem xX4_bend_21  {l0 l1 l2 : Option zV} {h : zH} {Q : Option zV → zH → Prop} : zE 37 21 [l0, l1, l2] [] h Q ↔ ((0 : Int) = 0 ∨ (0 : Int) = 1) ∧ Q (some (.inl 0)) h := (zX_iconst (n := 0) (pc' := 22) (by decide +kernel) (by decide) rfl).trans <| zX_zreturn (by decide +kernel) (by decide +kernel)
theorem xX4_bend_23 {a0 : Nat} {x1 : Int} {x2 : Int} {h : zH} {Q : Option zV → zH → Prop} : zE 37 23 [some (.inr a0), some (.inl x1), some (.inl x2)] [] h Q ↔ (zK h a0).1 = 13 ∧ ((zK h (zR h 192 a0)).1 = 1 ∨ (zK h (zR h 192 a0)).1 = 5) ∧ (0 ≤ x1 ∧ x1 < (zK h (zR h 192 a0)).2) ∧ (zK h (zR h 192 a0)).1 = 1 ∧ (0 ≤ x1 ∧ x1 < (zK h (zR h 192 a0)).2) ∧ zE 37 33 [some (.inr a0), some (.inl x1), some (.inl x2)] [] (zsA h (zR h 192 a0) x1.toNat (zxor (zA h (zR h 192 a0) x1.toNat) x2)) Q := (zX_aload_n (k := 0) (x := a0) (pc' := 24) (by decide +kernel) rfl rfl).trans <| (zX_getR (ix := 15) (c := 3) (k := 0) (f := 192) (c9 := 13) (pc' := 27) (by decide +kernel) (by decide +kernel) (by decide +kernel) rfl rfl rfl).trans <| and_congr_right' <| (zX_iload_n (k := 1) (x := x1) (pc' := 28) (by decide +kernel) rfl rfl).trans <| (zX_dup2 (pc' := 29) (by decide +kernel) rfl).trans <| (zX_iaload (pc' := 30) (by decide +kernel) rfl).trans <| and_congr_right' <| and_congr_right' <| (zX_iload_n (k := 2) (x := x2) (pc' := 31) (by decide +kernel) rfl rfl).trans <| (zX_ixor (pc' := 32) (by decide +kernel) rfl).trans <| zX_iastore (pc' := 33) (by decide +kernel) rfl
theorem xX4_bend_33 {x2 : Int} {l0 l1 : Option zV} {h : zH} {Q : Option zV → zH → Prop} : zE 37 33 [l0, l1, some (.inl x2)] [] h Q ↔ if x2 = 0 then zE 37 41 [l0, l1, some (.inl x2)] [] h Q else zE 37 37 [l0, l1, some (.inl x2)] [] h Q := (zX_iload_n (k := 2) (x := x2) (pc' := 34) (by decide +kernel) rfl rfl).trans <| zX_if_eq (off := 7) (t := 41) (pc' := 37) (by decide +kernel) (by decide) rfl
theorem xX4_bend_37  {l0 l1 l2 : Option zV} {h : zH} {Q : Option zV → zH → Prop} : zE 37 37 [l0, l1, l2] [] h Q ↔ zE 37 42 [l0, l1, l2] [.inl 1] h Q := (zX_iconst (n := 1) (pc' := 38) (by decide +kernel) (by decide) rfl).trans <| zX_goto (off := 4) (t := 42) (by decide +kernel) (by decide)
theorem xX4_bend_41  {l0 l1 l2 : Option zV} {h : zH} {Q : Option zV → zH → Prop} : zE 37 41 [l0, l1, l2] [] h Q ↔ zE 37 42 [l0, l1, l2] [.inl 0] h Q := (zX_iconst (n := 0) (pc' := 42) (by decide +kernel) (by decide) rfl).trans <| Iff.rfl
theorem xX4_bend_42 {s0 : Int} {l0 l1 l2 : Option zV} {h : zH} {Q : Option zV → zH → Prop} : zE 37 42 [l0, l1, l2] [.inl s0] h Q ↔ (s0 = 0 ∨ s0 = 1) ∧ Q (some (.inl s0)) h := zX_zreturn (by decide +kernel) (by decide +kernel)
-- FarTypewriter$Letter.copyFrom(LFarTypewriter$Letter;)V
theorem xX4_copyFrom_0 {a0 : Nat} {a1 : Nat} {l2 : Option zV} {h : zH} {Q : Option zV → zH → Prop} : zE 38 0 [some (.inr a0), some (.inr a1), l2] [] h Q ↔ (zK h a0).1 = 13 ∧ (1 ≤ (zK h (zR h 192 a0)).1 ∧ (zK h (zR h 192 a0)).1 ≤ 5) ∧ (zK h a1).1 = 13 ∧ (if (zI h 193 a1) ≤ (((zK h (zR h 192 a0)).2 : Int)) then zE 38 22 [some (.inr a0), some (.inr a1), l2] [] h Q else zE 38 12 [some (.inr a0), some (.inr a1), l2] [] h Q) := (zX_aload_n (k := 0) (x := a0) (pc' := 1) (by decide +kernel) rfl rfl).trans <| (zX_getR (ix := 15) (c := 3) (k := 0) (f := 192) (c9 := 13) (pc' := 4) (by decide +kernel) (by decide +kernel) (by decide +kernel) rfl rfl rfl).trans <| and_congr_right' <| (zX_alen (pc' := 5) (by decide +kernel) rfl).trans <| and_congr_right' <| (zX_aload_n (k := 1) (x := a1) (pc' := 6) (by decide +kernel) rfl rfl).trans <| (zX_getI (ix := 21) (c := 3) (k := 1) (f := 193) (c9 := 13) (pc' := 9) (by decide +kernel) (by decide +kernel) (by decide +kernel) rfl rfl rfl).trans <| and_congr_right' <| zX_icmp_ge (off := 13) (t := 22) (pc' := 12) (by decide +kernel) (by decide) rfl
theorem xX4_copyFrom_12 {a0 : Nat} {a1 : Nat} {l2 : Option zV} {h : zH} {Q : Option zV → zH → Prop} : zE 38 12 [some (.inr a0), some (.inr a1), l2] [] h Q ↔ (zK h a1).1 = 13 ∧ (0 ≤ (zI h 193 a1) ∧ (zI h 193 a1) ≤ 100000) ∧ zE 38 19 [some (.inr a0), some (.inr a1), l2] [.inr (zn h), .inr a0] (znA h 1 (zI h 193 a1).toNat) Q := (zX_aload_n (k := 0) (x := a0) (pc' := 13) (by decide +kernel) rfl rfl).trans <| (zX_aload_n (k := 1) (x := a1) (pc' := 14) (by decide +kernel) rfl rfl).trans <| (zX_getI (ix := 21) (c := 3) (k := 1) (f := 193) (c9 := 13) (pc' := 17) (by decide +kernel) (by decide +kernel) (by decide +kernel) rfl rfl rfl).trans <| and_congr_right' <| zX_newarray (pc' := 19) (by decide +kernel) rfl
theorem xX4_copyFrom_19 {s0 : Nat} {s1 : Nat} {l0 l1 l2 : Option zV} {h : zH} {Q : Option zV → zH → Prop} : zE 38 19 [l0, l1, l2] [.inr s0, .inr s1] h Q ↔ (zK h s1).1 = 13 ∧ zE 38 22 [l0, l1, l2] [] (zsR h 192 s1 s0) Q := zX_putR (ix := 15) (c := 3) (k := 0) (f := 192) (c9 := 13) (pc' := 22) (by decide +kernel) (by decide +kernel) (by decide +kernel) (by decide +kernel) rfl rfl rfl
theorem xX4_copyFrom_22 {a0 : Nat} {l1 l2 : Option zV} {h : zH} {Q : Option zV → zH → Prop} : zE 38 22 [some (.inr a0), l1, l2] [] h Q ↔ (zK h a0).1 = 13 ∧ zE 38 27 [some (.inr a0), l1, l2] [] (zsI h 193 a0 0) Q := (zX_aload_n (k := 0) (x := a0) (pc' := 23) (by decide +kernel) rfl rfl).trans <| (zX_iconst (n := 0) (pc' := 24) (by decide +kernel) (by decide) rfl).trans <| zX_putI (ix := 21) (c := 3) (k := 1) (f := 193) (c9 := 13) (pc' := 27) (by decide +kernel) (by decide +kernel) (by decide +kernel) (by decide +kernel) (by decide +kernel) rfl rfl rfl
theorem xX4_copyFrom_27  {l0 l1 l2 : Option zV} {h : zH} {Q : Option zV → zH → Prop} : zE 38 27 [l0, l1, l2] [] h Q ↔ zE 38 29 [l0, l1, some (.inl 0)] [] h Q := (zX_iconst (n := 0) (pc' := 28) (by decide +kernel) (by decide) rfl).trans <| (zX_istore_n (k := 2) (ls' := [l0, l1, some (.inl 0)]) (pc' := 29) (by decide +kernel) (Nat.le_of_ble_eq_true rfl) rfl rfl).trans <| Iff.rfl
theorem xX4_copyFrom_29 {x2 : Int} {a1 : Nat} {l0 : Option zV} {h : zH} {Q : Option zV → zH → Prop} : zE 38 29 [l0, some (.inr a1), some (.inl x2)] [] h Q ↔ (zK h a1).1 = 13 ∧ (if (zI h 193 a1) ≤ x2 then zE 38 52 [l0, some (.inr a1), some (.inl x2)] [] h Q else zE 38 37 [l0, some (.inr a1), some (.inl x2)] [] h Q) := (zX_iload_n (k := 2) (x := x2) (pc' := 30) (by decide +kernel) rfl rfl).trans <| (zX_aload_n (k := 1) (x := a1) (pc' := 31) (by decide +kernel) rfl rfl).trans <| (zX_getI (ix := 21) (c := 3) (k := 1) (f := 193) (c9 := 13) (pc' := 34) (by decide +kernel) (by decide +kernel) (by decide +kernel) rfl rfl rfl).trans <| and_congr_right' <| zX_icmp_ge (off := 18) (t := 52) (pc' := 37) (by decide +kernel) (by decide) rfl
theorem xX4_copyFrom_37 {a0 : Nat} {a1 : Nat} {x2 : Int} {h : zH} {Q : Option zV → zH → Prop} : zE 38 37 [some (.inr a0), some (.inr a1), some (.inl x2)] [] h Q ↔ (zK h a1).1 = 13 ∧ zE 34 0 [some (.inr a1), some (.inl x2)] [] h (fun r h' => zE 38 43 [some (.inr a0), some (.inr a1), some (.inl x2)] (r.toList ++ [.inr a0]) h' Q) := (zX_aload_n (k := 0) (x := a0) (pc' := 38) (by decide +kernel) rfl rfl).trans <| (zX_aload_n (k := 1) (x := a1) (pc' := 39) (by decide +kernel) rfl rfl).trans <| (zX_iload_n (k := 2) (x := x2) (pc' := 40) (by decide +kernel) rfl rfl).trans <| zX_callV (ix := 36) (M' := 34) (n := 2) (m := 2) (c9 := 13) (a := a1) (as := [.inl x2]) (rest := [.inr a0]) (ls' := [some (.inr a1), some (.inl x2)]) (pc' := 43) (by decide +kernel) (by decide +kernel) (by decide +kernel) (by decide +kernel) (by decide +kernel) (by decide +kernel) rfl rfl (Nat.le_of_ble_eq_true rfl) rfl rfl
theorem xX4_copyFrom_43 {s0 : Int} {s1 : Nat} {l0 l1 l2 : Option zV} {h : zH} {Q : Option zV → zH → Prop} : zE 38 43 [l0, l1, l2] [.inl s0, .inr s1] h Q ↔ (zK h s1).1 = 13 ∧ zE 31 0 [some (.inr s1), some (.inl s0)] [] h (fun r h' => zE 38 46 [l0, l1, l2] (r.toList ++ []) h' Q) := zX_callV (ix := 25) (M' := 31) (n := 2) (m := 2) (c9 := 13) (a := s1) (as := [.inl s0]) (rest := []) (ls' := [some (.inr s1), some (.inl s0)]) (pc' := 46) (by decide +kernel) (by decide +kernel) (by decide +kernel) (by decide +kernel) (by decide +kernel) (by decide +kernel) rfl rfl (Nat.le_of_ble_eq_true rfl) rfl rfl
theorem xX4_copyFrom_46 {x2 : Int} {l0 l1 : Option zV} {h : zH} {Q : Option zV → zH → Prop} : zE 38 46 [l0, l1, some (.inl x2)] [] h Q ↔ zE 38 29 [l0, l1, some (.inl (zw (x2 + 1)))] [] h Q := (zX_iinc (k := 2) (n := 1) (x := x2) (ls' := [l0, l1, some (.inl (zw (x2 + 1)))]) (pc' := 49) (by decide +kernel) rfl rfl rfl).trans <| zX_goto (off := -20) (t := 29) (by decide +kernel) (by decide)
theorem xX4_copyFrom_52  {l0 l1 l2 : Option zV} {h : zH} {Q : Option zV → zH → Prop} : zE 38 52 [l0, l1, l2] [] h Q ↔ Q none h := zX_return (by decide +kernel) (by decide +kernel)
-- FarTypewriter$Letter.sumAhead(I)I
theorem xX4_sumAhead_0  {l0 l1 l2 l3 : Option zV} {h : zH} {Q : Option zV → zH → Prop} : zE 39 0 [l0, l1, l2, l3] [] h Q ↔ zE 39 4 [l0, l1, some (.inl 1), some (.inl 0)] [] h Q := (zX_iconst (n := 1) (pc' := 1) (by decide +kernel) (by decide) rfl).trans <| (zX_istore_n (k := 2) (ls' := [l0, l1, some (.inl 1), l3]) (pc' := 2) (by decide +kernel) (Nat.le_of_ble_eq_true rfl) rfl rfl).trans <| (zX_iconst (n := 0) (pc' := 3) (by decide +kernel) (by decide) rfl).trans <| (zX_istore_n (k := 3) (ls' := [l0, l1, some (.inl 1), some (.inl 0)]) (pc' := 4) (by decide +kernel) (Nat.le_of_ble_eq_true rfl) rfl rfl).trans <| Iff.rfl
theorem xX4_sumAhead_4 {x3 : Int} {x1 : Int} {l0 l2 : Option zV} {h : zH} {Q : Option zV → zH → Prop} : zE 39 4 [l0, some (.inl x1), l2, some (.inl x3)] [] h Q ↔ if x1 ≤ x3 then zE 39 29 [l0, some (.inl x1), l2, some (.inl x3)] [] h Q else zE 39 9 [l0, some (.inl x1), l2, some (.inl x3)] [] h Q := (zX_iload_n (k := 3) (x := x3) (pc' := 5) (by decide +kernel) rfl rfl).trans <| (zX_iload_n (k := 1) (x := x1) (pc' := 6) (by decide +kernel) rfl rfl).trans <| zX_icmp_ge (off := 23) (t := 29) (pc' := 9) (by decide +kernel) (by decide) rfl
theorem xX4_sumAhead_9 {x2 : Int} {a0 : Nat} {x3 : Int} {l1 : Option zV} {h : zH} {Q : Option zV → zH → Prop} : zE 39 9 [some (.inr a0), l1, some (.inl x2), some (.inl x3)] [] h Q ↔ (zK h a0).1 = 13 ∧ zE 34 0 [some (.inr a0), some (.inl x3)] [] h (fun r h' => zE 39 18 [some (.inr a0), l1, some (.inl x2), some (.inl x3)] (r.toList ++ [.inl (zw (31 * x2))]) h' Q) := (zX_bipush (n := 31) (pc' := 11) (by decide +kernel) (by decide) rfl).trans <| (zX_iload_n (k := 2) (x := x2) (pc' := 12) (by decide +kernel) rfl rfl).trans <| (zX_imul (pc' := 13) (by decide +kernel) rfl).trans <| (zX_aload_n (k := 0) (x := a0) (pc' := 14) (by decide +kernel) rfl rfl).trans <| (zX_iload_n (k := 3) (x := x3) (pc' := 15) (by decide +kernel) rfl rfl).trans <| zX_callV (ix := 36) (M' := 34) (n := 2) (m := 2) (c9 := 13) (a := a0) (as := [.inl x3]) (rest := [.inl (zw (31 * x2))]) (ls' := [some (.inr a0), some (.inl x3)]) (pc' := 18) (by decide +kernel) (by decide +kernel) (by decide +kernel) (by decide +kernel) (by decide +kernel) (by decide +kernel) rfl rfl (Nat.le_of_ble_eq_true rfl) rfl rfl
theorem xX4_sumAhead_18 {s0 : Int} {s1 : Int} {x3 : Int} {l0 l1 l2 : Option zV} {h : zH} {Q : Option zV → zH → Prop} : zE 39 18 [l0, l1, l2, some (.inl x3)] [.inl s0, .inl s1] h Q ↔ (65521 : Int) ≠ 0 ∧ zE 39 4 [l0, l1, some (.inl (zw ((zw (s1 + s0)).tmod 65521))), some (.inl (zw (x3 + 1)))] [] h Q := (zX_iadd (pc' := 19) (by decide +kernel) rfl).trans <| (zX_ldc (ix := 42) (v := 65521) (pc' := 21) (by decide +kernel) (by decide +kernel) (by decide) rfl).trans <| (zX_irem (pc' := 22) (by decide +kernel) rfl).trans <| and_congr_right' <| (zX_istore_n (k := 2) (ls' := [l0, l1, some (.inl (zw ((zw (s1 + s0)).tmod 65521))), some (.inl x3)]) (pc' := 23) (by decide +kernel) (Nat.le_of_ble_eq_true rfl) rfl rfl).trans <| (zX_iinc (k := 3) (n := 1) (x := x3) (ls' := [l0, l1, some (.inl (zw ((zw (s1 + s0)).tmod 65521))), some (.inl (zw (x3 + 1)))]) (pc' := 26) (by decide +kernel) rfl rfl rfl).trans <| zX_goto (off := -22) (t := 4) (by decide +kernel) (by decide)
theorem xX4_sumAhead_29 {x2 : Int} {l0 l1 l3 : Option zV} {h : zH} {Q : Option zV → zH → Prop} : zE 39 29 [l0, l1, some (.inl x2), l3] [] h Q ↔ Q (some (.inl x2)) h := (zX_iload_n (k := 2) (x := x2) (pc' := 30) (by decide +kernel) rfl rfl).trans <| zX_ireturn (by decide +kernel) (by decide +kernel)
-- FarTypewriter$Line.<init>()V
theorem xX5_init_0 {a0 : Nat} {h : zH} {Q : Option zV → zH → Prop} : zE 40 0 [some (.inr a0)] [] h Q ↔ a0 ≠ 0 ∧ zE 40 4 [some (.inr a0)] [] h Q := (zX_aload_n (k := 0) (x := a0) (pc' := 1) (by decide +kernel) rfl rfl).trans <| zX_objInit (ix := 3) (k9 := 0) (pc' := 4) (by decide +kernel) (by decide +kernel) (by decide +kernel) (Nat.le_of_ble_eq_true rfl) rfl
theorem xX5_init_4 {a0 : Nat} {h : zH} {Q : Option zV → zH → Prop} : zE 40 4 [some (.inr a0)] [] h Q ↔ (0 ≤ (40 : Int) ∧ (40 : Int) ≤ 100000) ∧ zE 40 10 [some (.inr a0)] [.inr (zn h), .inr a0] (znA h 3 (40 : Int).toNat) Q := (zX_aload_n (k := 0) (x := a0) (pc' := 5) (by decide +kernel) rfl rfl).trans <| (zX_bipush (n := 40) (pc' := 7) (by decide +kernel) (by decide) rfl).trans <| zX_anewarray (ix := 9) (c := 3) (t := 3) (pc' := 10) (by decide +kernel) (by decide +kernel) rfl (by decide) rfl
theorem xX5_init_10 {s0 : Nat} {s1 : Nat} {l0 : Option zV} {h : zH} {Q : Option zV → zH → Prop} : zE 40 10 [l0] [.inr s0, .inr s1] h Q ↔ (zK h s1).1 = 14 ∧ zE 40 13 [l0] [] (zsR h 256 s1 s0) Q := zX_putR (ix := 11) (c := 4) (k := 0) (f := 256) (c9 := 14) (pc' := 13) (by decide +kernel) (by decide +kernel) (by decide +kernel) (by decide +kernel) rfl rfl rfl
theorem xX5_init_13  {l0 : Option zV} {h : zH} {Q : Option zV → zH → Prop} : zE 40 13 [l0] [] h Q ↔ Q none h := zX_return (by decide +kernel) (by decide +kernel)
-- FarTypewriter$Line.find(I)LFarTypewriter$Letter;
theorem xX5_find_0 {x1 : Int} {l0 : Option zV} {h : zH} {Q : Option zV → zH → Prop} : zE 41 0 [l0, some (.inl x1)] [] h Q ↔ if x1 < 0 then zE 41 27 [l0, some (.inl x1)] [] h Q else zE 41 4 [l0, some (.inl x1)] [] h Q := (zX_iload_n (k := 1) (x := x1) (pc' := 1) (by decide +kernel) rfl rfl).trans <| zX_if_lt (off := 26) (t := 27) (pc' := 4) (by decide +kernel) (by decide) rfl
theorem xX5_find_4 {x1 : Int} {a0 : Nat} {h : zH} {Q : Option zV → zH → Prop} : zE 41 4 [some (.inr a0), some (.inl x1)] [] h Q ↔ (zK h a0).1 = 14 ∧ (if (zI h 257 a0) ≤ x1 then zE 41 27 [some (.inr a0), some (.inl x1)] [] h Q else zE 41 12 [some (.inr a0), some (.inl x1)] [] h Q) := (zX_iload_n (k := 1) (x := x1) (pc' := 5) (by decide +kernel) rfl rfl).trans <| (zX_aload_n (k := 0) (x := a0) (pc' := 6) (by decide +kernel) rfl rfl).trans <| (zX_getI (ix := 17) (c := 4) (k := 1) (f := 257) (c9 := 14) (pc' := 9) (by decide +kernel) (by decide +kernel) (by decide +kernel) rfl rfl rfl).trans <| and_congr_right' <| zX_icmp_ge (off := 18) (t := 27) (pc' := 12) (by decide +kernel) (by decide) rfl
theorem xX5_find_12 {x1 : Int} {l0 : Option zV} {h : zH} {Q : Option zV → zH → Prop} : zE 41 12 [l0, some (.inl x1)] [] h Q ↔ if 40 ≤ x1 then zE 41 27 [l0, some (.inl x1)] [] h Q else zE 41 18 [l0, some (.inl x1)] [] h Q := (zX_iload_n (k := 1) (x := x1) (pc' := 13) (by decide +kernel) rfl rfl).trans <| (zX_bipush (n := 40) (pc' := 15) (by decide +kernel) (by decide) rfl).trans <| zX_icmp_ge (off := 12) (t := 27) (pc' := 18) (by decide +kernel) (by decide) rfl
theorem xX5_find_18 {a0 : Nat} {x1 : Int} {h : zH} {Q : Option zV → zH → Prop} : zE 41 18 [some (.inr a0), some (.inl x1)] [] h Q ↔ (zK h a0).1 = 14 ∧ (2 ≤ (zK h (zR h 256 a0)).1 ∧ (zK h (zR h 256 a0)).1 ≤ 4) ∧ (0 ≤ x1 ∧ x1 < (zK h (zR h 256 a0)).2) ∧ zE 41 28 [some (.inr a0), some (.inl x1)] [.inr (zB h (zR h 256 a0) x1.toNat)] h Q := (zX_aload_n (k := 0) (x := a0) (pc' := 19) (by decide +kernel) rfl rfl).trans <| (zX_getR (ix := 11) (c := 4) (k := 0) (f := 256) (c9 := 14) (pc' := 22) (by decide +kernel) (by decide +kernel) (by decide +kernel) rfl rfl rfl).trans <| and_congr_right' <| (zX_iload_n (k := 1) (x := x1) (pc' := 23) (by decide +kernel) rfl rfl).trans <| (zX_aaload (pc' := 24) (by decide +kernel) rfl).trans <| and_congr_right' <| and_congr_right' <| zX_goto (off := 4) (t := 28) (by decide +kernel) (by decide)
theorem xX5_find_27  {l0 l1 : Option zV} {h : zH} {Q : Option zV → zH → Prop} : zE 41 27 [l0, l1] [] h Q ↔ zE 41 28 [l0, l1] [.inr 0] h Q := (zX_null (pc' := 28) (by decide +kernel) rfl).trans <| Iff.rfl
theorem xX5_find_28 {s0 : Nat} {l0 l1 : Option zV} {h : zH} {Q : Option zV → zH → Prop} : zE 41 28 [l0, l1] [.inr s0] h Q ↔ Q (some (.inr s0)) h := zX_areturn (C := "FarTypewriter$Letter") (by decide +kernel) (by decide +kernel)
-- FarTypewriter$Line.append(LFarTypewriter$Letter;)Z
theorem xX5_append_0 {a0 : Nat} {l1 l2 : Option zV} {h : zH} {Q : Option zV → zH → Prop} : zE 42 0 [some (.inr a0), l1, l2] [] h Q ↔ (zK h a0).1 = 14 ∧ (if (zI h 257 a0) < 0 then zE 42 16 [some (.inr a0), l1, l2] [] h Q else zE 42 7 [some (.inr a0), l1, l2] [] h Q) := (zX_aload_n (k := 0) (x := a0) (pc' := 1) (by decide +kernel) rfl rfl).trans <| (zX_getI (ix := 17) (c := 4) (k := 1) (f := 257) (c9 := 14) (pc' := 4) (by decide +kernel) (by decide +kernel) (by decide +kernel) rfl rfl rfl).trans <| and_congr_right' <| zX_if_lt (off := 12) (t := 16) (pc' := 7) (by decide +kernel) (by decide) rfl
theorem xX5_append_7 {a0 : Nat} {l1 l2 : Option zV} {h : zH} {Q : Option zV → zH → Prop} : zE 42 7 [some (.inr a0), l1, l2] [] h Q ↔ (zK h a0).1 = 14 ∧ (if (zI h 257 a0) < 40 then zE 42 18 [some (.inr a0), l1, l2] [] h Q else zE 42 16 [some (.inr a0), l1, l2] [] h Q) := (zX_aload_n (k := 0) (x := a0) (pc' := 8) (by decide +kernel) rfl rfl).trans <| (zX_getI (ix := 17) (c := 4) (k := 1) (f := 257) (c9 := 14) (pc' := 11) (by decide +kernel) (by decide +kernel) (by decide +kernel) rfl rfl rfl).trans <| and_congr_right' <| (zX_bipush (n := 40) (pc' := 13) (by decide +kernel) (by decide) rfl).trans <| zX_icmp_lt (off := 5) (t := 18) (pc' := 16) (by decide +kernel) (by decide) rfl
theorem xX5_append_16  {l0 l1 l2 : Option zV} {h : zH} {Q : Option zV → zH → Prop} : zE 42 16 [l0, l1, l2] [] h Q ↔ ((0 : Int) = 0 ∨ (0 : Int) = 1) ∧ Q (some (.inl 0)) h := (zX_iconst (n := 0) (pc' := 17) (by decide +kernel) (by decide) rfl).trans <| zX_zreturn (by decide +kernel) (by decide +kernel)
theorem xX5_append_18 {a0 : Nat} {l1 l2 : Option zV} {h : zH} {Q : Option zV → zH → Prop} : zE 42 18 [some (.inr a0), l1, l2] [] h Q ↔ (zK h a0).1 = 14 ∧ (zK h a0).1 = 14 ∧ (2 ≤ (zK h (zR h 256 a0)).1 ∧ (zK h (zR h 256 a0)).1 ≤ 4) ∧ (0 ≤ (zI h 257 a0) ∧ (zI h 257 a0) < (zK h (zR h 256 a0)).2) ∧ (if (zB h (zR h 256 a0) (zI h 257 a0).toNat) ≠ 0 then zE 42 54 [some (.inr a0), l1, some (.inr (zB h (zR h 256 a0) (zI h 257 a0).toNat))] [] h Q else zE 42 32 [some (.inr a0), l1, some (.inr (zB h (zR h 256 a0) (zI h 257 a0).toNat))] [] h Q) := (zX_aload_n (k := 0) (x := a0) (pc' := 19) (by decide +kernel) rfl rfl).trans <| (zX_getR (ix := 11) (c := 4) (k := 0) (f := 256) (c9 := 14) (pc' := 22) (by decide +kernel) (by decide +kernel) (by decide +kernel) rfl rfl rfl).trans <| and_congr_right' <| (zX_aload_n (k := 0) (x := a0) (pc' := 23) (by decide +kernel) rfl rfl).trans <| (zX_getI (ix := 17) (c := 4) (k := 1) (f := 257) (c9 := 14) (pc' := 26) (by decide +kernel) (by decide +kernel) (by decide +kernel) rfl rfl rfl).trans <| and_congr_right' <| (zX_aaload (pc' := 27) (by decide +kernel) rfl).trans <| and_congr_right' <| and_congr_right' <| (zX_astore_n (k := 2) (ls' := [some (.inr a0), l1, some (.inr (zB h (zR h 256 a0) (zI h 257 a0).toNat))]) (pc' := 28) (by decide +kernel) (Nat.le_of_ble_eq_true rfl) rfl rfl).trans <| (zX_aload_n (k := 2) (x := zB h (zR h 256 a0) (zI h 257 a0).toNat) (pc' := 29) (by decide +kernel) rfl rfl).trans <| zX_ifnonnull (off := 25) (t := 54) (pc' := 32) (by decide +kernel) (by decide) rfl
theorem xX5_append_32  {l0 l1 l2 : Option zV} {h : zH} {Q : Option zV → zH → Prop} : zE 42 32 [l0, l1, l2] [] h Q ↔ zE 42 35 [l0, l1, l2] [.inr (zn h)] (znO h 3 2) Q := zX_new (ix := 9) (c := 3) (N := 2) (pc' := 35) (by decide +kernel) (by decide +kernel) (by decide +kernel) rfl
theorem xX5_append_35 {s0 : Nat} {a1 : Nat} {l0 l2 : Option zV} {h : zH} {Q : Option zV → zH → Prop} : zE 42 35 [l0, some (.inr a1), l2] [.inr s0] h Q ↔ (zK h a1).1 = 13 ∧ s0 ≠ 0 ∧ zE 30 0 [some (.inr s0), some (.inl (zI h 193 a1))] [] h (fun r h' => zE 42 43 [l0, some (.inr a1), l2] (r.toList ++ [.inr s0]) h' Q) := (zX_dup (pc' := 36) (by decide +kernel) rfl).trans <| (zX_aload_n (k := 1) (x := a1) (pc' := 37) (by decide +kernel) rfl rfl).trans <| (zX_getI (ix := 21) (c := 3) (k := 1) (f := 193) (c9 := 13) (pc' := 40) (by decide +kernel) (by decide +kernel) (by decide +kernel) rfl rfl rfl).trans <| and_congr_right' <| zX_callI (ix := 24) (M' := 30) (n := 2) (m := 2) (a := s0) (as := [.inl (zI h 193 a1)]) (rest := [.inr s0]) (ls' := [some (.inr s0), some (.inl (zI h 193 a1))]) (pc' := 43) (by decide +kernel) (by decide +kernel) (by decide +kernel) (by decide +kernel) rfl rfl (Nat.le_of_ble_eq_true rfl) rfl rfl
theorem xX5_append_43 {s0 : Nat} {a0 : Nat} {l1 l2 : Option zV} {h : zH} {Q : Option zV → zH → Prop} : zE 42 43 [some (.inr a0), l1, l2] [.inr s0] h Q ↔ (zK h a0).1 = 14 ∧ (zK h a0).1 = 14 ∧ (2 ≤ (zK h (zR h 256 a0)).1 ∧ (zK h (zR h 256 a0)).1 ≤ 4) ∧ (zK h s0).1 = 10 + zel (zK h (zR h 256 a0)).1 ∧ (0 ≤ (zI h 257 a0) ∧ (zI h 257 a0) < (zK h (zR h 256 a0)).2) ∧ zE 42 54 [some (.inr a0), l1, some (.inr s0)] [] (zsB h (zR h 256 a0) (zI h 257 a0).toNat s0) Q := (zX_astore_n (k := 2) (ls' := [some (.inr a0), l1, some (.inr s0)]) (pc' := 44) (by decide +kernel) (Nat.le_of_ble_eq_true rfl) rfl rfl).trans <| (zX_aload_n (k := 0) (x := a0) (pc' := 45) (by decide +kernel) rfl rfl).trans <| (zX_getR (ix := 11) (c := 4) (k := 0) (f := 256) (c9 := 14) (pc' := 48) (by decide +kernel) (by decide +kernel) (by decide +kernel) rfl rfl rfl).trans <| and_congr_right' <| (zX_aload_n (k := 0) (x := a0) (pc' := 49) (by decide +kernel) rfl rfl).trans <| (zX_getI (ix := 17) (c := 4) (k := 1) (f := 257) (c9 := 14) (pc' := 52) (by decide +kernel) (by decide +kernel) (by decide +kernel) rfl rfl rfl).trans <| and_congr_right' <| (zX_aload_n (k := 2) (x := s0) (pc' := 53) (by decide +kernel) rfl rfl).trans <| zX_aastore (pc' := 54) (by decide +kernel) rfl
theorem xX5_append_54 {a2 : Nat} {a1 : Nat} {l0 : Option zV} {h : zH} {Q : Option zV → zH → Prop} : zE 42 54 [l0, some (.inr a1), some (.inr a2)] [] h Q ↔ (zK h a2).1 = 13 ∧ zE 38 0 [some (.inr a2), some (.inr a1), none] [] h (fun r h' => zE 42 59 [l0, some (.inr a1), some (.inr a2)] (r.toList ++ []) h' Q) := (zX_aload_n (k := 2) (x := a2) (pc' := 55) (by decide +kernel) rfl rfl).trans <| (zX_aload_n (k := 1) (x := a1) (pc' := 56) (by decide +kernel) rfl rfl).trans <| zX_callV (ix := 27) (M' := 38) (n := 2) (m := 3) (c9 := 13) (a := a2) (as := [.inr a1]) (rest := []) (ls' := [some (.inr a2), some (.inr a1), none]) (pc' := 59) (by decide +kernel) (by decide +kernel) (by decide +kernel) (by decide +kernel) (by decide +kernel) (by decide +kernel) rfl rfl (Nat.le_of_ble_eq_true rfl) rfl rfl
theorem xX5_append_59 {a0 : Nat} {l1 l2 : Option zV} {h : zH} {Q : Option zV → zH → Prop} : zE 42 59 [some (.inr a0), l1, l2] [] h Q ↔ (zK h a0).1 = 14 ∧ (zK h a0).1 = 14 ∧ zE 42 69 [some (.inr a0), l1, l2] [] (zsI h 257 a0 (zw ((zI h 257 a0) + 1))) Q := (zX_aload_n (k := 0) (x := a0) (pc' := 60) (by decide +kernel) rfl rfl).trans <| (zX_dup (pc' := 61) (by decide +kernel) rfl).trans <| (zX_getI (ix := 17) (c := 4) (k := 1) (f := 257) (c9 := 14) (pc' := 64) (by decide +kernel) (by decide +kernel) (by decide +kernel) rfl rfl rfl).trans <| and_congr_right' <| (zX_iconst (n := 1) (pc' := 65) (by decide +kernel) (by decide) rfl).trans <| (zX_iadd (pc' := 66) (by decide +kernel) rfl).trans <| zX_putI (ix := 17) (c := 4) (k := 1) (f := 257) (c9 := 14) (pc' := 69) (by decide +kernel) (by decide +kernel) (by decide +kernel) (by decide +kernel) (by decide +kernel) rfl rfl rfl
theorem xX5_append_69  {l0 l1 l2 : Option zV} {h : zH} {Q : Option zV → zH → Prop} : zE 42 69 [l0, l1, l2] [] h Q ↔ ((1 : Int) = 0 ∨ (1 : Int) = 1) ∧ Q (some (.inl 1)) h := (zX_iconst (n := 1) (pc' := 70) (by decide +kernel) (by decide) rfl).trans <| zX_zreturn (by decide +kernel) (by decide +kernel)
-- FarTypewriter$Line.takeOut(I)V
theorem xX5_takeOut_0 {x1 : Int} {l0 l2 l3 : Option zV} {h : zH} {Q : Option zV → zH → Prop} : zE 43 0 [l0, some (.inl x1), l2, l3] [] h Q ↔ if x1 < 0 then zE 43 18 [l0, some (.inl x1), l2, l3] [] h Q else zE 43 4 [l0, some (.inl x1), l2, l3] [] h Q := (zX_iload_n (k := 1) (x := x1) (pc' := 1) (by decide +kernel) rfl rfl).trans <| zX_if_lt (off := 17) (t := 18) (pc' := 4) (by decide +kernel) (by decide) rfl
theorem xX5_takeOut_4 {x1 : Int} {a0 : Nat} {l2 l3 : Option zV} {h : zH} {Q : Option zV → zH → Prop} : zE 43 4 [some (.inr a0), some (.inl x1), l2, l3] [] h Q ↔ (zK h a0).1 = 14 ∧ (if (zI h 257 a0) ≤ x1 then zE 43 18 [some (.inr a0), some (.inl x1), l2, l3] [] h Q else zE 43 12 [some (.inr a0), some (.inl x1), l2, l3] [] h Q) := (zX_iload_n (k := 1) (x := x1) (pc' := 5) (by decide +kernel) rfl rfl).trans <| (zX_aload_n (k := 0) (x := a0) (pc' := 6) (by decide +kernel) rfl rfl).trans <| (zX_getI (ix := 17) (c := 4) (k := 1) (f := 257) (c9 := 14) (pc' := 9) (by decide +kernel) (by decide +kernel) (by decide +kernel) rfl rfl rfl).trans <| and_congr_right' <| zX_icmp_ge (off := 9) (t := 18) (pc' := 12) (by decide +kernel) (by decide) rfl
theorem xX5_takeOut_12 {x1 : Int} {l0 l2 l3 : Option zV} {h : zH} {Q : Option zV → zH → Prop} : zE 43 12 [l0, some (.inl x1), l2, l3] [] h Q ↔ if x1 < 40 then zE 43 19 [l0, some (.inl x1), l2, l3] [] h Q else zE 43 18 [l0, some (.inl x1), l2, l3] [] h Q := (zX_iload_n (k := 1) (x := x1) (pc' := 13) (by decide +kernel) rfl rfl).trans <| (zX_bipush (n := 40) (pc' := 15) (by decide +kernel) (by decide) rfl).trans <| zX_icmp_lt (off := 4) (t := 19) (pc' := 18) (by decide +kernel) (by decide) rfl
theorem xX5_takeOut_18  {l0 l1 l2 l3 : Option zV} {h : zH} {Q : Option zV → zH → Prop} : zE 43 18 [l0, l1, l2, l3] [] h Q ↔ Q none h := zX_return (by decide +kernel) (by decide +kernel)
theorem xX5_takeOut_19 {a0 : Nat} {x1 : Int} {l2 l3 : Option zV} {h : zH} {Q : Option zV → zH → Prop} : zE 43 19 [some (.inr a0), some (.inl x1), l2, l3] [] h Q ↔ (zK h a0).1 = 14 ∧ (2 ≤ (zK h (zR h 256 a0)).1 ∧ (zK h (zR h 256 a0)).1 ≤ 4) ∧ (0 ≤ x1 ∧ x1 < (zK h (zR h 256 a0)).2) ∧ zE 43 30 [some (.inr a0), some (.inl x1), some (.inr (zB h (zR h 256 a0) x1.toNat)), some (.inl (zw (x1 + 1)))] [] h Q := (zX_aload_n (k := 0) (x := a0) (pc' := 20) (by decide +kernel) rfl rfl).trans <| (zX_getR (ix := 11) (c := 4) (k := 0) (f := 256) (c9 := 14) (pc' := 23) (by decide +kernel) (by decide +kernel) (by decide +kernel) rfl rfl rfl).trans <| and_congr_right' <| (zX_iload_n (k := 1) (x := x1) (pc' := 24) (by decide +kernel) rfl rfl).trans <| (zX_aaload (pc' := 25) (by decide +kernel) rfl).trans <| and_congr_right' <| and_congr_right' <| (zX_astore_n (k := 2) (ls' := [some (.inr a0), some (.inl x1), some (.inr (zB h (zR h 256 a0) x1.toNat)), l3]) (pc' := 26) (by decide +kernel) (Nat.le_of_ble_eq_true rfl) rfl rfl).trans <| (zX_iload_n (k := 1) (x := x1) (pc' := 27) (by decide +kernel) rfl rfl).trans <| (zX_iconst (n := 1) (pc' := 28) (by decide +kernel) (by decide) rfl).trans <| (zX_iadd (pc' := 29) (by decide +kernel) rfl).trans <| (zX_istore_n (k := 3) (ls' := [some (.inr a0), some (.inl x1), some (.inr (zB h (zR h 256 a0) x1.toNat)), some (.inl (zw (x1 + 1)))]) (pc' := 30) (by decide +kernel) (Nat.le_of_ble_eq_true rfl) rfl rfl).trans <| Iff.rfl
theorem xX5_takeOut_30 {x3 : Int} {a0 : Nat} {l1 l2 : Option zV} {h : zH} {Q : Option zV → zH → Prop} : zE 43 30 [some (.inr a0), l1, l2, some (.inl x3)] [] h Q ↔ (zK h a0).1 = 14 ∧ (if (zI h 257 a0) ≤ x3 then zE 43 64 [some (.inr a0), l1, l2, some (.inl x3)] [] h Q else zE 43 38 [some (.inr a0), l1, l2, some (.inl x3)] [] h Q) := (zX_iload_n (k := 3) (x := x3) (pc' := 31) (by decide +kernel) rfl rfl).trans <| (zX_aload_n (k := 0) (x := a0) (pc' := 32) (by decide +kernel) rfl rfl).trans <| (zX_getI (ix := 17) (c := 4) (k := 1) (f := 257) (c9 := 14) (pc' := 35) (by decide +kernel) (by decide +kernel) (by decide +kernel) rfl rfl rfl).trans <| and_congr_right' <| zX_icmp_ge (off := 29) (t := 64) (pc' := 38) (by decide +kernel) (by decide) rfl
theorem xX5_takeOut_38 {x3 : Int} {l0 l1 l2 : Option zV} {h : zH} {Q : Option zV → zH → Prop} : zE 43 38 [l0, l1, l2, some (.inl x3)] [] h Q ↔ if 40 ≤ x3 then zE 43 64 [l0, l1, l2, some (.inl x3)] [] h Q else zE 43 44 [l0, l1, l2, some (.inl x3)] [] h Q := (zX_iload_n (k := 3) (x := x3) (pc' := 39) (by decide +kernel) rfl rfl).trans <| (zX_bipush (n := 40) (pc' := 41) (by decide +kernel) (by decide) rfl).trans <| zX_icmp_ge (off := 23) (t := 64) (pc' := 44) (by decide +kernel) (by decide) rfl
theorem xX5_takeOut_44 {a0 : Nat} {x3 : Int} {l1 l2 : Option zV} {h : zH} {Q : Option zV → zH → Prop} : zE 43 44 [some (.inr a0), l1, l2, some (.inl x3)] [] h Q ↔ (zK h a0).1 = 14 ∧ (zK h a0).1 = 14 ∧ (2 ≤ (zK h (zR h 256 a0)).1 ∧ (zK h (zR h 256 a0)).1 ≤ 4) ∧ (0 ≤ x3 ∧ x3 < (zK h (zR h 256 a0)).2) ∧ (2 ≤ (zK h (zR h 256 a0)).1 ∧ (zK h (zR h 256 a0)).1 ≤ 4) ∧ (zK h (zB h (zR h 256 a0) x3.toNat)).1 = 10 + zel (zK h (zR h 256 a0)).1 ∧ (0 ≤ (zw (x3 - 1)) ∧ (zw (x3 - 1)) < (zK h (zR h 256 a0)).2) ∧ zE 43 58 [some (.inr a0), l1, l2, some (.inl x3)] [] (zsB h (zR h 256 a0) (zw (x3 - 1)).toNat (zB h (zR h 256 a0) x3.toNat)) Q := (zX_aload_n (k := 0) (x := a0) (pc' := 45) (by decide +kernel) rfl rfl).trans <| (zX_getR (ix := 11) (c := 4) (k := 0) (f := 256) (c9 := 14) (pc' := 48) (by decide +kernel) (by decide +kernel) (by decide +kernel) rfl rfl rfl).trans <| and_congr_right' <| (zX_iload_n (k := 3) (x := x3) (pc' := 49) (by decide +kernel) rfl rfl).trans <| (zX_iconst (n := 1) (pc' := 50) (by decide +kernel) (by decide) rfl).trans <| (zX_isub (pc' := 51) (by decide +kernel) rfl).trans <| (zX_aload_n (k := 0) (x := a0) (pc' := 52) (by decide +kernel) rfl rfl).trans <| (zX_getR (ix := 11) (c := 4) (k := 0) (f := 256) (c9 := 14) (pc' := 55) (by decide +kernel) (by decide +kernel) (by decide +kernel) rfl rfl rfl).trans <| and_congr_right' <| (zX_iload_n (k := 3) (x := x3) (pc' := 56) (by decide +kernel) rfl rfl).trans <| (zX_aaload (pc' := 57) (by decide +kernel) rfl).trans <| and_congr_right' <| and_congr_right' <| zX_aastore (pc' := 58) (by decide +kernel) rfl
theorem xX5_takeOut_58 {x3 : Int} {l0 l1 l2 : Option zV} {h : zH} {Q : Option zV → zH → Prop} : zE 43 58 [l0, l1, l2, some (.inl x3)] [] h Q ↔ zE 43 30 [l0, l1, l2, some (.inl (zw (x3 + 1)))] [] h Q := (zX_iinc (k := 3) (n := 1) (x := x3) (ls' := [l0, l1, l2, some (.inl (zw (x3 + 1)))]) (pc' := 61) (by decide +kernel) rfl rfl rfl).trans <| zX_goto (off := -31) (t := 30) (by decide +kernel) (by decide)
theorem xX5_takeOut_64 {a0 : Nat} {l1 l2 l3 : Option zV} {h : zH} {Q : Option zV → zH → Prop} : zE 43 64 [some (.inr a0), l1, l2, l3] [] h Q ↔ (zK h a0).1 = 14 ∧ (zK h a0).1 = 14 ∧ zE 43 74 [some (.inr a0), l1, l2, l3] [] (zsI h 257 a0 (zw ((zI h 257 a0) - 1))) Q := (zX_aload_n (k := 0) (x := a0) (pc' := 65) (by decide +kernel) rfl rfl).trans <| (zX_dup (pc' := 66) (by decide +kernel) rfl).trans <| (zX_getI (ix := 17) (c := 4) (k := 1) (f := 257) (c9 := 14) (pc' := 69) (by decide +kernel) (by decide +kernel) (by decide +kernel) rfl rfl rfl).trans <| and_congr_right' <| (zX_iconst (n := 1) (pc' := 70) (by decide +kernel) (by decide) rfl).trans <| (zX_isub (pc' := 71) (by decide +kernel) rfl).trans <| zX_putI (ix := 17) (c := 4) (k := 1) (f := 257) (c9 := 14) (pc' := 74) (by decide +kernel) (by decide +kernel) (by decide +kernel) (by decide +kernel) (by decide +kernel) rfl rfl rfl
theorem xX5_takeOut_74 {a0 : Nat} {l1 l2 l3 : Option zV} {h : zH} {Q : Option zV → zH → Prop} : zE 43 74 [some (.inr a0), l1, l2, l3] [] h Q ↔ (zK h a0).1 = 14 ∧ (if 40 ≤ (zI h 257 a0) then zE 43 93 [some (.inr a0), l1, l2, l3] [] h Q else zE 43 83 [some (.inr a0), l1, l2, l3] [] h Q) := (zX_aload_n (k := 0) (x := a0) (pc' := 75) (by decide +kernel) rfl rfl).trans <| (zX_getI (ix := 17) (c := 4) (k := 1) (f := 257) (c9 := 14) (pc' := 78) (by decide +kernel) (by decide +kernel) (by decide +kernel) rfl rfl rfl).trans <| and_congr_right' <| (zX_bipush (n := 40) (pc' := 80) (by decide +kernel) (by decide) rfl).trans <| zX_icmp_ge (off := 13) (t := 93) (pc' := 83) (by decide +kernel) (by decide) rfl
theorem xX5_takeOut_83 {a0 : Nat} {a2 : Nat} {l1 l3 : Option zV} {h : zH} {Q : Option zV → zH → Prop} : zE 43 83 [some (.inr a0), l1, some (.inr a2), l3] [] h Q ↔ (zK h a0).1 = 14 ∧ (zK h a0).1 = 14 ∧ (2 ≤ (zK h (zR h 256 a0)).1 ∧ (zK h (zR h 256 a0)).1 ≤ 4) ∧ (zK h a2).1 = 10 + zel (zK h (zR h 256 a0)).1 ∧ (0 ≤ (zI h 257 a0) ∧ (zI h 257 a0) < (zK h (zR h 256 a0)).2) ∧ zE 43 93 [some (.inr a0), l1, some (.inr a2), l3] [] (zsB h (zR h 256 a0) (zI h 257 a0).toNat a2) Q := (zX_aload_n (k := 0) (x := a0) (pc' := 84) (by decide +kernel) rfl rfl).trans <| (zX_getR (ix := 11) (c := 4) (k := 0) (f := 256) (c9 := 14) (pc' := 87) (by decide +kernel) (by decide +kernel) (by decide +kernel) rfl rfl rfl).trans <| and_congr_right' <| (zX_aload_n (k := 0) (x := a0) (pc' := 88) (by decide +kernel) rfl rfl).trans <| (zX_getI (ix := 17) (c := 4) (k := 1) (f := 257) (c9 := 14) (pc' := 91) (by decide +kernel) (by decide +kernel) (by decide +kernel) rfl rfl rfl).trans <| and_congr_right' <| (zX_aload_n (k := 2) (x := a2) (pc' := 92) (by decide +kernel) rfl rfl).trans <| zX_aastore (pc' := 93) (by decide +kernel) rfl
theorem xX5_takeOut_93  {l0 l1 l2 l3 : Option zV} {h : zH} {Q : Option zV → zH → Prop} : zE 43 93 [l0, l1, l2, l3] [] h Q ↔ Q none h := zX_return (by decide +kernel) (by decide +kernel)
-- FarTypewriter$Screen.<init>()V
theorem xX7_init_0 {a0 : Nat} {h : zH} {Q : Option zV → zH → Prop} : zE 52 0 [some (.inr a0)] [] h Q ↔ a0 ≠ 0 ∧ zE 52 4 [some (.inr a0)] [] h Q := (zX_aload_n (k := 0) (x := a0) (pc' := 1) (by decide +kernel) rfl rfl).trans <| zX_objInit (ix := 3) (k9 := 0) (pc' := 4) (by decide +kernel) (by decide +kernel) (by decide +kernel) (Nat.le_of_ble_eq_true rfl) rfl
theorem xX7_init_4 {a0 : Nat} {h : zH} {Q : Option zV → zH → Prop} : zE 52 4 [some (.inr a0)] [] h Q ↔ (0 ≤ (192 : Int) ∧ (192 : Int) ≤ 100000) ∧ zE 52 10 [some (.inr a0)] [.inr (zn h), .inr a0] (znA h 1 (192 : Int).toNat) Q := (zX_aload_n (k := 0) (x := a0) (pc' := 5) (by decide +kernel) rfl rfl).trans <| (zX_sipush (n := 192) (pc' := 8) (by decide +kernel) (by decide) rfl).trans <| zX_newarray (pc' := 10) (by decide +kernel) rfl
theorem xX7_init_10 {s0 : Nat} {s1 : Nat} {l0 : Option zV} {h : zH} {Q : Option zV → zH → Prop} : zE 52 10 [l0] [.inr s0, .inr s1] h Q ↔ (zK h s1).1 = 16 ∧ zE 52 13 [l0] [] (zsR h 384 s1 s0) Q := zX_putR (ix := 9) (c := 6) (k := 0) (f := 384) (c9 := 16) (pc' := 13) (by decide +kernel) (by decide +kernel) (by decide +kernel) (by decide +kernel) rfl rfl rfl
theorem xX7_init_13 {a0 : Nat} {h : zH} {Q : Option zV → zH → Prop} : zE 52 13 [some (.inr a0)] [] h Q ↔ (zK h a0).1 = 16 ∧ zE 176 0 [some (.inr (zR h 384 a0)), some (.inl 32), none, none] [] h (fun r h' => zE 52 22 [some (.inr a0)] (r.toList ++ []) h' Q) := (zX_aload_n (k := 0) (x := a0) (pc' := 14) (by decide +kernel) rfl rfl).trans <| (zX_getR (ix := 9) (c := 6) (k := 0) (f := 384) (c9 := 16) (pc' := 17) (by decide +kernel) (by decide +kernel) (by decide +kernel) rfl rfl rfl).trans <| and_congr_right' <| (zX_bipush (n := 32) (pc' := 19) (by decide +kernel) (by decide) rfl).trans <| zX_callS (ix := 15) (M' := 176) (n := 2) (m := 4) (kd := 0) (as := [.inr (zR h 384 a0), .inl 32]) (rest := []) (ls' := [some (.inr (zR h 384 a0)), some (.inl 32), none, none]) (pc' := 22) (by decide +kernel) (by decide +kernel) (by decide) (by decide +kernel) (by decide +kernel) rfl rfl (Nat.le_of_ble_eq_true rfl) rfl rfl
theorem xX7_init_22  {l0 : Option zV} {h : zH} {Q : Option zV → zH → Prop} : zE 52 22 [l0] [] h Q ↔ Q none h := zX_return (by decide +kernel) (by decide +kernel)
-- FarTypewriter$Screen.clear()V
theorem xX7_clear_0 {a0 : Nat} {h : zH} {Q : Option zV → zH → Prop} : zE 53 0 [some (.inr a0)] [] h Q ↔ (zK h a0).1 = 16 ∧ zE 176 0 [some (.inr (zR h 384 a0)), some (.inl 32), none, none] [] h (fun r h' => zE 53 9 [some (.inr a0)] (r.toList ++ []) h' Q) := (zX_aload_n (k := 0) (x := a0) (pc' := 1) (by decide +kernel) rfl rfl).trans <| (zX_getR (ix := 9) (c := 6) (k := 0) (f := 384) (c9 := 16) (pc' := 4) (by decide +kernel) (by decide +kernel) (by decide +kernel) rfl rfl rfl).trans <| and_congr_right' <| (zX_bipush (n := 32) (pc' := 6) (by decide +kernel) (by decide) rfl).trans <| zX_callS (ix := 15) (M' := 176) (n := 2) (m := 4) (kd := 0) (as := [.inr (zR h 384 a0), .inl 32]) (rest := []) (ls' := [some (.inr (zR h 384 a0)), some (.inl 32), none, none]) (pc' := 9) (by decide +kernel) (by decide +kernel) (by decide) (by decide +kernel) (by decide +kernel) rfl rfl (Nat.le_of_ble_eq_true rfl) rfl rfl
theorem xX7_clear_9 {a0 : Nat} {h : zH} {Q : Option zV → zH → Prop} : zE 53 9 [some (.inr a0)] [] h Q ↔ (zK h a0).1 = 16 ∧ zE 53 14 [some (.inr a0)] [] (zsI h 385 a0 0) Q := (zX_aload_n (k := 0) (x := a0) (pc' := 10) (by decide +kernel) rfl rfl).trans <| (zX_iconst (n := 0) (pc' := 11) (by decide +kernel) (by decide) rfl).trans <| zX_putI (ix := 21) (c := 6) (k := 1) (f := 385) (c9 := 16) (pc' := 14) (by decide +kernel) (by decide +kernel) (by decide +kernel) (by decide +kernel) (by decide +kernel) rfl rfl rfl
theorem xX7_clear_14 {a0 : Nat} {h : zH} {Q : Option zV → zH → Prop} : zE 53 14 [some (.inr a0)] [] h Q ↔ (zK h a0).1 = 16 ∧ zE 53 19 [some (.inr a0)] [] (zsI h 386 a0 0) Q := (zX_aload_n (k := 0) (x := a0) (pc' := 15) (by decide +kernel) rfl rfl).trans <| (zX_iconst (n := 0) (pc' := 16) (by decide +kernel) (by decide) rfl).trans <| zX_putI (ix := 25) (c := 6) (k := 2) (f := 386) (c9 := 16) (pc' := 19) (by decide +kernel) (by decide +kernel) (by decide +kernel) (by decide +kernel) (by decide +kernel) rfl rfl rfl
theorem xX7_clear_19  {l0 : Option zV} {h : zH} {Q : Option zV → zH → Prop} : zE 53 19 [l0] [] h Q ↔ Q none h := zX_return (by decide +kernel) (by decide +kernel)
-- FarTypewriter$Screen.copyFrom(LFarTypewriter$Screen;)V
theorem xX7_copyFrom_0 {a1 : Nat} {a0 : Nat} {h : zH} {Q : Option zV → zH → Prop} : zE 54 0 [some (.inr a0), some (.inr a1)] [] h Q ↔ (zK h a1).1 = 16 ∧ (zK h a0).1 = 16 ∧ ((0 : Int) = 0 ∧ (0 : Int) = 0 ∧ 0 ≤ (192 : Int)) ∧ ((zK h (zR h 384 a1)).1 = 1 ∧ (zK h (zR h 384 a0)).1 = 1) ∧ ((192 : Int) ≤ (zK h (zR h 384 a1)).2 ∧ (192 : Int) ≤ (zK h (zR h 384 a0)).2) ∧ zE 54 16 [some (.inr a0), some (.inr a1)] [] (zcp h (zR h 384 a1) (zR h 384 a0) (192 : Int).toNat) Q := (zX_aload_n (k := 1) (x := a1) (pc' := 1) (by decide +kernel) rfl rfl).trans <| (zX_getR (ix := 9) (c := 6) (k := 0) (f := 384) (c9 := 16) (pc' := 4) (by decide +kernel) (by decide +kernel) (by decide +kernel) rfl rfl rfl).trans <| and_congr_right' <| (zX_iconst (n := 0) (pc' := 5) (by decide +kernel) (by decide) rfl).trans <| (zX_aload_n (k := 0) (x := a0) (pc' := 6) (by decide +kernel) rfl rfl).trans <| (zX_getR (ix := 9) (c := 6) (k := 0) (f := 384) (c9 := 16) (pc' := 9) (by decide +kernel) (by decide +kernel) (by decide +kernel) rfl rfl rfl).trans <| and_congr_right' <| (zX_iconst (n := 0) (pc' := 10) (by decide +kernel) (by decide) rfl).trans <| (zX_sipush (n := 192) (pc' := 13) (by decide +kernel) (by decide) rfl).trans <| zX_copy (ix := 28) (k9 := 0) (pc' := 16) (by decide +kernel) (by decide +kernel) (by decide +kernel) (Nat.le_of_ble_eq_true rfl) rfl
theorem xX7_copyFrom_16 {a0 : Nat} {a1 : Nat} {h : zH} {Q : Option zV → zH → Prop} : zE 54 16 [some (.inr a0), some (.inr a1)] [] h Q ↔ (zK h a1).1 = 16 ∧ (zK h a0).1 = 16 ∧ zE 54 24 [some (.inr a0), some (.inr a1)] [] (zsI h 385 a0 (zI h 385 a1)) Q := (zX_aload_n (k := 0) (x := a0) (pc' := 17) (by decide +kernel) rfl rfl).trans <| (zX_aload_n (k := 1) (x := a1) (pc' := 18) (by decide +kernel) rfl rfl).trans <| (zX_getI (ix := 21) (c := 6) (k := 1) (f := 385) (c9 := 16) (pc' := 21) (by decide +kernel) (by decide +kernel) (by decide +kernel) rfl rfl rfl).trans <| and_congr_right' <| zX_putI (ix := 21) (c := 6) (k := 1) (f := 385) (c9 := 16) (pc' := 24) (by decide +kernel) (by decide +kernel) (by decide +kernel) (by decide +kernel) (by decide +kernel) rfl rfl rfl
theorem xX7_copyFrom_24 {a0 : Nat} {a1 : Nat} {h : zH} {Q : Option zV → zH → Prop} : zE 54 24 [some (.inr a0), some (.inr a1)] [] h Q ↔ (zK h a1).1 = 16 ∧ (zK h a0).1 = 16 ∧ zE 54 32 [some (.inr a0), some (.inr a1)] [] (zsI h 386 a0 (zI h 386 a1)) Q := (zX_aload_n (k := 0) (x := a0) (pc' := 25) (by decide +kernel) rfl rfl).trans <| (zX_aload_n (k := 1) (x := a1) (pc' := 26) (by decide +kernel) rfl rfl).trans <| (zX_getI (ix := 25) (c := 6) (k := 2) (f := 386) (c9 := 16) (pc' := 29) (by decide +kernel) (by decide +kernel) (by decide +kernel) rfl rfl rfl).trans <| and_congr_right' <| zX_putI (ix := 25) (c := 6) (k := 2) (f := 386) (c9 := 16) (pc' := 32) (by decide +kernel) (by decide +kernel) (by decide +kernel) (by decide +kernel) (by decide +kernel) rfl rfl rfl
theorem xX7_copyFrom_32  {l0 l1 : Option zV} {h : zH} {Q : Option zV → zH → Prop} : zE 54 32 [l0, l1] [] h Q ↔ Q none h := zX_return (by decide +kernel) (by decide +kernel)
-- FarTypewriter$Screen.isLike(LFarTypewriter$Screen;)Z
theorem xX7_isLike_0  {l0 l1 l2 : Option zV} {h : zH} {Q : Option zV → zH → Prop} : zE 55 0 [l0, l1, l2] [] h Q ↔ zE 55 2 [l0, l1, some (.inl 0)] [] h Q := (zX_iconst (n := 0) (pc' := 1) (by decide +kernel) (by decide) rfl).trans <| (zX_istore_n (k := 2) (ls' := [l0, l1, some (.inl 0)]) (pc' := 2) (by decide +kernel) (Nat.le_of_ble_eq_true rfl) rfl rfl).trans <| Iff.rfl
theorem xX7_isLike_2 {x2 : Int} {l0 l1 : Option zV} {h : zH} {Q : Option zV → zH → Prop} : zE 55 2 [l0, l1, some (.inl x2)] [] h Q ↔ if 192 ≤ x2 then zE 55 32 [l0, l1, some (.inl x2)] [] h Q else zE 55 9 [l0, l1, some (.inl x2)] [] h Q := (zX_iload_n (k := 2) (x := x2) (pc' := 3) (by decide +kernel) rfl rfl).trans <| (zX_sipush (n := 192) (pc' := 6) (by decide +kernel) (by decide) rfl).trans <| zX_icmp_ge (off := 26) (t := 32) (pc' := 9) (by decide +kernel) (by decide) rfl
theorem xX7_isLike_9 {a0 : Nat} {x2 : Int} {a1 : Nat} {h : zH} {Q : Option zV → zH → Prop} : zE 55 9 [some (.inr a0), some (.inr a1), some (.inl x2)] [] h Q ↔ (zK h a0).1 = 16 ∧ ((zK h (zR h 384 a0)).1 = 1 ∨ (zK h (zR h 384 a0)).1 = 5) ∧ (0 ≤ x2 ∧ x2 < (zK h (zR h 384 a0)).2) ∧ (zK h a1).1 = 16 ∧ ((zK h (zR h 384 a1)).1 = 1 ∨ (zK h (zR h 384 a1)).1 = 5) ∧ (0 ≤ x2 ∧ x2 < (zK h (zR h 384 a1)).2) ∧ (if (zA h (zR h 384 a0) x2.toNat) = (zA h (zR h 384 a1) x2.toNat) then zE 55 26 [some (.inr a0), some (.inr a1), some (.inl x2)] [] h Q else zE 55 24 [some (.inr a0), some (.inr a1), some (.inl x2)] [] h Q) := (zX_aload_n (k := 0) (x := a0) (pc' := 10) (by decide +kernel) rfl rfl).trans <| (zX_getR (ix := 9) (c := 6) (k := 0) (f := 384) (c9 := 16) (pc' := 13) (by decide +kernel) (by decide +kernel) (by decide +kernel) rfl rfl rfl).trans <| and_congr_right' <| (zX_iload_n (k := 2) (x := x2) (pc' := 14) (by decide +kernel) rfl rfl).trans <| (zX_iaload (pc' := 15) (by decide +kernel) rfl).trans <| and_congr_right' <| and_congr_right' <| (zX_aload_n (k := 1) (x := a1) (pc' := 16) (by decide +kernel) rfl rfl).trans <| (zX_getR (ix := 9) (c := 6) (k := 0) (f := 384) (c9 := 16) (pc' := 19) (by decide +kernel) (by decide +kernel) (by decide +kernel) rfl rfl rfl).trans <| and_congr_right' <| (zX_iload_n (k := 2) (x := x2) (pc' := 20) (by decide +kernel) rfl rfl).trans <| (zX_iaload (pc' := 21) (by decide +kernel) rfl).trans <| and_congr_right' <| and_congr_right' <| zX_icmp_eq (off := 5) (t := 26) (pc' := 24) (by decide +kernel) (by decide) rfl
theorem xX7_isLike_24  {l0 l1 l2 : Option zV} {h : zH} {Q : Option zV → zH → Prop} : zE 55 24 [l0, l1, l2] [] h Q ↔ ((0 : Int) = 0 ∨ (0 : Int) = 1) ∧ Q (some (.inl 0)) h := (zX_iconst (n := 0) (pc' := 25) (by decide +kernel) (by decide) rfl).trans <| zX_zreturn (by decide +kernel) (by decide +kernel)
theorem xX7_isLike_26 {x2 : Int} {l0 l1 : Option zV} {h : zH} {Q : Option zV → zH → Prop} : zE 55 26 [l0, l1, some (.inl x2)] [] h Q ↔ zE 55 2 [l0, l1, some (.inl (zw (x2 + 1)))] [] h Q := (zX_iinc (k := 2) (n := 1) (x := x2) (ls' := [l0, l1, some (.inl (zw (x2 + 1)))]) (pc' := 29) (by decide +kernel) rfl rfl rfl).trans <| zX_goto (off := -27) (t := 2) (by decide +kernel) (by decide)
theorem xX7_isLike_32 {a0 : Nat} {a1 : Nat} {l2 : Option zV} {h : zH} {Q : Option zV → zH → Prop} : zE 55 32 [some (.inr a0), some (.inr a1), l2] [] h Q ↔ (zK h a0).1 = 16 ∧ (zK h a1).1 = 16 ∧ (if (zI h 385 a0) ≠ (zI h 385 a1) then zE 55 58 [some (.inr a0), some (.inr a1), l2] [] h Q else zE 55 43 [some (.inr a0), some (.inr a1), l2] [] h Q) := (zX_aload_n (k := 0) (x := a0) (pc' := 33) (by decide +kernel) rfl rfl).trans <| (zX_getI (ix := 21) (c := 6) (k := 1) (f := 385) (c9 := 16) (pc' := 36) (by decide +kernel) (by decide +kernel) (by decide +kernel) rfl rfl rfl).trans <| and_congr_right' <| (zX_aload_n (k := 1) (x := a1) (pc' := 37) (by decide +kernel) rfl rfl).trans <| (zX_getI (ix := 21) (c := 6) (k := 1) (f := 385) (c9 := 16) (pc' := 40) (by decide +kernel) (by decide +kernel) (by decide +kernel) rfl rfl rfl).trans <| and_congr_right' <| zX_icmp_ne (off := 18) (t := 58) (pc' := 43) (by decide +kernel) (by decide) rfl
theorem xX7_isLike_43 {a0 : Nat} {a1 : Nat} {l2 : Option zV} {h : zH} {Q : Option zV → zH → Prop} : zE 55 43 [some (.inr a0), some (.inr a1), l2] [] h Q ↔ (zK h a0).1 = 16 ∧ (zK h a1).1 = 16 ∧ (if (zI h 386 a0) ≠ (zI h 386 a1) then zE 55 58 [some (.inr a0), some (.inr a1), l2] [] h Q else zE 55 54 [some (.inr a0), some (.inr a1), l2] [] h Q) := (zX_aload_n (k := 0) (x := a0) (pc' := 44) (by decide +kernel) rfl rfl).trans <| (zX_getI (ix := 25) (c := 6) (k := 2) (f := 386) (c9 := 16) (pc' := 47) (by decide +kernel) (by decide +kernel) (by decide +kernel) rfl rfl rfl).trans <| and_congr_right' <| (zX_aload_n (k := 1) (x := a1) (pc' := 48) (by decide +kernel) rfl rfl).trans <| (zX_getI (ix := 25) (c := 6) (k := 2) (f := 386) (c9 := 16) (pc' := 51) (by decide +kernel) (by decide +kernel) (by decide +kernel) rfl rfl rfl).trans <| and_congr_right' <| zX_icmp_ne (off := 7) (t := 58) (pc' := 54) (by decide +kernel) (by decide) rfl
theorem xX7_isLike_54  {l0 l1 l2 : Option zV} {h : zH} {Q : Option zV → zH → Prop} : zE 55 54 [l0, l1, l2] [] h Q ↔ zE 55 59 [l0, l1, l2] [.inl 1] h Q := (zX_iconst (n := 1) (pc' := 55) (by decide +kernel) (by decide) rfl).trans <| zX_goto (off := 4) (t := 59) (by decide +kernel) (by decide)
theorem xX7_isLike_58  {l0 l1 l2 : Option zV} {h : zH} {Q : Option zV → zH → Prop} : zE 55 58 [l0, l1, l2] [] h Q ↔ zE 55 59 [l0, l1, l2] [.inl 0] h Q := (zX_iconst (n := 0) (pc' := 59) (by decide +kernel) (by decide) rfl).trans <| Iff.rfl
theorem xX7_isLike_59 {s0 : Int} {l0 l1 l2 : Option zV} {h : zH} {Q : Option zV → zH → Prop} : zE 55 59 [l0, l1, l2] [.inl s0] h Q ↔ (s0 = 0 ∨ s0 = 1) ∧ Q (some (.inl s0)) h := zX_zreturn (by decide +kernel) (by decide +kernel)
-- FarTypewriter$Screen.at(II)I
theorem xX7_at_0 {x1 : Int} {l0 l2 : Option zV} {h : zH} {Q : Option zV → zH → Prop} : zE 56 0 [l0, some (.inl x1), l2] [] h Q ↔ if x1 < 0 then zE 56 34 [l0, some (.inl x1), l2] [] h Q else zE 56 4 [l0, some (.inl x1), l2] [] h Q := (zX_iload_n (k := 1) (x := x1) (pc' := 1) (by decide +kernel) rfl rfl).trans <| zX_if_lt (off := 33) (t := 34) (pc' := 4) (by decide +kernel) (by decide) rfl
theorem xX7_at_4 {x1 : Int} {l0 l2 : Option zV} {h : zH} {Q : Option zV → zH → Prop} : zE 56 4 [l0, some (.inl x1), l2] [] h Q ↔ if 8 ≤ x1 then zE 56 34 [l0, some (.inl x1), l2] [] h Q else zE 56 10 [l0, some (.inl x1), l2] [] h Q := (zX_iload_n (k := 1) (x := x1) (pc' := 5) (by decide +kernel) rfl rfl).trans <| (zX_bipush (n := 8) (pc' := 7) (by decide +kernel) (by decide) rfl).trans <| zX_icmp_ge (off := 27) (t := 34) (pc' := 10) (by decide +kernel) (by decide) rfl
theorem xX7_at_10 {x2 : Int} {l0 l1 : Option zV} {h : zH} {Q : Option zV → zH → Prop} : zE 56 10 [l0, l1, some (.inl x2)] [] h Q ↔ if x2 < 0 then zE 56 34 [l0, l1, some (.inl x2)] [] h Q else zE 56 14 [l0, l1, some (.inl x2)] [] h Q := (zX_iload_n (k := 2) (x := x2) (pc' := 11) (by decide +kernel) rfl rfl).trans <| zX_if_lt (off := 23) (t := 34) (pc' := 14) (by decide +kernel) (by decide) rfl
theorem xX7_at_14 {x2 : Int} {l0 l1 : Option zV} {h : zH} {Q : Option zV → zH → Prop} : zE 56 14 [l0, l1, some (.inl x2)] [] h Q ↔ if 24 ≤ x2 then zE 56 34 [l0, l1, some (.inl x2)] [] h Q else zE 56 20 [l0, l1, some (.inl x2)] [] h Q := (zX_iload_n (k := 2) (x := x2) (pc' := 15) (by decide +kernel) rfl rfl).trans <| (zX_bipush (n := 24) (pc' := 17) (by decide +kernel) (by decide) rfl).trans <| zX_icmp_ge (off := 17) (t := 34) (pc' := 20) (by decide +kernel) (by decide) rfl
theorem xX7_at_20 {a0 : Nat} {x1 : Int} {x2 : Int} {h : zH} {Q : Option zV → zH → Prop} : zE 56 20 [some (.inr a0), some (.inl x1), some (.inl x2)] [] h Q ↔ (zK h a0).1 = 16 ∧ ((zK h (zR h 384 a0)).1 = 1 ∨ (zK h (zR h 384 a0)).1 = 5) ∧ (0 ≤ (zw ((zw (x1 * 24)) + x2)) ∧ (zw ((zw (x1 * 24)) + x2)) < (zK h (zR h 384 a0)).2) ∧ zE 56 36 [some (.inr a0), some (.inl x1), some (.inl x2)] [.inl (zA h (zR h 384 a0) (zw ((zw (x1 * 24)) + x2)).toNat)] h Q := (zX_aload_n (k := 0) (x := a0) (pc' := 21) (by decide +kernel) rfl rfl).trans <| (zX_getR (ix := 9) (c := 6) (k := 0) (f := 384) (c9 := 16) (pc' := 24) (by decide +kernel) (by decide +kernel) (by decide +kernel) rfl rfl rfl).trans <| and_congr_right' <| (zX_iload_n (k := 1) (x := x1) (pc' := 25) (by decide +kernel) rfl rfl).trans <| (zX_bipush (n := 24) (pc' := 27) (by decide +kernel) (by decide) rfl).trans <| (zX_imul (pc' := 28) (by decide +kernel) rfl).trans <| (zX_iload_n (k := 2) (x := x2) (pc' := 29) (by decide +kernel) rfl rfl).trans <| (zX_iadd (pc' := 30) (by decide +kernel) rfl).trans <| (zX_iaload (pc' := 31) (by decide +kernel) rfl).trans <| and_congr_right' <| and_congr_right' <| zX_goto (off := 5) (t := 36) (by decide +kernel) (by decide)
theorem xX7_at_34  {l0 l1 l2 : Option zV} {h : zH} {Q : Option zV → zH → Prop} : zE 56 34 [l0, l1, l2] [] h Q ↔ zE 56 36 [l0, l1, l2] [.inl 32] h Q := (zX_bipush (n := 32) (pc' := 36) (by decide +kernel) (by decide) rfl).trans <| Iff.rfl
theorem xX7_at_36 {s0 : Int} {l0 l1 l2 : Option zV} {h : zH} {Q : Option zV → zH → Prop} : zE 56 36 [l0, l1, l2] [.inl s0] h Q ↔ Q (some (.inl s0)) h := zX_ireturn (by decide +kernel) (by decide +kernel)
-- FarTypewriter$Screen.set(III)V
theorem xX7_set_0 {x1 : Int} {l0 l2 l3 : Option zV} {h : zH} {Q : Option zV → zH → Prop} : zE 57 0 [l0, some (.inl x1), l2, l3] [] h Q ↔ if x1 < 0 then zE 57 32 [l0, some (.inl x1), l2, l3] [] h Q else zE 57 4 [l0, some (.inl x1), l2, l3] [] h Q := (zX_iload_n (k := 1) (x := x1) (pc' := 1) (by decide +kernel) rfl rfl).trans <| zX_if_lt (off := 31) (t := 32) (pc' := 4) (by decide +kernel) (by decide) rfl
theorem xX7_set_4 {x1 : Int} {l0 l2 l3 : Option zV} {h : zH} {Q : Option zV → zH → Prop} : zE 57 4 [l0, some (.inl x1), l2, l3] [] h Q ↔ if 8 ≤ x1 then zE 57 32 [l0, some (.inl x1), l2, l3] [] h Q else zE 57 10 [l0, some (.inl x1), l2, l3] [] h Q := (zX_iload_n (k := 1) (x := x1) (pc' := 5) (by decide +kernel) rfl rfl).trans <| (zX_bipush (n := 8) (pc' := 7) (by decide +kernel) (by decide) rfl).trans <| zX_icmp_ge (off := 25) (t := 32) (pc' := 10) (by decide +kernel) (by decide) rfl
theorem xX7_set_10 {x2 : Int} {l0 l1 l3 : Option zV} {h : zH} {Q : Option zV → zH → Prop} : zE 57 10 [l0, l1, some (.inl x2), l3] [] h Q ↔ if x2 < 0 then zE 57 32 [l0, l1, some (.inl x2), l3] [] h Q else zE 57 14 [l0, l1, some (.inl x2), l3] [] h Q := (zX_iload_n (k := 2) (x := x2) (pc' := 11) (by decide +kernel) rfl rfl).trans <| zX_if_lt (off := 21) (t := 32) (pc' := 14) (by decide +kernel) (by decide) rfl
theorem xX7_set_14 {x2 : Int} {l0 l1 l3 : Option zV} {h : zH} {Q : Option zV → zH → Prop} : zE 57 14 [l0, l1, some (.inl x2), l3] [] h Q ↔ if 24 ≤ x2 then zE 57 32 [l0, l1, some (.inl x2), l3] [] h Q else zE 57 20 [l0, l1, some (.inl x2), l3] [] h Q := (zX_iload_n (k := 2) (x := x2) (pc' := 15) (by decide +kernel) rfl rfl).trans <| (zX_bipush (n := 24) (pc' := 17) (by decide +kernel) (by decide) rfl).trans <| zX_icmp_ge (off := 15) (t := 32) (pc' := 20) (by decide +kernel) (by decide) rfl
theorem xX7_set_20 {a0 : Nat} {x1 : Int} {x2 : Int} {x3 : Int} {h : zH} {Q : Option zV → zH → Prop} : zE 57 20 [some (.inr a0), some (.inl x1), some (.inl x2), some (.inl x3)] [] h Q ↔ (zK h a0).1 = 16 ∧ (zK h (zR h 384 a0)).1 = 1 ∧ (0 ≤ (zw ((zw (x1 * 24)) + x2)) ∧ (zw ((zw (x1 * 24)) + x2)) < (zK h (zR h 384 a0)).2) ∧ zE 57 32 [some (.inr a0), some (.inl x1), some (.inl x2), some (.inl x3)] [] (zsA h (zR h 384 a0) (zw ((zw (x1 * 24)) + x2)).toNat x3) Q := (zX_aload_n (k := 0) (x := a0) (pc' := 21) (by decide +kernel) rfl rfl).trans <| (zX_getR (ix := 9) (c := 6) (k := 0) (f := 384) (c9 := 16) (pc' := 24) (by decide +kernel) (by decide +kernel) (by decide +kernel) rfl rfl rfl).trans <| and_congr_right' <| (zX_iload_n (k := 1) (x := x1) (pc' := 25) (by decide +kernel) rfl rfl).trans <| (zX_bipush (n := 24) (pc' := 27) (by decide +kernel) (by decide) rfl).trans <| (zX_imul (pc' := 28) (by decide +kernel) rfl).trans <| (zX_iload_n (k := 2) (x := x2) (pc' := 29) (by decide +kernel) rfl rfl).trans <| (zX_iadd (pc' := 30) (by decide +kernel) rfl).trans <| (zX_iload_n (k := 3) (x := x3) (pc' := 31) (by decide +kernel) rfl rfl).trans <| zX_iastore (pc' := 32) (by decide +kernel) rfl
theorem xX7_set_32  {l0 l1 l2 l3 : Option zV} {h : zH} {Q : Option zV → zH → Prop} : zE 57 32 [l0, l1, l2, l3] [] h Q ↔ Q none h := zX_return (by decide +kernel) (by decide +kernel)
-- FarTypewriter$Screen.putSign(II)V
theorem xX7_putSign_0 {a0 : Nat} {x2 : Int} {x1 : Int} {h : zH} {Q : Option zV → zH → Prop} : zE 58 0 [some (.inr a0), some (.inl x1), some (.inl x2)] [] h Q ↔ (zK h a0).1 = 16 ∧ (zK h a0).1 = 16 ∧ (zK h a0).1 = 16 ∧ zE 57 0 [some (.inr a0), some (.inl (zI h 385 a0)), some (.inl (zI h 386 a0)), some (.inl (zw ((zw (x2 * 128)) + x1)))] [] h (fun r h' => zE 58 19 [some (.inr a0), some (.inl x1), some (.inl x2)] (r.toList ++ []) h' Q) := (zX_aload_n (k := 0) (x := a0) (pc' := 1) (by decide +kernel) rfl rfl).trans <| (zX_aload_n (k := 0) (x := a0) (pc' := 2) (by decide +kernel) rfl rfl).trans <| (zX_getI (ix := 21) (c := 6) (k := 1) (f := 385) (c9 := 16) (pc' := 5) (by decide +kernel) (by decide +kernel) (by decide +kernel) rfl rfl rfl).trans <| and_congr_right' <| (zX_aload_n (k := 0) (x := a0) (pc' := 6) (by decide +kernel) rfl rfl).trans <| (zX_getI (ix := 25) (c := 6) (k := 2) (f := 386) (c9 := 16) (pc' := 9) (by decide +kernel) (by decide +kernel) (by decide +kernel) rfl rfl rfl).trans <| and_congr_right' <| (zX_iload_n (k := 2) (x := x2) (pc' := 10) (by decide +kernel) rfl rfl).trans <| (zX_sipush (n := 128) (pc' := 13) (by decide +kernel) (by decide) rfl).trans <| (zX_imul (pc' := 14) (by decide +kernel) rfl).trans <| (zX_iload_n (k := 1) (x := x1) (pc' := 15) (by decide +kernel) rfl rfl).trans <| (zX_iadd (pc' := 16) (by decide +kernel) rfl).trans <| zX_callV (ix := 34) (M' := 57) (n := 4) (m := 4) (c9 := 16) (a := a0) (as := [.inl (zI h 385 a0), .inl (zI h 386 a0), .inl (zw ((zw (x2 * 128)) + x1))]) (rest := []) (ls' := [some (.inr a0), some (.inl (zI h 385 a0)), some (.inl (zI h 386 a0)), some (.inl (zw ((zw (x2 * 128)) + x1)))]) (pc' := 19) (by decide +kernel) (by decide +kernel) (by decide +kernel) (by decide +kernel) (by decide +kernel) (by decide +kernel) rfl rfl (Nat.le_of_ble_eq_true rfl) rfl rfl
theorem xX7_putSign_19 {a0 : Nat} {l1 l2 : Option zV} {h : zH} {Q : Option zV → zH → Prop} : zE 58 19 [some (.inr a0), l1, l2] [] h Q ↔ (zK h a0).1 = 16 ∧ (if (zI h 386 a0) < 23 then zE 58 35 [some (.inr a0), l1, l2] [] h Q else zE 58 28 [some (.inr a0), l1, l2] [] h Q) := (zX_aload_n (k := 0) (x := a0) (pc' := 20) (by decide +kernel) rfl rfl).trans <| (zX_getI (ix := 25) (c := 6) (k := 2) (f := 386) (c9 := 16) (pc' := 23) (by decide +kernel) (by decide +kernel) (by decide +kernel) rfl rfl rfl).trans <| and_congr_right' <| (zX_bipush (n := 23) (pc' := 25) (by decide +kernel) (by decide) rfl).trans <| zX_icmp_lt (off := 10) (t := 35) (pc' := 28) (by decide +kernel) (by decide) rfl
theorem xX7_putSign_28 {a0 : Nat} {l1 l2 : Option zV} {h : zH} {Q : Option zV → zH → Prop} : zE 58 28 [some (.inr a0), l1, l2] [] h Q ↔ (zK h a0).1 = 16 ∧ zE 59 0 [some (.inr a0)] [] h (fun r h' => zE 58 32 [some (.inr a0), l1, l2] (r.toList ++ []) h' Q) := (zX_aload_n (k := 0) (x := a0) (pc' := 29) (by decide +kernel) rfl rfl).trans <| zX_callV (ix := 38) (M' := 59) (n := 1) (m := 1) (c9 := 16) (a := a0) (as := []) (rest := []) (ls' := [some (.inr a0)]) (pc' := 32) (by decide +kernel) (by decide +kernel) (by decide +kernel) (by decide +kernel) (by decide +kernel) (by decide +kernel) rfl rfl (Nat.le_of_ble_eq_true rfl) rfl rfl
theorem xX7_putSign_32  {l0 l1 l2 : Option zV} {h : zH} {Q : Option zV → zH → Prop} : zE 58 32 [l0, l1, l2] [] h Q ↔ zE 58 45 [l0, l1, l2] [] h Q := zX_goto (off := 13) (t := 45) (by decide +kernel) (by decide)
theorem xX7_putSign_35 {a0 : Nat} {l1 l2 : Option zV} {h : zH} {Q : Option zV → zH → Prop} : zE 58 35 [some (.inr a0), l1, l2] [] h Q ↔ (zK h a0).1 = 16 ∧ (zK h a0).1 = 16 ∧ zE 58 45 [some (.inr a0), l1, l2] [] (zsI h 386 a0 (zw ((zI h 386 a0) + 1))) Q := (zX_aload_n (k := 0) (x := a0) (pc' := 36) (by decide +kernel) rfl rfl).trans <| (zX_dup (pc' := 37) (by decide +kernel) rfl).trans <| (zX_getI (ix := 25) (c := 6) (k := 2) (f := 386) (c9 := 16) (pc' := 40) (by decide +kernel) (by decide +kernel) (by decide +kernel) rfl rfl rfl).trans <| and_congr_right' <| (zX_iconst (n := 1) (pc' := 41) (by decide +kernel) (by decide) rfl).trans <| (zX_iadd (pc' := 42) (by decide +kernel) rfl).trans <| zX_putI (ix := 25) (c := 6) (k := 2) (f := 386) (c9 := 16) (pc' := 45) (by decide +kernel) (by decide +kernel) (by decide +kernel) (by decide +kernel) (by decide +kernel) rfl rfl rfl
theorem xX7_putSign_45  {l0 l1 l2 : Option zV} {h : zH} {Q : Option zV → zH → Prop} : zE 58 45 [l0, l1, l2] [] h Q ↔ Q none h := zX_return (by decide +kernel) (by decide +kernel)
-- FarTypewriter$Screen.newLine()V
theorem xX7_newLine_0 {a0 : Nat} {h : zH} {Q : Option zV → zH → Prop} : zE 59 0 [some (.inr a0)] [] h Q ↔ (zK h a0).1 = 16 ∧ zE 59 5 [some (.inr a0)] [] (zsI h 386 a0 0) Q := (zX_aload_n (k := 0) (x := a0) (pc' := 1) (by decide +kernel) rfl rfl).trans <| (zX_iconst (n := 0) (pc' := 2) (by decide +kernel) (by decide) rfl).trans <| zX_putI (ix := 25) (c := 6) (k := 2) (f := 386) (c9 := 16) (pc' := 5) (by decide +kernel) (by decide +kernel) (by decide +kernel) (by decide +kernel) (by decide +kernel) rfl rfl rfl
theorem xX7_newLine_5 {a0 : Nat} {h : zH} {Q : Option zV → zH → Prop} : zE 59 5 [some (.inr a0)] [] h Q ↔ (zK h a0).1 = 16 ∧ (if (zI h 385 a0) < 7 then zE 59 22 [some (.inr a0)] [] h Q else zE 59 14 [some (.inr a0)] [] h Q) := (zX_aload_n (k := 0) (x := a0) (pc' := 6) (by decide +kernel) rfl rfl).trans <| (zX_getI (ix := 21) (c := 6) (k := 1) (f := 385) (c9 := 16) (pc' := 9) (by decide +kernel) (by decide +kernel) (by decide +kernel) rfl rfl rfl).trans <| and_congr_right' <| (zX_bipush (n := 7) (pc' := 11) (by decide +kernel) (by decide) rfl).trans <| zX_icmp_lt (off := 11) (t := 22) (pc' := 14) (by decide +kernel) (by decide) rfl
theorem xX7_newLine_14 {a0 : Nat} {h : zH} {Q : Option zV → zH → Prop} : zE 59 14 [some (.inr a0)] [] h Q ↔ (zK h a0).1 = 16 ∧ zE 62 0 [some (.inr a0), some (.inl 1), none, none, none] [] h (fun r h' => zE 59 19 [some (.inr a0)] (r.toList ++ []) h' Q) := (zX_aload_n (k := 0) (x := a0) (pc' := 15) (by decide +kernel) rfl rfl).trans <| (zX_iconst (n := 1) (pc' := 16) (by decide +kernel) (by decide) rfl).trans <| zX_callV (ix := 41) (M' := 62) (n := 2) (m := 5) (c9 := 16) (a := a0) (as := [.inl 1]) (rest := []) (ls' := [some (.inr a0), some (.inl 1), none, none, none]) (pc' := 19) (by decide +kernel) (by decide +kernel) (by decide +kernel) (by decide +kernel) (by decide +kernel) (by decide +kernel) rfl rfl (Nat.le_of_ble_eq_true rfl) rfl rfl
theorem xX7_newLine_19  {l0 : Option zV} {h : zH} {Q : Option zV → zH → Prop} : zE 59 19 [l0] [] h Q ↔ zE 59 32 [l0] [] h Q := zX_goto (off := 13) (t := 32) (by decide +kernel) (by decide)
theorem xX7_newLine_22 {a0 : Nat} {h : zH} {Q : Option zV → zH → Prop} : zE 59 22 [some (.inr a0)] [] h Q ↔ (zK h a0).1 = 16 ∧ (zK h a0).1 = 16 ∧ zE 59 32 [some (.inr a0)] [] (zsI h 385 a0 (zw ((zI h 385 a0) + 1))) Q := (zX_aload_n (k := 0) (x := a0) (pc' := 23) (by decide +kernel) rfl rfl).trans <| (zX_dup (pc' := 24) (by decide +kernel) rfl).trans <| (zX_getI (ix := 21) (c := 6) (k := 1) (f := 385) (c9 := 16) (pc' := 27) (by decide +kernel) (by decide +kernel) (by decide +kernel) rfl rfl rfl).trans <| and_congr_right' <| (zX_iconst (n := 1) (pc' := 28) (by decide +kernel) (by decide) rfl).trans <| (zX_iadd (pc' := 29) (by decide +kernel) rfl).trans <| zX_putI (ix := 21) (c := 6) (k := 1) (f := 385) (c9 := 16) (pc' := 32) (by decide +kernel) (by decide +kernel) (by decide +kernel) (by decide +kernel) (by decide +kernel) rfl rfl rfl
theorem xX7_newLine_32  {l0 : Option zV} {h : zH} {Q : Option zV → zH → Prop} : zE 59 32 [l0] [] h Q ↔ Q none h := zX_return (by decide +kernel) (by decide +kernel)
-- FarTypewriter$Screen.rubOut()V
theorem xX7_rubOut_0 {a0 : Nat} {h : zH} {Q : Option zV → zH → Prop} : zE 60 0 [some (.inr a0)] [] h Q ↔ (zK h a0).1 = 16 ∧ (if (zI h 386 a0) ≤ 0 then zE 60 31 [some (.inr a0)] [] h Q else zE 60 7 [some (.inr a0)] [] h Q) := (zX_aload_n (k := 0) (x := a0) (pc' := 1) (by decide +kernel) rfl rfl).trans <| (zX_getI (ix := 25) (c := 6) (k := 2) (f := 386) (c9 := 16) (pc' := 4) (by decide +kernel) (by decide +kernel) (by decide +kernel) rfl rfl rfl).trans <| and_congr_right' <| zX_if_le (off := 27) (t := 31) (pc' := 7) (by decide +kernel) (by decide) rfl
theorem xX7_rubOut_7 {a0 : Nat} {h : zH} {Q : Option zV → zH → Prop} : zE 60 7 [some (.inr a0)] [] h Q ↔ (zK h a0).1 = 16 ∧ (zK h a0).1 = 16 ∧ zE 60 17 [some (.inr a0)] [] (zsI h 386 a0 (zw ((zI h 386 a0) - 1))) Q := (zX_aload_n (k := 0) (x := a0) (pc' := 8) (by decide +kernel) rfl rfl).trans <| (zX_dup (pc' := 9) (by decide +kernel) rfl).trans <| (zX_getI (ix := 25) (c := 6) (k := 2) (f := 386) (c9 := 16) (pc' := 12) (by decide +kernel) (by decide +kernel) (by decide +kernel) rfl rfl rfl).trans <| and_congr_right' <| (zX_iconst (n := 1) (pc' := 13) (by decide +kernel) (by decide) rfl).trans <| (zX_isub (pc' := 14) (by decide +kernel) rfl).trans <| zX_putI (ix := 25) (c := 6) (k := 2) (f := 386) (c9 := 16) (pc' := 17) (by decide +kernel) (by decide +kernel) (by decide +kernel) (by decide +kernel) (by decide +kernel) rfl rfl rfl
theorem xX7_rubOut_17 {a0 : Nat} {h : zH} {Q : Option zV → zH → Prop} : zE 60 17 [some (.inr a0)] [] h Q ↔ (zK h a0).1 = 16 ∧ (zK h a0).1 = 16 ∧ (zK h a0).1 = 16 ∧ zE 57 0 [some (.inr a0), some (.inl (zI h 385 a0)), some (.inl (zI h 386 a0)), some (.inl 32)] [] h (fun r h' => zE 60 31 [some (.inr a0)] (r.toList ++ []) h' Q) := (zX_aload_n (k := 0) (x := a0) (pc' := 18) (by decide +kernel) rfl rfl).trans <| (zX_aload_n (k := 0) (x := a0) (pc' := 19) (by decide +kernel) rfl rfl).trans <| (zX_getI (ix := 21) (c := 6) (k := 1) (f := 385) (c9 := 16) (pc' := 22) (by decide +kernel) (by decide +kernel) (by decide +kernel) rfl rfl rfl).trans <| and_congr_right' <| (zX_aload_n (k := 0) (x := a0) (pc' := 23) (by decide +kernel) rfl rfl).trans <| (zX_getI (ix := 25) (c := 6) (k := 2) (f := 386) (c9 := 16) (pc' := 26) (by decide +kernel) (by decide +kernel) (by decide +kernel) rfl rfl rfl).trans <| and_congr_right' <| (zX_bipush (n := 32) (pc' := 28) (by decide +kernel) (by decide) rfl).trans <| zX_callV (ix := 34) (M' := 57) (n := 4) (m := 4) (c9 := 16) (a := a0) (as := [.inl (zI h 385 a0), .inl (zI h 386 a0), .inl 32]) (rest := []) (ls' := [some (.inr a0), some (.inl (zI h 385 a0)), some (.inl (zI h 386 a0)), some (.inl 32)]) (pc' := 31) (by decide +kernel) (by decide +kernel) (by decide +kernel) (by decide +kernel) (by decide +kernel) (by decide +kernel) rfl rfl (Nat.le_of_ble_eq_true rfl) rfl rfl
theorem xX7_rubOut_31  {l0 : Option zV} {h : zH} {Q : Option zV → zH → Prop} : zE 60 31 [l0] [] h Q ↔ Q none h := zX_return (by decide +kernel) (by decide +kernel)
-- FarTypewriter$Screen.step(II)V
theorem xX7_step_0 {a0 : Nat} {x1 : Int} {x2 : Int} {l3 l4 : Option zV} {h : zH} {Q : Option zV → zH → Prop} : zE 61 0 [some (.inr a0), some (.inl x1), some (.inl x2), l3, l4] [] h Q ↔ (zK h a0).1 = 16 ∧ (zK h a0).1 = 16 ∧ (if (zw ((zI h 385 a0) + x1)) < 0 then zE 61 48 [some (.inr a0), some (.inl x1), some (.inl x2), some (.inl (zw ((zI h 385 a0) + x1))), some (.inl (zw ((zI h 386 a0) + x2)))] [] h Q else zE 61 19 [some (.inr a0), some (.inl x1), some (.inl x2), some (.inl (zw ((zI h 385 a0) + x1))), some (.inl (zw ((zI h 386 a0) + x2)))] [] h Q) := (zX_aload_n (k := 0) (x := a0) (pc' := 1) (by decide +kernel) rfl rfl).trans <| (zX_getI (ix := 21) (c := 6) (k := 1) (f := 385) (c9 := 16) (pc' := 4) (by decide +kernel) (by decide +kernel) (by decide +kernel) rfl rfl rfl).trans <| and_congr_right' <| (zX_iload_n (k := 1) (x := x1) (pc' := 5) (by decide +kernel) rfl rfl).trans <| (zX_iadd (pc' := 6) (by decide +kernel) rfl).trans <| (zX_istore_n (k := 3) (ls' := [some (.inr a0), some (.inl x1), some (.inl x2), some (.inl (zw ((zI h 385 a0) + x1))), l4]) (pc' := 7) (by decide +kernel) (Nat.le_of_ble_eq_true rfl) rfl rfl).trans <| (zX_aload_n (k := 0) (x := a0) (pc' := 8) (by decide +kernel) rfl rfl).trans <| (zX_getI (ix := 25) (c := 6) (k := 2) (f := 386) (c9 := 16) (pc' := 11) (by decide +kernel) (by decide +kernel) (by decide +kernel) rfl rfl rfl).trans <| and_congr_right' <| (zX_iload_n (k := 2) (x := x2) (pc' := 12) (by decide +kernel) rfl rfl).trans <| (zX_iadd (pc' := 13) (by decide +kernel) rfl).trans <| (zX_istore (k := 4) (ls' := [some (.inr a0), some (.inl x1), some (.inl x2), some (.inl (zw ((zI h 385 a0) + x1))), some (.inl (zw ((zI h 386 a0) + x2)))]) (pc' := 15) (by decide +kernel) (Nat.le_of_ble_eq_true rfl) rfl rfl).trans <| (zX_iload_n (k := 3) (x := zw ((zI h 385 a0) + x1)) (pc' := 16) (by decide +kernel) rfl rfl).trans <| zX_if_lt (off := 32) (t := 48) (pc' := 19) (by decide +kernel) (by decide) rfl
theorem xX7_step_19 {x3 : Int} {l0 l1 l2 l4 : Option zV} {h : zH} {Q : Option zV → zH → Prop} : zE 61 19 [l0, l1, l2, some (.inl x3), l4] [] h Q ↔ if 8 ≤ x3 then zE 61 48 [l0, l1, l2, some (.inl x3), l4] [] h Q else zE 61 25 [l0, l1, l2, some (.inl x3), l4] [] h Q := (zX_iload_n (k := 3) (x := x3) (pc' := 20) (by decide +kernel) rfl rfl).trans <| (zX_bipush (n := 8) (pc' := 22) (by decide +kernel) (by decide) rfl).trans <| zX_icmp_ge (off := 26) (t := 48) (pc' := 25) (by decide +kernel) (by decide) rfl
theorem xX7_step_25 {x4 : Int} {l0 l1 l2 l3 : Option zV} {h : zH} {Q : Option zV → zH → Prop} : zE 61 25 [l0, l1, l2, l3, some (.inl x4)] [] h Q ↔ if x4 < 0 then zE 61 48 [l0, l1, l2, l3, some (.inl x4)] [] h Q else zE 61 30 [l0, l1, l2, l3, some (.inl x4)] [] h Q := (zX_iload (k := 4) (x := x4) (pc' := 27) (by decide +kernel) rfl rfl).trans <| zX_if_lt (off := 21) (t := 48) (pc' := 30) (by decide +kernel) (by decide) rfl
theorem xX7_step_30 {x4 : Int} {l0 l1 l2 l3 : Option zV} {h : zH} {Q : Option zV → zH → Prop} : zE 61 30 [l0, l1, l2, l3, some (.inl x4)] [] h Q ↔ if 24 ≤ x4 then zE 61 48 [l0, l1, l2, l3, some (.inl x4)] [] h Q else zE 61 37 [l0, l1, l2, l3, some (.inl x4)] [] h Q := (zX_iload (k := 4) (x := x4) (pc' := 32) (by decide +kernel) rfl rfl).trans <| (zX_bipush (n := 24) (pc' := 34) (by decide +kernel) (by decide) rfl).trans <| zX_icmp_ge (off := 14) (t := 48) (pc' := 37) (by decide +kernel) (by decide) rfl
theorem xX7_step_37 {a0 : Nat} {x3 : Int} {l1 l2 l4 : Option zV} {h : zH} {Q : Option zV → zH → Prop} : zE 61 37 [some (.inr a0), l1, l2, some (.inl x3), l4] [] h Q ↔ (zK h a0).1 = 16 ∧ zE 61 42 [some (.inr a0), l1, l2, some (.inl x3), l4] [] (zsI h 385 a0 x3) Q := (zX_aload_n (k := 0) (x := a0) (pc' := 38) (by decide +kernel) rfl rfl).trans <| (zX_iload_n (k := 3) (x := x3) (pc' := 39) (by decide +kernel) rfl rfl).trans <| zX_putI (ix := 21) (c := 6) (k := 1) (f := 385) (c9 := 16) (pc' := 42) (by decide +kernel) (by decide +kernel) (by decide +kernel) (by decide +kernel) (by decide +kernel) rfl rfl rfl
theorem xX7_step_42 {a0 : Nat} {x4 : Int} {l1 l2 l3 : Option zV} {h : zH} {Q : Option zV → zH → Prop} : zE 61 42 [some (.inr a0), l1, l2, l3, some (.inl x4)] [] h Q ↔ (zK h a0).1 = 16 ∧ zE 61 48 [some (.inr a0), l1, l2, l3, some (.inl x4)] [] (zsI h 386 a0 x4) Q := (zX_aload_n (k := 0) (x := a0) (pc' := 43) (by decide +kernel) rfl rfl).trans <| (zX_iload (k := 4) (x := x4) (pc' := 45) (by decide +kernel) rfl rfl).trans <| zX_putI (ix := 25) (c := 6) (k := 2) (f := 386) (c9 := 16) (pc' := 48) (by decide +kernel) (by decide +kernel) (by decide +kernel) (by decide +kernel) (by decide +kernel) rfl rfl rfl
theorem xX7_step_48  {l0 l1 l2 l3 l4 : Option zV} {h : zH} {Q : Option zV → zH → Prop} : zE 61 48 [l0, l1, l2, l3, l4] [] h Q ↔ Q none h := zX_return (by decide +kernel) (by decide +kernel)
-- FarTypewriter$Screen.scrollBy(I)V
theorem xX7_scrollBy_0 {x1 : Int} {l0 l2 l3 l4 : Option zV} {h : zH} {Q : Option zV → zH → Prop} : zE 62 0 [l0, some (.inl x1), l2, l3, l4] [] h Q ↔ if x1 < 0 then zE 62 10 [l0, some (.inl x1), l2, l3, l4] [] h Q else zE 62 4 [l0, some (.inl x1), l2, l3, l4] [] h Q := (zX_iload_n (k := 1) (x := x1) (pc' := 1) (by decide +kernel) rfl rfl).trans <| zX_if_lt (off := 9) (t := 10) (pc' := 4) (by decide +kernel) (by decide) rfl
theorem xX7_scrollBy_4 {x1 : Int} {l0 l2 l3 l4 : Option zV} {h : zH} {Q : Option zV → zH → Prop} : zE 62 4 [l0, some (.inl x1), l2, l3, l4] [] h Q ↔ if x1 ≤ 8 then zE 62 11 [l0, some (.inl x1), l2, l3, l4] [] h Q else zE 62 10 [l0, some (.inl x1), l2, l3, l4] [] h Q := (zX_iload_n (k := 1) (x := x1) (pc' := 5) (by decide +kernel) rfl rfl).trans <| (zX_bipush (n := 8) (pc' := 7) (by decide +kernel) (by decide) rfl).trans <| zX_icmp_le (off := 4) (t := 11) (pc' := 10) (by decide +kernel) (by decide) rfl
theorem xX7_scrollBy_10  {l0 l1 l2 l3 l4 : Option zV} {h : zH} {Q : Option zV → zH → Prop} : zE 62 10 [l0, l1, l2, l3, l4] [] h Q ↔ Q none h := zX_return (by decide +kernel) (by decide +kernel)
theorem xX7_scrollBy_11 {x1 : Int} {l0 l2 l3 l4 : Option zV} {h : zH} {Q : Option zV → zH → Prop} : zE 62 11 [l0, some (.inl x1), l2, l3, l4] [] h Q ↔ zE 62 23 [l0, some (.inl x1), some (.inl (zw (x1 * 24))), some (.inl 192), some (.inl 0)] [] h Q := (zX_iload_n (k := 1) (x := x1) (pc' := 12) (by decide +kernel) rfl rfl).trans <| (zX_bipush (n := 24) (pc' := 14) (by decide +kernel) (by decide) rfl).trans <| (zX_imul (pc' := 15) (by decide +kernel) rfl).trans <| (zX_istore_n (k := 2) (ls' := [l0, some (.inl x1), some (.inl (zw (x1 * 24))), l3, l4]) (pc' := 16) (by decide +kernel) (Nat.le_of_ble_eq_true rfl) rfl rfl).trans <| (zX_sipush (n := 192) (pc' := 19) (by decide +kernel) (by decide) rfl).trans <| (zX_istore_n (k := 3) (ls' := [l0, some (.inl x1), some (.inl (zw (x1 * 24))), some (.inl 192), l4]) (pc' := 20) (by decide +kernel) (Nat.le_of_ble_eq_true rfl) rfl rfl).trans <| (zX_iconst (n := 0) (pc' := 21) (by decide +kernel) (by decide) rfl).trans <| (zX_istore (k := 4) (ls' := [l0, some (.inl x1), some (.inl (zw (x1 * 24))), some (.inl 192), some (.inl 0)]) (pc' := 23) (by decide +kernel) (Nat.le_of_ble_eq_true rfl) rfl rfl).trans <| Iff.rfl
theorem xX7_scrollBy_23 {x4 : Int} {x3 : Int} {l0 l1 l2 : Option zV} {h : zH} {Q : Option zV → zH → Prop} : zE 62 23 [l0, l1, l2, some (.inl x3), some (.inl x4)] [] h Q ↔ if x3 ≤ x4 then zE 62 64 [l0, l1, l2, some (.inl x3), some (.inl x4)] [] h Q else zE 62 29 [l0, l1, l2, some (.inl x3), some (.inl x4)] [] h Q := (zX_iload (k := 4) (x := x4) (pc' := 25) (by decide +kernel) rfl rfl).trans <| (zX_iload_n (k := 3) (x := x3) (pc' := 26) (by decide +kernel) rfl rfl).trans <| zX_icmp_ge (off := 38) (t := 64) (pc' := 29) (by decide +kernel) (by decide) rfl
theorem xX7_scrollBy_29 {a0 : Nat} {x4 : Int} {x2 : Int} {x3 : Int} {l1 : Option zV} {h : zH} {Q : Option zV → zH → Prop} : zE 62 29 [some (.inr a0), l1, some (.inl x2), some (.inl x3), some (.inl x4)] [] h Q ↔ (zK h a0).1 = 16 ∧ (if x3 ≤ (zw (x4 + x2)) then zE 62 55 [some (.inr a0), l1, some (.inl x2), some (.inl x3), some (.inl x4)] [.inl x4, .inr (zR h 384 a0)] h Q else zE 62 43 [some (.inr a0), l1, some (.inl x2), some (.inl x3), some (.inl x4)] [.inl x4, .inr (zR h 384 a0)] h Q) := (zX_aload_n (k := 0) (x := a0) (pc' := 30) (by decide +kernel) rfl rfl).trans <| (zX_getR (ix := 9) (c := 6) (k := 0) (f := 384) (c9 := 16) (pc' := 33) (by decide +kernel) (by decide +kernel) (by decide +kernel) rfl rfl rfl).trans <| and_congr_right' <| (zX_iload (k := 4) (x := x4) (pc' := 35) (by decide +kernel) rfl rfl).trans <| (zX_iload (k := 4) (x := x4) (pc' := 37) (by decide +kernel) rfl rfl).trans <| (zX_iload_n (k := 2) (x := x2) (pc' := 38) (by decide +kernel) rfl rfl).trans <| (zX_iadd (pc' := 39) (by decide +kernel) rfl).trans <| (zX_iload_n (k := 3) (x := x3) (pc' := 40) (by decide +kernel) rfl rfl).trans <| zX_icmp_ge (off := 15) (t := 55) (pc' := 43) (by decide +kernel) (by decide) rfl
theorem xX7_scrollBy_43 {s0 : Int} {s1 : Nat} {a0 : Nat} {x4 : Int} {x2 : Int} {l1 l3 : Option zV} {h : zH} {Q : Option zV → zH → Prop} : zE 62 43 [some (.inr a0), l1, some (.inl x2), l3, some (.inl x4)] [.inl s0, .inr s1] h Q ↔ (zK h a0).1 = 16 ∧ ((zK h (zR h 384 a0)).1 = 1 ∨ (zK h (zR h 384 a0)).1 = 5) ∧ (0 ≤ (zw (x4 + x2)) ∧ (zw (x4 + x2)) < (zK h (zR h 384 a0)).2) ∧ zE 62 57 [some (.inr a0), l1, some (.inl x2), l3, some (.inl x4)] [.inl (zA h (zR h 384 a0) (zw (x4 + x2)).toNat), .inl s0, .inr s1] h Q := (zX_aload_n (k := 0) (x := a0) (pc' := 44) (by decide +kernel) rfl rfl).trans <| (zX_getR (ix := 9) (c := 6) (k := 0) (f := 384) (c9 := 16) (pc' := 47) (by decide +kernel) (by decide +kernel) (by decide +kernel) rfl rfl rfl).trans <| and_congr_right' <| (zX_iload (k := 4) (x := x4) (pc' := 49) (by decide +kernel) rfl rfl).trans <| (zX_iload_n (k := 2) (x := x2) (pc' := 50) (by decide +kernel) rfl rfl).trans <| (zX_iadd (pc' := 51) (by decide +kernel) rfl).trans <| (zX_iaload (pc' := 52) (by decide +kernel) rfl).trans <| and_congr_right' <| and_congr_right' <| zX_goto (off := 5) (t := 57) (by decide +kernel) (by decide)
theorem xX7_scrollBy_55 {s0 : Int} {s1 : Nat} {l0 l1 l2 l3 l4 : Option zV} {h : zH} {Q : Option zV → zH → Prop} : zE 62 55 [l0, l1, l2, l3, l4] [.inl s0, .inr s1] h Q ↔ zE 62 57 [l0, l1, l2, l3, l4] [.inl 32, .inl s0, .inr s1] h Q := (zX_bipush (n := 32) (pc' := 57) (by decide +kernel) (by decide) rfl).trans <| Iff.rfl
theorem xX7_scrollBy_57 {s0 : Int} {s1 : Int} {s2 : Nat} {l0 l1 l2 l3 l4 : Option zV} {h : zH} {Q : Option zV → zH → Prop} : zE 62 57 [l0, l1, l2, l3, l4] [.inl s0, .inl s1, .inr s2] h Q ↔ (zK h s2).1 = 1 ∧ (0 ≤ s1 ∧ s1 < (zK h s2).2) ∧ zE 62 58 [l0, l1, l2, l3, l4] [] (zsA h s2 s1.toNat s0) Q := zX_iastore (pc' := 58) (by decide +kernel) rfl
theorem xX7_scrollBy_58 {x4 : Int} {l0 l1 l2 l3 : Option zV} {h : zH} {Q : Option zV → zH → Prop} : zE 62 58 [l0, l1, l2, l3, some (.inl x4)] [] h Q ↔ zE 62 23 [l0, l1, l2, l3, some (.inl (zw (x4 + 1)))] [] h Q := (zX_iinc (k := 4) (n := 1) (x := x4) (ls' := [l0, l1, l2, l3, some (.inl (zw (x4 + 1)))]) (pc' := 61) (by decide +kernel) rfl rfl rfl).trans <| zX_goto (off := -38) (t := 23) (by decide +kernel) (by decide)
theorem xX7_scrollBy_64  {l0 l1 l2 l3 l4 : Option zV} {h : zH} {Q : Option zV → zH → Prop} : zE 62 64 [l0, l1, l2, l3, l4] [] h Q ↔ Q none h := zX_return (by decide +kernel) (by decide +kernel)
-- FarTypewriter$Screen.fillRow(II)V
theorem xX7_fillRow_0  {l0 l1 l2 l3 : Option zV} {h : zH} {Q : Option zV → zH → Prop} : zE 63 0 [l0, l1, l2, l3] [] h Q ↔ zE 63 2 [l0, l1, l2, some (.inl 0)] [] h Q := (zX_iconst (n := 0) (pc' := 1) (by decide +kernel) (by decide) rfl).trans <| (zX_istore_n (k := 3) (ls' := [l0, l1, l2, some (.inl 0)]) (pc' := 2) (by decide +kernel) (Nat.le_of_ble_eq_true rfl) rfl rfl).trans <| Iff.rfl
theorem xX7_fillRow_2 {x3 : Int} {l0 l1 l2 : Option zV} {h : zH} {Q : Option zV → zH → Prop} : zE 63 2 [l0, l1, l2, some (.inl x3)] [] h Q ↔ if 24 ≤ x3 then zE 63 21 [l0, l1, l2, some (.inl x3)] [] h Q else zE 63 8 [l0, l1, l2, some (.inl x3)] [] h Q := (zX_iload_n (k := 3) (x := x3) (pc' := 3) (by decide +kernel) rfl rfl).trans <| (zX_bipush (n := 24) (pc' := 5) (by decide +kernel) (by decide) rfl).trans <| zX_icmp_ge (off := 16) (t := 21) (pc' := 8) (by decide +kernel) (by decide) rfl
theorem xX7_fillRow_8 {a0 : Nat} {x1 : Int} {x3 : Int} {x2 : Int} {h : zH} {Q : Option zV → zH → Prop} : zE 63 8 [some (.inr a0), some (.inl x1), some (.inl x2), some (.inl x3)] [] h Q ↔ (zK h a0).1 = 16 ∧ zE 57 0 [some (.inr a0), some (.inl x1), some (.inl x3), some (.inl x2)] [] h (fun r h' => zE 63 15 [some (.inr a0), some (.inl x1), some (.inl x2), some (.inl x3)] (r.toList ++ []) h' Q) := (zX_aload_n (k := 0) (x := a0) (pc' := 9) (by decide +kernel) rfl rfl).trans <| (zX_iload_n (k := 1) (x := x1) (pc' := 10) (by decide +kernel) rfl rfl).trans <| (zX_iload_n (k := 3) (x := x3) (pc' := 11) (by decide +kernel) rfl rfl).trans <| (zX_iload_n (k := 2) (x := x2) (pc' := 12) (by decide +kernel) rfl rfl).trans <| zX_callV (ix := 34) (M' := 57) (n := 4) (m := 4) (c9 := 16) (a := a0) (as := [.inl x1, .inl x3, .inl x2]) (rest := []) (ls' := [some (.inr a0), some (.inl x1), some (.inl x3), some (.inl x2)]) (pc' := 15) (by decide +kernel) (by decide +kernel) (by decide +kernel) (by decide +kernel) (by decide +kernel) (by decide +kernel) rfl rfl (Nat.le_of_ble_eq_true rfl) rfl rfl
theorem xX7_fillRow_15 {x3 : Int} {l0 l1 l2 : Option zV} {h : zH} {Q : Option zV → zH → Prop} : zE 63 15 [l0, l1, l2, some (.inl x3)] [] h Q ↔ zE 63 2 [l0, l1, l2, some (.inl (zw (x3 + 1)))] [] h Q := (zX_iinc (k := 3) (n := 1) (x := x3) (ls' := [l0, l1, l2, some (.inl (zw (x3 + 1)))]) (pc' := 18) (by decide +kernel) rfl rfl rfl).trans <| zX_goto (off := -16) (t := 2) (by decide +kernel) (by decide)
theorem xX7_fillRow_21  {l0 l1 l2 l3 : Option zV} {h : zH} {Q : Option zV → zH → Prop} : zE 63 21 [l0, l1, l2, l3] [] h Q ↔ Q none h := zX_return (by decide +kernel) (by decide +kernel)
-- FarTypewriter$State.<init>()V
theorem xX8_init_0 {a0 : Nat} {h : zH} {Q : Option zV → zH → Prop} : zE 64 0 [some (.inr a0)] [] h Q ↔ a0 ≠ 0 ∧ zE 64 4 [some (.inr a0)] [] h Q := (zX_aload_n (k := 0) (x := a0) (pc' := 1) (by decide +kernel) rfl rfl).trans <| zX_objInit (ix := 1) (k9 := 0) (pc' := 4) (by decide +kernel) (by decide +kernel) (by decide +kernel) (Nat.le_of_ble_eq_true rfl) rfl
theorem xX8_init_4 {a0 : Nat} {h : zH} {Q : Option zV → zH → Prop} : zE 64 4 [some (.inr a0)] [] h Q ↔ zE 64 8 [some (.inr a0)] [.inr (zn h), .inr a0] (znO h 6 3) Q := (zX_aload_n (k := 0) (x := a0) (pc' := 5) (by decide +kernel) rfl rfl).trans <| zX_new (ix := 7) (c := 6) (N := 3) (pc' := 8) (by decide +kernel) (by decide +kernel) (by decide +kernel) rfl
theorem xX8_init_8 {s0 : Nat} {s1 : Nat} {l0 : Option zV} {h : zH} {Q : Option zV → zH → Prop} : zE 64 8 [l0] [.inr s0, .inr s1] h Q ↔ s0 ≠ 0 ∧ zE 52 0 [some (.inr s0)] [] h (fun r h' => zE 64 12 [l0] (r.toList ++ [.inr s0, .inr s1]) h' Q) := (zX_dup (pc' := 9) (by decide +kernel) rfl).trans <| zX_callI (ix := 9) (M' := 52) (n := 1) (m := 1) (a := s0) (as := []) (rest := [.inr s0, .inr s1]) (ls' := [some (.inr s0)]) (pc' := 12) (by decide +kernel) (by decide +kernel) (by decide +kernel) (by decide +kernel) rfl rfl (Nat.le_of_ble_eq_true rfl) rfl rfl
theorem xX8_init_12 {s0 : Nat} {s1 : Nat} {l0 : Option zV} {h : zH} {Q : Option zV → zH → Prop} : zE 64 12 [l0] [.inr s0, .inr s1] h Q ↔ (zK h s1).1 = 17 ∧ zE 64 15 [l0] [] (zsR h 448 s1 s0) Q := zX_putR (ix := 10) (c := 7) (k := 0) (f := 448) (c9 := 17) (pc' := 15) (by decide +kernel) (by decide +kernel) (by decide +kernel) (by decide +kernel) rfl rfl rfl
theorem xX8_init_15  {l0 : Option zV} {h : zH} {Q : Option zV → zH → Prop} : zE 64 15 [l0] [] h Q ↔ Q none h := zX_return (by decide +kernel) (by decide +kernel)
-- FarTypewriter$State.become(II)V
theorem xX8_become_0 {a0 : Nat} {x1 : Int} {l2 : Option zV} {h : zH} {Q : Option zV → zH → Prop} : zE 65 0 [some (.inr a0), some (.inl x1), l2] [] h Q ↔ (zK h a0).1 = 17 ∧ zE 65 5 [some (.inr a0), some (.inl x1), l2] [] (zsI h 449 a0 x1) Q := (zX_aload_n (k := 0) (x := a0) (pc' := 1) (by decide +kernel) rfl rfl).trans <| (zX_iload_n (k := 1) (x := x1) (pc' := 2) (by decide +kernel) rfl rfl).trans <| zX_putI (ix := 16) (c := 7) (k := 1) (f := 449) (c9 := 17) (pc' := 5) (by decide +kernel) (by decide +kernel) (by decide +kernel) (by decide +kernel) (by decide +kernel) rfl rfl rfl
theorem xX8_become_5 {a0 : Nat} {x2 : Int} {l1 : Option zV} {h : zH} {Q : Option zV → zH → Prop} : zE 65 5 [some (.inr a0), l1, some (.inl x2)] [] h Q ↔ (zK h a0).1 = 17 ∧ zE 65 10 [some (.inr a0), l1, some (.inl x2)] [] (zsI h 450 a0 x2) Q := (zX_aload_n (k := 0) (x := a0) (pc' := 6) (by decide +kernel) rfl rfl).trans <| (zX_iload_n (k := 2) (x := x2) (pc' := 7) (by decide +kernel) rfl rfl).trans <| zX_putI (ix := 20) (c := 7) (k := 2) (f := 450) (c9 := 17) (pc' := 10) (by decide +kernel) (by decide +kernel) (by decide +kernel) (by decide +kernel) (by decide +kernel) rfl rfl rfl
theorem xX8_become_10  {l0 l1 l2 : Option zV} {h : zH} {Q : Option zV → zH → Prop} : zE 65 10 [l0, l1, l2] [] h Q ↔ Q none h := zX_return (by decide +kernel) (by decide +kernel)
-- FarTypewriter$States.<init>()V
theorem xX9_init_0 {a0 : Nat} {h : zH} {Q : Option zV → zH → Prop} : zE 66 0 [some (.inr a0)] [] h Q ↔ a0 ≠ 0 ∧ zE 66 4 [some (.inr a0)] [] h Q := (zX_aload_n (k := 0) (x := a0) (pc' := 1) (by decide +kernel) rfl rfl).trans <| zX_objInit (ix := 3) (k9 := 0) (pc' := 4) (by decide +kernel) (by decide +kernel) (by decide +kernel) (Nat.le_of_ble_eq_true rfl) rfl
theorem xX9_init_4 {a0 : Nat} {h : zH} {Q : Option zV → zH → Prop} : zE 66 4 [some (.inr a0)] [] h Q ↔ (0 ≤ (32 : Int) ∧ (32 : Int) ≤ 100000) ∧ zE 66 10 [some (.inr a0)] [.inr (zn h), .inr a0] (znA h 2 (32 : Int).toNat) Q := (zX_aload_n (k := 0) (x := a0) (pc' := 5) (by decide +kernel) rfl rfl).trans <| (zX_bipush (n := 32) (pc' := 7) (by decide +kernel) (by decide) rfl).trans <| zX_anewarray (ix := 9) (c := 7) (t := 2) (pc' := 10) (by decide +kernel) (by decide +kernel) rfl (by decide) rfl
theorem xX9_init_10 {s0 : Nat} {s1 : Nat} {l0 : Option zV} {h : zH} {Q : Option zV → zH → Prop} : zE 66 10 [l0] [.inr s0, .inr s1] h Q ↔ (zK h s1).1 = 18 ∧ zE 66 13 [l0] [] (zsR h 512 s1 s0) Q := zX_putR (ix := 11) (c := 8) (k := 0) (f := 512) (c9 := 18) (pc' := 13) (by decide +kernel) (by decide +kernel) (by decide +kernel) (by decide +kernel) rfl rfl rfl
theorem xX9_init_13 {a0 : Nat} {h : zH} {Q : Option zV → zH → Prop} : zE 66 13 [some (.inr a0)] [] h Q ↔ zE 66 17 [some (.inr a0)] [.inr (zn h), .inr a0] (znO h 7 3) Q := (zX_aload_n (k := 0) (x := a0) (pc' := 14) (by decide +kernel) rfl rfl).trans <| zX_new (ix := 9) (c := 7) (N := 3) (pc' := 17) (by decide +kernel) (by decide +kernel) (by decide +kernel) rfl
theorem xX9_init_17 {s0 : Nat} {s1 : Nat} {l0 : Option zV} {h : zH} {Q : Option zV → zH → Prop} : zE 66 17 [l0] [.inr s0, .inr s1] h Q ↔ s0 ≠ 0 ∧ zE 64 0 [some (.inr s0)] [] h (fun r h' => zE 66 21 [l0] (r.toList ++ [.inr s0, .inr s1]) h' Q) := (zX_dup (pc' := 18) (by decide +kernel) rfl).trans <| zX_callI (ix := 17) (M' := 64) (n := 1) (m := 1) (a := s0) (as := []) (rest := [.inr s0, .inr s1]) (ls' := [some (.inr s0)]) (pc' := 21) (by decide +kernel) (by decide +kernel) (by decide +kernel) (by decide +kernel) rfl rfl (Nat.le_of_ble_eq_true rfl) rfl rfl
theorem xX9_init_21 {s0 : Nat} {s1 : Nat} {l0 : Option zV} {h : zH} {Q : Option zV → zH → Prop} : zE 66 21 [l0] [.inr s0, .inr s1] h Q ↔ (zK h s1).1 = 18 ∧ zE 66 24 [l0] [] (zsR h 513 s1 s0) Q := zX_putR (ix := 18) (c := 8) (k := 1) (f := 513) (c9 := 18) (pc' := 24) (by decide +kernel) (by decide +kernel) (by decide +kernel) (by decide +kernel) rfl rfl rfl
theorem xX9_init_24 {a0 : Nat} {h : zH} {Q : Option zV → zH → Prop} : zE 66 24 [some (.inr a0)] [] h Q ↔ (zK h a0).1 = 18 ∧ zE 66 29 [some (.inr a0)] [] (zsI h 514 a0 1) Q := (zX_aload_n (k := 0) (x := a0) (pc' := 25) (by decide +kernel) rfl rfl).trans <| (zX_iconst (n := 1) (pc' := 26) (by decide +kernel) (by decide) rfl).trans <| zX_putI (ix := 22) (c := 8) (k := 2) (f := 514) (c9 := 18) (pc' := 29) (by decide +kernel) (by decide +kernel) (by decide +kernel) (by decide +kernel) (by decide +kernel) rfl rfl rfl
theorem xX9_init_29 {a0 : Nat} {h : zH} {Q : Option zV → zH → Prop} : zE 66 29 [some (.inr a0)] [] h Q ↔ (zK h a0).1 = 18 ∧ (zK h a0).1 = 18 ∧ (2 ≤ (zK h (zR h 512 a0)).1 ∧ (zK h (zR h 512 a0)).1 ≤ 4) ∧ (zK h (zR h 513 a0)).1 = 10 + zel (zK h (zR h 512 a0)).1 ∧ (0 ≤ (0 : Int) ∧ (0 : Int) < (zK h (zR h 512 a0)).2) ∧ zE 66 39 [some (.inr a0)] [] (zsB h (zR h 512 a0) (0 : Int).toNat (zR h 513 a0)) Q := (zX_aload_n (k := 0) (x := a0) (pc' := 30) (by decide +kernel) rfl rfl).trans <| (zX_getR (ix := 11) (c := 8) (k := 0) (f := 512) (c9 := 18) (pc' := 33) (by decide +kernel) (by decide +kernel) (by decide +kernel) rfl rfl rfl).trans <| and_congr_right' <| (zX_iconst (n := 0) (pc' := 34) (by decide +kernel) (by decide) rfl).trans <| (zX_aload_n (k := 0) (x := a0) (pc' := 35) (by decide +kernel) rfl rfl).trans <| (zX_getR (ix := 18) (c := 8) (k := 1) (f := 513) (c9 := 18) (pc' := 38) (by decide +kernel) (by decide +kernel) (by decide +kernel) rfl rfl rfl).trans <| and_congr_right' <| zX_aastore (pc' := 39) (by decide +kernel) rfl
theorem xX9_init_39  {l0 : Option zV} {h : zH} {Q : Option zV → zH → Prop} : zE 66 39 [l0] [] h Q ↔ Q none h := zX_return (by decide +kernel) (by decide +kernel)
-- FarTypewriter$States.reset()V
theorem xX9_reset_0 {a0 : Nat} {l1 : Option zV} {h : zH} {Q : Option zV → zH → Prop} : zE 67 0 [some (.inr a0), l1] [] h Q ↔ (zK h a0).1 = 18 ∧ (2 ≤ (zK h (zR h 512 a0)).1 ∧ (zK h (zR h 512 a0)).1 ≤ 4) ∧ (0 ≤ (0 : Int) ∧ (0 : Int) < (zK h (zR h 512 a0)).2) ∧ (if (zB h (zR h 512 a0) (0 : Int).toNat) ≠ 0 then zE 67 12 [some (.inr a0), some (.inr (zB h (zR h 512 a0) (0 : Int).toNat))] [] h Q else zE 67 11 [some (.inr a0), some (.inr (zB h (zR h 512 a0) (0 : Int).toNat))] [] h Q) := (zX_aload_n (k := 0) (x := a0) (pc' := 1) (by decide +kernel) rfl rfl).trans <| (zX_getR (ix := 11) (c := 8) (k := 0) (f := 512) (c9 := 18) (pc' := 4) (by decide +kernel) (by decide +kernel) (by decide +kernel) rfl rfl rfl).trans <| and_congr_right' <| (zX_iconst (n := 0) (pc' := 5) (by decide +kernel) (by decide) rfl).trans <| (zX_aaload (pc' := 6) (by decide +kernel) rfl).trans <| and_congr_right' <| and_congr_right' <| (zX_astore_n (k := 1) (ls' := [some (.inr a0), some (.inr (zB h (zR h 512 a0) (0 : Int).toNat))]) (pc' := 7) (by decide +kernel) (Nat.le_of_ble_eq_true rfl) rfl rfl).trans <| (zX_aload_n (k := 1) (x := zB h (zR h 512 a0) (0 : Int).toNat) (pc' := 8) (by decide +kernel) rfl rfl).trans <| zX_ifnonnull (off := 4) (t := 12) (pc' := 11) (by decide +kernel) (by decide) rfl
theorem xX9_reset_11  {l0 l1 : Option zV} {h : zH} {Q : Option zV → zH → Prop} : zE 67 11 [l0, l1] [] h Q ↔ Q none h := zX_return (by decide +kernel) (by decide +kernel)
theorem xX9_reset_12 {a1 : Nat} {l0 : Option zV} {h : zH} {Q : Option zV → zH → Prop} : zE 67 12 [l0, some (.inr a1)] [] h Q ↔ (zK h a1).1 = 17 ∧ (zK h (zR h 448 a1)).1 = 16 ∧ zE 53 0 [some (.inr (zR h 448 a1))] [] h (fun r h' => zE 67 19 [l0, some (.inr a1)] (r.toList ++ []) h' Q) := (zX_aload_n (k := 1) (x := a1) (pc' := 13) (by decide +kernel) rfl rfl).trans <| (zX_getR (ix := 26) (c := 7) (k := 0) (f := 448) (c9 := 17) (pc' := 16) (by decide +kernel) (by decide +kernel) (by decide +kernel) rfl rfl rfl).trans <| and_congr_right' <| zX_callV (ix := 30) (M' := 53) (n := 1) (m := 1) (c9 := 16) (a := zR h 448 a1) (as := []) (rest := []) (ls' := [some (.inr (zR h 448 a1))]) (pc' := 19) (by decide +kernel) (by decide +kernel) (by decide +kernel) (by decide +kernel) (by decide +kernel) (by decide +kernel) rfl rfl (Nat.le_of_ble_eq_true rfl) rfl rfl
theorem xX9_reset_19 {a1 : Nat} {l0 : Option zV} {h : zH} {Q : Option zV → zH → Prop} : zE 67 19 [l0, some (.inr a1)] [] h Q ↔ (zK h a1).1 = 17 ∧ zE 65 0 [some (.inr a1), some (.inl 0), some (.inl 0)] [] h (fun r h' => zE 67 25 [l0, some (.inr a1)] (r.toList ++ []) h' Q) := (zX_aload_n (k := 1) (x := a1) (pc' := 20) (by decide +kernel) rfl rfl).trans <| (zX_iconst (n := 0) (pc' := 21) (by decide +kernel) (by decide) rfl).trans <| (zX_iconst (n := 0) (pc' := 22) (by decide +kernel) (by decide) rfl).trans <| zX_callV (ix := 35) (M' := 65) (n := 3) (m := 3) (c9 := 17) (a := a1) (as := [.inl 0, .inl 0]) (rest := []) (ls' := [some (.inr a1), some (.inl 0), some (.inl 0)]) (pc' := 25) (by decide +kernel) (by decide +kernel) (by decide +kernel) (by decide +kernel) (by decide +kernel) (by decide +kernel) rfl rfl (Nat.le_of_ble_eq_true rfl) rfl rfl
theorem xX9_reset_25 {a0 : Nat} {a1 : Nat} {h : zH} {Q : Option zV → zH → Prop} : zE 67 25 [some (.inr a0), some (.inr a1)] [] h Q ↔ (zK h a0).1 = 18 ∧ zE 67 30 [some (.inr a0), some (.inr a1)] [] (zsR h 513 a0 a1) Q := (zX_aload_n (k := 0) (x := a0) (pc' := 26) (by decide +kernel) rfl rfl).trans <| (zX_aload_n (k := 1) (x := a1) (pc' := 27) (by decide +kernel) rfl rfl).trans <| zX_putR (ix := 18) (c := 8) (k := 1) (f := 513) (c9 := 18) (pc' := 30) (by decide +kernel) (by decide +kernel) (by decide +kernel) (by decide +kernel) rfl rfl rfl
theorem xX9_reset_30 {a0 : Nat} {l1 : Option zV} {h : zH} {Q : Option zV → zH → Prop} : zE 67 30 [some (.inr a0), l1] [] h Q ↔ (zK h a0).1 = 18 ∧ zE 67 35 [some (.inr a0), l1] [] (zsI h 514 a0 1) Q := (zX_aload_n (k := 0) (x := a0) (pc' := 31) (by decide +kernel) rfl rfl).trans <| (zX_iconst (n := 1) (pc' := 32) (by decide +kernel) (by decide) rfl).trans <| zX_putI (ix := 22) (c := 8) (k := 2) (f := 514) (c9 := 18) (pc' := 35) (by decide +kernel) (by decide +kernel) (by decide +kernel) (by decide +kernel) (by decide +kernel) rfl rfl rfl
theorem xX9_reset_35  {l0 l1 : Option zV} {h : zH} {Q : Option zV → zH → Prop} : zE 67 35 [l0, l1] [] h Q ↔ Q none h := zX_return (by decide +kernel) (by decide +kernel)
-- FarTypewriter$States.find(I)LFarTypewriter$State;
theorem xX9_find_0 {x1 : Int} {l0 : Option zV} {h : zH} {Q : Option zV → zH → Prop} : zE 68 0 [l0, some (.inl x1)] [] h Q ↔ if x1 < 0 then zE 68 27 [l0, some (.inl x1)] [] h Q else zE 68 4 [l0, some (.inl x1)] [] h Q := (zX_iload_n (k := 1) (x := x1) (pc' := 1) (by decide +kernel) rfl rfl).trans <| zX_if_lt (off := 26) (t := 27) (pc' := 4) (by decide +kernel) (by decide) rfl
theorem xX9_find_4 {x1 : Int} {a0 : Nat} {h : zH} {Q : Option zV → zH → Prop} : zE 68 4 [some (.inr a0), some (.inl x1)] [] h Q ↔ (zK h a0).1 = 18 ∧ (if (zI h 514 a0) ≤ x1 then zE 68 27 [some (.inr a0), some (.inl x1)] [] h Q else zE 68 12 [some (.inr a0), some (.inl x1)] [] h Q) := (zX_iload_n (k := 1) (x := x1) (pc' := 5) (by decide +kernel) rfl rfl).trans <| (zX_aload_n (k := 0) (x := a0) (pc' := 6) (by decide +kernel) rfl rfl).trans <| (zX_getI (ix := 22) (c := 8) (k := 2) (f := 514) (c9 := 18) (pc' := 9) (by decide +kernel) (by decide +kernel) (by decide +kernel) rfl rfl rfl).trans <| and_congr_right' <| zX_icmp_ge (off := 18) (t := 27) (pc' := 12) (by decide +kernel) (by decide) rfl
theorem xX9_find_12 {x1 : Int} {l0 : Option zV} {h : zH} {Q : Option zV → zH → Prop} : zE 68 12 [l0, some (.inl x1)] [] h Q ↔ if 32 ≤ x1 then zE 68 27 [l0, some (.inl x1)] [] h Q else zE 68 18 [l0, some (.inl x1)] [] h Q := (zX_iload_n (k := 1) (x := x1) (pc' := 13) (by decide +kernel) rfl rfl).trans <| (zX_bipush (n := 32) (pc' := 15) (by decide +kernel) (by decide) rfl).trans <| zX_icmp_ge (off := 12) (t := 27) (pc' := 18) (by decide +kernel) (by decide) rfl
theorem xX9_find_18 {a0 : Nat} {x1 : Int} {h : zH} {Q : Option zV → zH → Prop} : zE 68 18 [some (.inr a0), some (.inl x1)] [] h Q ↔ (zK h a0).1 = 18 ∧ (2 ≤ (zK h (zR h 512 a0)).1 ∧ (zK h (zR h 512 a0)).1 ≤ 4) ∧ (0 ≤ x1 ∧ x1 < (zK h (zR h 512 a0)).2) ∧ zE 68 28 [some (.inr a0), some (.inl x1)] [.inr (zB h (zR h 512 a0) x1.toNat)] h Q := (zX_aload_n (k := 0) (x := a0) (pc' := 19) (by decide +kernel) rfl rfl).trans <| (zX_getR (ix := 11) (c := 8) (k := 0) (f := 512) (c9 := 18) (pc' := 22) (by decide +kernel) (by decide +kernel) (by decide +kernel) rfl rfl rfl).trans <| and_congr_right' <| (zX_iload_n (k := 1) (x := x1) (pc' := 23) (by decide +kernel) rfl rfl).trans <| (zX_aaload (pc' := 24) (by decide +kernel) rfl).trans <| and_congr_right' <| and_congr_right' <| zX_goto (off := 4) (t := 28) (by decide +kernel) (by decide)
theorem xX9_find_27  {l0 l1 : Option zV} {h : zH} {Q : Option zV → zH → Prop} : zE 68 27 [l0, l1] [] h Q ↔ zE 68 28 [l0, l1] [.inr 0] h Q := (zX_null (pc' := 28) (by decide +kernel) rfl).trans <| Iff.rfl
theorem xX9_find_28 {s0 : Nat} {l0 l1 : Option zV} {h : zH} {Q : Option zV → zH → Prop} : zE 68 28 [l0, l1] [.inr s0] h Q ↔ Q (some (.inr s0)) h := zX_areturn (C := "FarTypewriter$State") (by decide +kernel) (by decide +kernel)
-- FarTypewriter$States.findNumber(I)LFarTypewriter$State;
theorem xX9_findNumber_0  {l0 l1 l2 l3 : Option zV} {h : zH} {Q : Option zV → zH → Prop} : zE 69 0 [l0, l1, l2, l3] [] h Q ↔ zE 69 2 [l0, l1, some (.inl 0), l3] [] h Q := (zX_iconst (n := 0) (pc' := 1) (by decide +kernel) (by decide) rfl).trans <| (zX_istore_n (k := 2) (ls' := [l0, l1, some (.inl 0), l3]) (pc' := 2) (by decide +kernel) (Nat.le_of_ble_eq_true rfl) rfl rfl).trans <| Iff.rfl
theorem xX9_findNumber_2 {x2 : Int} {a0 : Nat} {l1 l3 : Option zV} {h : zH} {Q : Option zV → zH → Prop} : zE 69 2 [some (.inr a0), l1, some (.inl x2), l3] [] h Q ↔ (zK h a0).1 = 18 ∧ (if (zI h 514 a0) ≤ x2 then zE 69 43 [some (.inr a0), l1, some (.inl x2), l3] [] h Q else zE 69 10 [some (.inr a0), l1, some (.inl x2), l3] [] h Q) := (zX_iload_n (k := 2) (x := x2) (pc' := 3) (by decide +kernel) rfl rfl).trans <| (zX_aload_n (k := 0) (x := a0) (pc' := 4) (by decide +kernel) rfl rfl).trans <| (zX_getI (ix := 22) (c := 8) (k := 2) (f := 514) (c9 := 18) (pc' := 7) (by decide +kernel) (by decide +kernel) (by decide +kernel) rfl rfl rfl).trans <| and_congr_right' <| zX_icmp_ge (off := 36) (t := 43) (pc' := 10) (by decide +kernel) (by decide) rfl
theorem xX9_findNumber_10 {x2 : Int} {l0 l1 l3 : Option zV} {h : zH} {Q : Option zV → zH → Prop} : zE 69 10 [l0, l1, some (.inl x2), l3] [] h Q ↔ if 32 ≤ x2 then zE 69 43 [l0, l1, some (.inl x2), l3] [] h Q else zE 69 16 [l0, l1, some (.inl x2), l3] [] h Q := (zX_iload_n (k := 2) (x := x2) (pc' := 11) (by decide +kernel) rfl rfl).trans <| (zX_bipush (n := 32) (pc' := 13) (by decide +kernel) (by decide) rfl).trans <| zX_icmp_ge (off := 30) (t := 43) (pc' := 16) (by decide +kernel) (by decide) rfl
theorem xX9_findNumber_16 {a0 : Nat} {x2 : Int} {l1 l3 : Option zV} {h : zH} {Q : Option zV → zH → Prop} : zE 69 16 [some (.inr a0), l1, some (.inl x2), l3] [] h Q ↔ (zK h a0).1 = 18 ∧ (2 ≤ (zK h (zR h 512 a0)).1 ∧ (zK h (zR h 512 a0)).1 ≤ 4) ∧ (0 ≤ x2 ∧ x2 < (zK h (zR h 512 a0)).2) ∧ (if (zB h (zR h 512 a0) x2.toNat) = 0 then zE 69 37 [some (.inr a0), l1, some (.inl x2), some (.inr (zB h (zR h 512 a0) x2.toNat))] [] h Q else zE 69 27 [some (.inr a0), l1, some (.inl x2), some (.inr (zB h (zR h 512 a0) x2.toNat))] [] h Q) := (zX_aload_n (k := 0) (x := a0) (pc' := 17) (by decide +kernel) rfl rfl).trans <| (zX_getR (ix := 11) (c := 8) (k := 0) (f := 512) (c9 := 18) (pc' := 20) (by decide +kernel) (by decide +kernel) (by decide +kernel) rfl rfl rfl).trans <| and_congr_right' <| (zX_iload_n (k := 2) (x := x2) (pc' := 21) (by decide +kernel) rfl rfl).trans <| (zX_aaload (pc' := 22) (by decide +kernel) rfl).trans <| and_congr_right' <| and_congr_right' <| (zX_astore_n (k := 3) (ls' := [some (.inr a0), l1, some (.inl x2), some (.inr (zB h (zR h 512 a0) x2.toNat))]) (pc' := 23) (by decide +kernel) (Nat.le_of_ble_eq_true rfl) rfl rfl).trans <| (zX_aload_n (k := 3) (x := zB h (zR h 512 a0) x2.toNat) (pc' := 24) (by decide +kernel) rfl rfl).trans <| zX_ifnull (off := 13) (t := 37) (pc' := 27) (by decide +kernel) (by decide) rfl
theorem xX9_findNumber_27 {a3 : Nat} {x1 : Int} {l0 l2 : Option zV} {h : zH} {Q : Option zV → zH → Prop} : zE 69 27 [l0, some (.inl x1), l2, some (.inr a3)] [] h Q ↔ (zK h a3).1 = 17 ∧ (if (zI h 449 a3) ≠ x1 then zE 69 37 [l0, some (.inl x1), l2, some (.inr a3)] [] h Q else zE 69 35 [l0, some (.inl x1), l2, some (.inr a3)] [] h Q) := (zX_aload_n (k := 3) (x := a3) (pc' := 28) (by decide +kernel) rfl rfl).trans <| (zX_getI (ix := 39) (c := 7) (k := 1) (f := 449) (c9 := 17) (pc' := 31) (by decide +kernel) (by decide +kernel) (by decide +kernel) rfl rfl rfl).trans <| and_congr_right' <| (zX_iload_n (k := 1) (x := x1) (pc' := 32) (by decide +kernel) rfl rfl).trans <| zX_icmp_ne (off := 5) (t := 37) (pc' := 35) (by decide +kernel) (by decide) rfl
theorem xX9_findNumber_35 {a3 : Nat} {l0 l1 l2 : Option zV} {h : zH} {Q : Option zV → zH → Prop} : zE 69 35 [l0, l1, l2, some (.inr a3)] [] h Q ↔ Q (some (.inr a3)) h := (zX_aload_n (k := 3) (x := a3) (pc' := 36) (by decide +kernel) rfl rfl).trans <| zX_areturn (C := "FarTypewriter$State") (by decide +kernel) (by decide +kernel)
theorem xX9_findNumber_37 {x2 : Int} {l0 l1 l3 : Option zV} {h : zH} {Q : Option zV → zH → Prop} : zE 69 37 [l0, l1, some (.inl x2), l3] [] h Q ↔ zE 69 2 [l0, l1, some (.inl (zw (x2 + 1))), l3] [] h Q := (zX_iinc (k := 2) (n := 1) (x := x2) (ls' := [l0, l1, some (.inl (zw (x2 + 1))), l3]) (pc' := 40) (by decide +kernel) rfl rfl rfl).trans <| zX_goto (off := -38) (t := 2) (by decide +kernel) (by decide)
theorem xX9_findNumber_43  {l0 l1 l2 l3 : Option zV} {h : zH} {Q : Option zV → zH → Prop} : zE 69 43 [l0, l1, l2, l3] [] h Q ↔ Q (some (.inr 0)) h := (zX_null (pc' := 44) (by decide +kernel) rfl).trans <| zX_areturn (C := "FarTypewriter$State") (by decide +kernel) (by decide +kernel)
-- FarTypewriter$States.isFull()Z
theorem xX9_isFull_0 {a0 : Nat} {h : zH} {Q : Option zV → zH → Prop} : zE 70 0 [some (.inr a0)] [] h Q ↔ (zK h a0).1 = 18 ∧ (if (zI h 514 a0) < 32 then zE 70 13 [some (.inr a0)] [] h Q else zE 70 9 [some (.inr a0)] [] h Q) := (zX_aload_n (k := 0) (x := a0) (pc' := 1) (by decide +kernel) rfl rfl).trans <| (zX_getI (ix := 22) (c := 8) (k := 2) (f := 514) (c9 := 18) (pc' := 4) (by decide +kernel) (by decide +kernel) (by decide +kernel) rfl rfl rfl).trans <| and_congr_right' <| (zX_bipush (n := 32) (pc' := 6) (by decide +kernel) (by decide) rfl).trans <| zX_icmp_lt (off := 7) (t := 13) (pc' := 9) (by decide +kernel) (by decide) rfl
theorem xX9_isFull_9  {l0 : Option zV} {h : zH} {Q : Option zV → zH → Prop} : zE 70 9 [l0] [] h Q ↔ zE 70 14 [l0] [.inl 1] h Q := (zX_iconst (n := 1) (pc' := 10) (by decide +kernel) (by decide) rfl).trans <| zX_goto (off := 4) (t := 14) (by decide +kernel) (by decide)
theorem xX9_isFull_13  {l0 : Option zV} {h : zH} {Q : Option zV → zH → Prop} : zE 70 13 [l0] [] h Q ↔ zE 70 14 [l0] [.inl 0] h Q := (zX_iconst (n := 0) (pc' := 14) (by decide +kernel) (by decide) rfl).trans <| Iff.rfl
theorem xX9_isFull_14 {s0 : Int} {l0 : Option zV} {h : zH} {Q : Option zV → zH → Prop} : zE 70 14 [l0] [.inl s0] h Q ↔ (s0 = 0 ∨ s0 = 1) ∧ Q (some (.inl s0)) h := zX_zreturn (by decide +kernel) (by decide +kernel)
-- FarTypewriter$States.keep(IILFarTypewriter$Screen;)V
theorem xX9_keep_0 {a0 : Nat} {l1 l2 l3 l4 : Option zV} {h : zH} {Q : Option zV → zH → Prop} : zE 71 0 [some (.inr a0), l1, l2, l3, l4] [] h Q ↔ (zK h a0).1 = 18 ∧ (if (zI h 514 a0) < 0 then zE 71 16 [some (.inr a0), l1, l2, l3, l4] [] h Q else zE 71 7 [some (.inr a0), l1, l2, l3, l4] [] h Q) := (zX_aload_n (k := 0) (x := a0) (pc' := 1) (by decide +kernel) rfl rfl).trans <| (zX_getI (ix := 22) (c := 8) (k := 2) (f := 514) (c9 := 18) (pc' := 4) (by decide +kernel) (by decide +kernel) (by decide +kernel) rfl rfl rfl).trans <| and_congr_right' <| zX_if_lt (off := 12) (t := 16) (pc' := 7) (by decide +kernel) (by decide) rfl
theorem xX9_keep_7 {a0 : Nat} {l1 l2 l3 l4 : Option zV} {h : zH} {Q : Option zV → zH → Prop} : zE 71 7 [some (.inr a0), l1, l2, l3, l4] [] h Q ↔ (zK h a0).1 = 18 ∧ (if (zI h 514 a0) < 32 then zE 71 17 [some (.inr a0), l1, l2, l3, l4] [] h Q else zE 71 16 [some (.inr a0), l1, l2, l3, l4] [] h Q) := (zX_aload_n (k := 0) (x := a0) (pc' := 8) (by decide +kernel) rfl rfl).trans <| (zX_getI (ix := 22) (c := 8) (k := 2) (f := 514) (c9 := 18) (pc' := 11) (by decide +kernel) (by decide +kernel) (by decide +kernel) rfl rfl rfl).trans <| and_congr_right' <| (zX_bipush (n := 32) (pc' := 13) (by decide +kernel) (by decide) rfl).trans <| zX_icmp_lt (off := 4) (t := 17) (pc' := 16) (by decide +kernel) (by decide) rfl
theorem xX9_keep_16  {l0 l1 l2 l3 l4 : Option zV} {h : zH} {Q : Option zV → zH → Prop} : zE 71 16 [l0, l1, l2, l3, l4] [] h Q ↔ Q none h := zX_return (by decide +kernel) (by decide +kernel)
theorem xX9_keep_17 {a0 : Nat} {l1 l2 l3 l4 : Option zV} {h : zH} {Q : Option zV → zH → Prop} : zE 71 17 [some (.inr a0), l1, l2, l3, l4] [] h Q ↔ (zK h a0).1 = 18 ∧ (zK h a0).1 = 18 ∧ (2 ≤ (zK h (zR h 512 a0)).1 ∧ (zK h (zR h 512 a0)).1 ≤ 4) ∧ (0 ≤ (zI h 514 a0) ∧ (zI h 514 a0) < (zK h (zR h 512 a0)).2) ∧ (if (zB h (zR h 512 a0) (zI h 514 a0).toNat) ≠ 0 then zE 71 53 [some (.inr a0), l1, l2, l3, some (.inr (zB h (zR h 512 a0) (zI h 514 a0).toNat))] [] h Q else zE 71 33 [some (.inr a0), l1, l2, l3, some (.inr (zB h (zR h 512 a0) (zI h 514 a0).toNat))] [] h Q) := (zX_aload_n (k := 0) (x := a0) (pc' := 18) (by decide +kernel) rfl rfl).trans <| (zX_getR (ix := 11) (c := 8) (k := 0) (f := 512) (c9 := 18) (pc' := 21) (by decide +kernel) (by decide +kernel) (by decide +kernel) rfl rfl rfl).trans <| and_congr_right' <| (zX_aload_n (k := 0) (x := a0) (pc' := 22) (by decide +kernel) rfl rfl).trans <| (zX_getI (ix := 22) (c := 8) (k := 2) (f := 514) (c9 := 18) (pc' := 25) (by decide +kernel) (by decide +kernel) (by decide +kernel) rfl rfl rfl).trans <| and_congr_right' <| (zX_aaload (pc' := 26) (by decide +kernel) rfl).trans <| and_congr_right' <| and_congr_right' <| (zX_astore (k := 4) (ls' := [some (.inr a0), l1, l2, l3, some (.inr (zB h (zR h 512 a0) (zI h 514 a0).toNat))]) (pc' := 28) (by decide +kernel) (Nat.le_of_ble_eq_true rfl) rfl rfl).trans <| (zX_aload (k := 4) (x := zB h (zR h 512 a0) (zI h 514 a0).toNat) (pc' := 30) (by decide +kernel) rfl rfl).trans <| zX_ifnonnull (off := 23) (t := 53) (pc' := 33) (by decide +kernel) (by decide) rfl
theorem xX9_keep_33  {l0 l1 l2 l3 l4 : Option zV} {h : zH} {Q : Option zV → zH → Prop} : zE 71 33 [l0, l1, l2, l3, l4] [] h Q ↔ zE 71 36 [l0, l1, l2, l3, l4] [.inr (zn h)] (znO h 7 3) Q := zX_new (ix := 9) (c := 7) (N := 3) (pc' := 36) (by decide +kernel) (by decide +kernel) (by decide +kernel) rfl
theorem xX9_keep_36 {s0 : Nat} {l0 l1 l2 l3 l4 : Option zV} {h : zH} {Q : Option zV → zH → Prop} : zE 71 36 [l0, l1, l2, l3, l4] [.inr s0] h Q ↔ s0 ≠ 0 ∧ zE 64 0 [some (.inr s0)] [] h (fun r h' => zE 71 40 [l0, l1, l2, l3, l4] (r.toList ++ [.inr s0]) h' Q) := (zX_dup (pc' := 37) (by decide +kernel) rfl).trans <| zX_callI (ix := 17) (M' := 64) (n := 1) (m := 1) (a := s0) (as := []) (rest := [.inr s0]) (ls' := [some (.inr s0)]) (pc' := 40) (by decide +kernel) (by decide +kernel) (by decide +kernel) (by decide +kernel) rfl rfl (Nat.le_of_ble_eq_true rfl) rfl rfl
theorem xX9_keep_40 {s0 : Nat} {a0 : Nat} {l1 l2 l3 l4 : Option zV} {h : zH} {Q : Option zV → zH → Prop} : zE 71 40 [some (.inr a0), l1, l2, l3, l4] [.inr s0] h Q ↔ (zK h a0).1 = 18 ∧ (zK h a0).1 = 18 ∧ (2 ≤ (zK h (zR h 512 a0)).1 ∧ (zK h (zR h 512 a0)).1 ≤ 4) ∧ (zK h s0).1 = 10 + zel (zK h (zR h 512 a0)).1 ∧ (0 ≤ (zI h 514 a0) ∧ (zI h 514 a0) < (zK h (zR h 512 a0)).2) ∧ zE 71 53 [some (.inr a0), l1, l2, l3, some (.inr s0)] [] (zsB h (zR h 512 a0) (zI h 514 a0).toNat s0) Q := (zX_astore (k := 4) (ls' := [some (.inr a0), l1, l2, l3, some (.inr s0)]) (pc' := 42) (by decide +kernel) (Nat.le_of_ble_eq_true rfl) rfl rfl).trans <| (zX_aload_n (k := 0) (x := a0) (pc' := 43) (by decide +kernel) rfl rfl).trans <| (zX_getR (ix := 11) (c := 8) (k := 0) (f := 512) (c9 := 18) (pc' := 46) (by decide +kernel) (by decide +kernel) (by decide +kernel) rfl rfl rfl).trans <| and_congr_right' <| (zX_aload_n (k := 0) (x := a0) (pc' := 47) (by decide +kernel) rfl rfl).trans <| (zX_getI (ix := 22) (c := 8) (k := 2) (f := 514) (c9 := 18) (pc' := 50) (by decide +kernel) (by decide +kernel) (by decide +kernel) rfl rfl rfl).trans <| and_congr_right' <| (zX_aload (k := 4) (x := s0) (pc' := 52) (by decide +kernel) rfl rfl).trans <| zX_aastore (pc' := 53) (by decide +kernel) rfl
theorem xX9_keep_53 {a4 : Nat} {x1 : Int} {x2 : Int} {l0 l3 : Option zV} {h : zH} {Q : Option zV → zH → Prop} : zE 71 53 [l0, some (.inl x1), some (.inl x2), l3, some (.inr a4)] [] h Q ↔ (zK h a4).1 = 17 ∧ zE 65 0 [some (.inr a4), some (.inl x1), some (.inl x2)] [] h (fun r h' => zE 71 60 [l0, some (.inl x1), some (.inl x2), l3, some (.inr a4)] (r.toList ++ []) h' Q) := (zX_aload (k := 4) (x := a4) (pc' := 55) (by decide +kernel) rfl rfl).trans <| (zX_iload_n (k := 1) (x := x1) (pc' := 56) (by decide +kernel) rfl rfl).trans <| (zX_iload_n (k := 2) (x := x2) (pc' := 57) (by decide +kernel) rfl rfl).trans <| zX_callV (ix := 35) (M' := 65) (n := 3) (m := 3) (c9 := 17) (a := a4) (as := [.inl x1, .inl x2]) (rest := []) (ls' := [some (.inr a4), some (.inl x1), some (.inl x2)]) (pc' := 60) (by decide +kernel) (by decide +kernel) (by decide +kernel) (by decide +kernel) (by decide +kernel) (by decide +kernel) rfl rfl (Nat.le_of_ble_eq_true rfl) rfl rfl
theorem xX9_keep_60 {a4 : Nat} {a3 : Nat} {l0 l1 l2 : Option zV} {h : zH} {Q : Option zV → zH → Prop} : zE 71 60 [l0, l1, l2, some (.inr a3), some (.inr a4)] [] h Q ↔ (zK h a4).1 = 17 ∧ (zK h (zR h 448 a4)).1 = 16 ∧ zE 54 0 [some (.inr (zR h 448 a4)), some (.inr a3)] [] h (fun r h' => zE 71 69 [l0, l1, l2, some (.inr a3), some (.inr a4)] (r.toList ++ []) h' Q) := (zX_aload (k := 4) (x := a4) (pc' := 62) (by decide +kernel) rfl rfl).trans <| (zX_getR (ix := 26) (c := 7) (k := 0) (f := 448) (c9 := 17) (pc' := 65) (by decide +kernel) (by decide +kernel) (by decide +kernel) rfl rfl rfl).trans <| and_congr_right' <| (zX_aload_n (k := 3) (x := a3) (pc' := 66) (by decide +kernel) rfl rfl).trans <| zX_callV (ix := 42) (M' := 54) (n := 2) (m := 2) (c9 := 16) (a := zR h 448 a4) (as := [.inr a3]) (rest := []) (ls' := [some (.inr (zR h 448 a4)), some (.inr a3)]) (pc' := 69) (by decide +kernel) (by decide +kernel) (by decide +kernel) (by decide +kernel) (by decide +kernel) (by decide +kernel) rfl rfl (Nat.le_of_ble_eq_true rfl) rfl rfl
theorem xX9_keep_69 {a0 : Nat} {a4 : Nat} {l1 l2 l3 : Option zV} {h : zH} {Q : Option zV → zH → Prop} : zE 71 69 [some (.inr a0), l1, l2, l3, some (.inr a4)] [] h Q ↔ (zK h a0).1 = 18 ∧ zE 71 75 [some (.inr a0), l1, l2, l3, some (.inr a4)] [] (zsR h 513 a0 a4) Q := (zX_aload_n (k := 0) (x := a0) (pc' := 70) (by decide +kernel) rfl rfl).trans <| (zX_aload (k := 4) (x := a4) (pc' := 72) (by decide +kernel) rfl rfl).trans <| zX_putR (ix := 18) (c := 8) (k := 1) (f := 513) (c9 := 18) (pc' := 75) (by decide +kernel) (by decide +kernel) (by decide +kernel) (by decide +kernel) rfl rfl rfl
theorem xX9_keep_75 {a0 : Nat} {l1 l2 l3 l4 : Option zV} {h : zH} {Q : Option zV → zH → Prop} : zE 71 75 [some (.inr a0), l1, l2, l3, l4] [] h Q ↔ (zK h a0).1 = 18 ∧ (zK h a0).1 = 18 ∧ zE 71 85 [some (.inr a0), l1, l2, l3, l4] [] (zsI h 514 a0 (zw ((zI h 514 a0) + 1))) Q := (zX_aload_n (k := 0) (x := a0) (pc' := 76) (by decide +kernel) rfl rfl).trans <| (zX_dup (pc' := 77) (by decide +kernel) rfl).trans <| (zX_getI (ix := 22) (c := 8) (k := 2) (f := 514) (c9 := 18) (pc' := 80) (by decide +kernel) (by decide +kernel) (by decide +kernel) rfl rfl rfl).trans <| and_congr_right' <| (zX_iconst (n := 1) (pc' := 81) (by decide +kernel) (by decide) rfl).trans <| (zX_iadd (pc' := 82) (by decide +kernel) rfl).trans <| zX_putI (ix := 22) (c := 8) (k := 2) (f := 514) (c9 := 18) (pc' := 85) (by decide +kernel) (by decide +kernel) (by decide +kernel) (by decide +kernel) (by decide +kernel) rfl rfl rfl
theorem xX9_keep_85  {l0 l1 l2 l3 l4 : Option zV} {h : zH} {Q : Option zV → zH → Prop} : zE 71 85 [l0, l1, l2, l3, l4] [] h Q ↔ Q none h := zX_return (by decide +kernel) (by decide +kernel)
-- FarTypewriter$States.dropBelow(I)V
theorem xX9_dropBelow_0  {l0 l1 l2 l3 : Option zV} {h : zH} {Q : Option zV → zH → Prop} : zE 72 0 [l0, l1, l2, l3] [] h Q ↔ zE 72 2 [l0, l1, some (.inl 0), l3] [] h Q := (zX_iconst (n := 0) (pc' := 1) (by decide +kernel) (by decide) rfl).trans <| (zX_istore_n (k := 2) (ls' := [l0, l1, some (.inl 0), l3]) (pc' := 2) (by decide +kernel) (Nat.le_of_ble_eq_true rfl) rfl rfl).trans <| Iff.rfl
theorem xX9_dropBelow_2 {x2 : Int} {a0 : Nat} {l1 l3 : Option zV} {h : zH} {Q : Option zV → zH → Prop} : zE 72 2 [some (.inr a0), l1, some (.inl x2), l3] [] h Q ↔ (zK h a0).1 = 18 ∧ (if (zw ((zI h 514 a0) - 1)) ≤ x2 then zE 72 37 [some (.inr a0), l1, some (.inl x2), l3] [] h Q else zE 72 12 [some (.inr a0), l1, some (.inl x2), l3] [] h Q) := (zX_iload_n (k := 2) (x := x2) (pc' := 3) (by decide +kernel) rfl rfl).trans <| (zX_aload_n (k := 0) (x := a0) (pc' := 4) (by decide +kernel) rfl rfl).trans <| (zX_getI (ix := 22) (c := 8) (k := 2) (f := 514) (c9 := 18) (pc' := 7) (by decide +kernel) (by decide +kernel) (by decide +kernel) rfl rfl rfl).trans <| and_congr_right' <| (zX_iconst (n := 1) (pc' := 8) (by decide +kernel) (by decide) rfl).trans <| (zX_isub (pc' := 9) (by decide +kernel) rfl).trans <| zX_icmp_ge (off := 28) (t := 37) (pc' := 12) (by decide +kernel) (by decide) rfl
theorem xX9_dropBelow_12 {x2 : Int} {l0 l1 l3 : Option zV} {h : zH} {Q : Option zV → zH → Prop} : zE 72 12 [l0, l1, some (.inl x2), l3] [] h Q ↔ if 32 ≤ x2 then zE 72 37 [l0, l1, some (.inl x2), l3] [] h Q else zE 72 18 [l0, l1, some (.inl x2), l3] [] h Q := (zX_iload_n (k := 2) (x := x2) (pc' := 13) (by decide +kernel) rfl rfl).trans <| (zX_bipush (n := 32) (pc' := 15) (by decide +kernel) (by decide) rfl).trans <| zX_icmp_ge (off := 22) (t := 37) (pc' := 18) (by decide +kernel) (by decide) rfl
theorem xX9_dropBelow_18 {a0 : Nat} {x2 : Int} {x1 : Int} {l3 : Option zV} {h : zH} {Q : Option zV → zH → Prop} : zE 72 18 [some (.inr a0), some (.inl x1), some (.inl x2), l3] [] h Q ↔ (zK h a0).1 = 18 ∧ (2 ≤ (zK h (zR h 512 a0)).1 ∧ (zK h (zR h 512 a0)).1 ≤ 4) ∧ (0 ≤ x2 ∧ x2 < (zK h (zR h 512 a0)).2) ∧ zE 73 0 [some (.inr (zB h (zR h 512 a0) x2.toNat)), some (.inl x1)] [] h (fun r h' => zE 72 28 [some (.inr a0), some (.inl x1), some (.inl x2), l3] (r.toList ++ []) h' Q) := (zX_aload_n (k := 0) (x := a0) (pc' := 19) (by decide +kernel) rfl rfl).trans <| (zX_getR (ix := 11) (c := 8) (k := 0) (f := 512) (c9 := 18) (pc' := 22) (by decide +kernel) (by decide +kernel) (by decide +kernel) rfl rfl rfl).trans <| and_congr_right' <| (zX_iload_n (k := 2) (x := x2) (pc' := 23) (by decide +kernel) rfl rfl).trans <| (zX_aaload (pc' := 24) (by decide +kernel) rfl).trans <| and_congr_right' <| and_congr_right' <| (zX_iload_n (k := 1) (x := x1) (pc' := 25) (by decide +kernel) rfl rfl).trans <| zX_callS (ix := 46) (M' := 73) (n := 2) (m := 2) (kd := 0) (as := [.inr (zB h (zR h 512 a0) x2.toNat), .inl x1]) (rest := []) (ls' := [some (.inr (zB h (zR h 512 a0) x2.toNat)), some (.inl x1)]) (pc' := 28) (by decide +kernel) (by decide +kernel) (by decide) (by decide +kernel) (by decide +kernel) rfl rfl (Nat.le_of_ble_eq_true rfl) rfl rfl
theorem xX9_dropBelow_28 {s0 : Int} {l0 l1 l2 l3 : Option zV} {h : zH} {Q : Option zV → zH → Prop} : zE 72 28 [l0, l1, l2, l3] [.inl s0] h Q ↔ if s0 = 0 then zE 72 37 [l0, l1, l2, l3] [] h Q else zE 72 31 [l0, l1, l2, l3] [] h Q := zX_if_eq (off := 9) (t := 37) (pc' := 31) (by decide +kernel) (by decide) rfl
theorem xX9_dropBelow_31 {x2 : Int} {l0 l1 l3 : Option zV} {h : zH} {Q : Option zV → zH → Prop} : zE 72 31 [l0, l1, some (.inl x2), l3] [] h Q ↔ zE 72 2 [l0, l1, some (.inl (zw (x2 + 1))), l3] [] h Q := (zX_iinc (k := 2) (n := 1) (x := x2) (ls' := [l0, l1, some (.inl (zw (x2 + 1))), l3]) (pc' := 34) (by decide +kernel) rfl rfl rfl).trans <| zX_goto (off := -32) (t := 2) (by decide +kernel) (by decide)
theorem xX9_dropBelow_37  {l0 l1 l2 l3 : Option zV} {h : zH} {Q : Option zV → zH → Prop} : zE 72 37 [l0, l1, l2, l3] [] h Q ↔ zE 72 39 [l0, l1, l2, some (.inl 0)] [] h Q := (zX_iconst (n := 0) (pc' := 38) (by decide +kernel) (by decide) rfl).trans <| (zX_istore_n (k := 3) (ls' := [l0, l1, l2, some (.inl 0)]) (pc' := 39) (by decide +kernel) (Nat.le_of_ble_eq_true rfl) rfl rfl).trans <| Iff.rfl
theorem xX9_dropBelow_39 {x3 : Int} {x2 : Int} {l0 l1 : Option zV} {h : zH} {Q : Option zV → zH → Prop} : zE 72 39 [l0, l1, some (.inl x2), some (.inl x3)] [] h Q ↔ if x2 ≤ x3 then zE 72 54 [l0, l1, some (.inl x2), some (.inl x3)] [] h Q else zE 72 44 [l0, l1, some (.inl x2), some (.inl x3)] [] h Q := (zX_iload_n (k := 3) (x := x3) (pc' := 40) (by decide +kernel) rfl rfl).trans <| (zX_iload_n (k := 2) (x := x2) (pc' := 41) (by decide +kernel) rfl rfl).trans <| zX_icmp_ge (off := 13) (t := 54) (pc' := 44) (by decide +kernel) (by decide) rfl
theorem xX9_dropBelow_44 {a0 : Nat} {l1 l2 l3 : Option zV} {h : zH} {Q : Option zV → zH → Prop} : zE 72 44 [some (.inr a0), l1, l2, l3] [] h Q ↔ (zK h a0).1 = 18 ∧ zE 74 0 [some (.inr a0), none, none] [] h (fun r h' => zE 72 48 [some (.inr a0), l1, l2, l3] (r.toList ++ []) h' Q) := (zX_aload_n (k := 0) (x := a0) (pc' := 45) (by decide +kernel) rfl rfl).trans <| zX_callV (ix := 50) (M' := 74) (n := 1) (m := 3) (c9 := 18) (a := a0) (as := []) (rest := []) (ls' := [some (.inr a0), none, none]) (pc' := 48) (by decide +kernel) (by decide +kernel) (by decide +kernel) (by decide +kernel) (by decide +kernel) (by decide +kernel) rfl rfl (Nat.le_of_ble_eq_true rfl) rfl rfl
theorem xX9_dropBelow_48 {x3 : Int} {l0 l1 l2 : Option zV} {h : zH} {Q : Option zV → zH → Prop} : zE 72 48 [l0, l1, l2, some (.inl x3)] [] h Q ↔ zE 72 39 [l0, l1, l2, some (.inl (zw (x3 + 1)))] [] h Q := (zX_iinc (k := 3) (n := 1) (x := x3) (ls' := [l0, l1, l2, some (.inl (zw (x3 + 1)))]) (pc' := 51) (by decide +kernel) rfl rfl rfl).trans <| zX_goto (off := -12) (t := 39) (by decide +kernel) (by decide)
theorem xX9_dropBelow_54 {a0 : Nat} {x2 : Int} {l1 l3 : Option zV} {h : zH} {Q : Option zV → zH → Prop} : zE 72 54 [some (.inr a0), l1, some (.inl x2), l3] [] h Q ↔ (zK h a0).1 = 18 ∧ (zK h a0).1 = 18 ∧ zE 72 64 [some (.inr a0), l1, some (.inl x2), l3] [] (zsI h 514 a0 (zw ((zI h 514 a0) - x2))) Q := (zX_aload_n (k := 0) (x := a0) (pc' := 55) (by decide +kernel) rfl rfl).trans <| (zX_dup (pc' := 56) (by decide +kernel) rfl).trans <| (zX_getI (ix := 22) (c := 8) (k := 2) (f := 514) (c9 := 18) (pc' := 59) (by decide +kernel) (by decide +kernel) (by decide +kernel) rfl rfl rfl).trans <| and_congr_right' <| (zX_iload_n (k := 2) (x := x2) (pc' := 60) (by decide +kernel) rfl rfl).trans <| (zX_isub (pc' := 61) (by decide +kernel) rfl).trans <| zX_putI (ix := 22) (c := 8) (k := 2) (f := 514) (c9 := 18) (pc' := 64) (by decide +kernel) (by decide +kernel) (by decide +kernel) (by decide +kernel) (by decide +kernel) rfl rfl rfl
theorem xX9_dropBelow_64  {l0 l1 l2 l3 : Option zV} {h : zH} {Q : Option zV → zH → Prop} : zE 72 64 [l0, l1, l2, l3] [] h Q ↔ Q none h := zX_return (by decide +kernel) (by decide +kernel)
-- FarTypewriter$States.isBelow(LFarTypewriter$State;I)Z
theorem xX9_isBelow_0 {a0 : Nat} {l1 : Option zV} {h : zH} {Q : Option zV → zH → Prop} : zE 73 0 [some (.inr a0), l1] [] h Q ↔ if a0 = 0 then zE 73 16 [some (.inr a0), l1] [] h Q else zE 73 4 [some (.inr a0), l1] [] h Q := (zX_aload_n (k := 0) (x := a0) (pc' := 1) (by decide +kernel) rfl rfl).trans <| zX_ifnull (off := 15) (t := 16) (pc' := 4) (by decide +kernel) (by decide) rfl
theorem xX9_isBelow_4 {a0 : Nat} {x1 : Int} {h : zH} {Q : Option zV → zH → Prop} : zE 73 4 [some (.inr a0), some (.inl x1)] [] h Q ↔ (zK h a0).1 = 17 ∧ (if x1 ≤ (zI h 449 a0) then zE 73 16 [some (.inr a0), some (.inl x1)] [] h Q else zE 73 12 [some (.inr a0), some (.inl x1)] [] h Q) := (zX_aload_n (k := 0) (x := a0) (pc' := 5) (by decide +kernel) rfl rfl).trans <| (zX_getI (ix := 39) (c := 7) (k := 1) (f := 449) (c9 := 17) (pc' := 8) (by decide +kernel) (by decide +kernel) (by decide +kernel) rfl rfl rfl).trans <| and_congr_right' <| (zX_iload_n (k := 1) (x := x1) (pc' := 9) (by decide +kernel) rfl rfl).trans <| zX_icmp_ge (off := 7) (t := 16) (pc' := 12) (by decide +kernel) (by decide) rfl
theorem xX9_isBelow_12  {l0 l1 : Option zV} {h : zH} {Q : Option zV → zH → Prop} : zE 73 12 [l0, l1] [] h Q ↔ zE 73 17 [l0, l1] [.inl 1] h Q := (zX_iconst (n := 1) (pc' := 13) (by decide +kernel) (by decide) rfl).trans <| zX_goto (off := 4) (t := 17) (by decide +kernel) (by decide)
theorem xX9_isBelow_16  {l0 l1 : Option zV} {h : zH} {Q : Option zV → zH → Prop} : zE 73 16 [l0, l1] [] h Q ↔ zE 73 17 [l0, l1] [.inl 0] h Q := (zX_iconst (n := 0) (pc' := 17) (by decide +kernel) (by decide) rfl).trans <| Iff.rfl
theorem xX9_isBelow_17 {s0 : Int} {l0 l1 : Option zV} {h : zH} {Q : Option zV → zH → Prop} : zE 73 17 [l0, l1] [.inl s0] h Q ↔ (s0 = 0 ∨ s0 = 1) ∧ Q (some (.inl s0)) h := zX_zreturn (by decide +kernel) (by decide +kernel)
-- FarTypewriter$States.moveFirstBehind()V
theorem xX9_moveFirstBehind_0 {a0 : Nat} {l1 l2 : Option zV} {h : zH} {Q : Option zV → zH → Prop} : zE 74 0 [some (.inr a0), l1, l2] [] h Q ↔ (zK h a0).1 = 18 ∧ (2 ≤ (zK h (zR h 512 a0)).1 ∧ (zK h (zR h 512 a0)).1 ≤ 4) ∧ (0 ≤ (0 : Int) ∧ (0 : Int) < (zK h (zR h 512 a0)).2) ∧ zE 74 9 [some (.inr a0), some (.inr (zB h (zR h 512 a0) (0 : Int).toNat)), some (.inl 1)] [] h Q := (zX_aload_n (k := 0) (x := a0) (pc' := 1) (by decide +kernel) rfl rfl).trans <| (zX_getR (ix := 11) (c := 8) (k := 0) (f := 512) (c9 := 18) (pc' := 4) (by decide +kernel) (by decide +kernel) (by decide +kernel) rfl rfl rfl).trans <| and_congr_right' <| (zX_iconst (n := 0) (pc' := 5) (by decide +kernel) (by decide) rfl).trans <| (zX_aaload (pc' := 6) (by decide +kernel) rfl).trans <| and_congr_right' <| and_congr_right' <| (zX_astore_n (k := 1) (ls' := [some (.inr a0), some (.inr (zB h (zR h 512 a0) (0 : Int).toNat)), l2]) (pc' := 7) (by decide +kernel) (Nat.le_of_ble_eq_true rfl) rfl rfl).trans <| (zX_iconst (n := 1) (pc' := 8) (by decide +kernel) (by decide) rfl).trans <| (zX_istore_n (k := 2) (ls' := [some (.inr a0), some (.inr (zB h (zR h 512 a0) (0 : Int).toNat)), some (.inl 1)]) (pc' := 9) (by decide +kernel) (Nat.le_of_ble_eq_true rfl) rfl rfl).trans <| Iff.rfl
theorem xX9_moveFirstBehind_9 {x2 : Int} {a0 : Nat} {l1 : Option zV} {h : zH} {Q : Option zV → zH → Prop} : zE 74 9 [some (.inr a0), l1, some (.inl x2)] [] h Q ↔ (zK h a0).1 = 18 ∧ (if (zI h 514 a0) ≤ x2 then zE 74 43 [some (.inr a0), l1, some (.inl x2)] [] h Q else zE 74 17 [some (.inr a0), l1, some (.inl x2)] [] h Q) := (zX_iload_n (k := 2) (x := x2) (pc' := 10) (by decide +kernel) rfl rfl).trans <| (zX_aload_n (k := 0) (x := a0) (pc' := 11) (by decide +kernel) rfl rfl).trans <| (zX_getI (ix := 22) (c := 8) (k := 2) (f := 514) (c9 := 18) (pc' := 14) (by decide +kernel) (by decide +kernel) (by decide +kernel) rfl rfl rfl).trans <| and_congr_right' <| zX_icmp_ge (off := 29) (t := 43) (pc' := 17) (by decide +kernel) (by decide) rfl
theorem xX9_moveFirstBehind_17 {x2 : Int} {l0 l1 : Option zV} {h : zH} {Q : Option zV → zH → Prop} : zE 74 17 [l0, l1, some (.inl x2)] [] h Q ↔ if 32 ≤ x2 then zE 74 43 [l0, l1, some (.inl x2)] [] h Q else zE 74 23 [l0, l1, some (.inl x2)] [] h Q := (zX_iload_n (k := 2) (x := x2) (pc' := 18) (by decide +kernel) rfl rfl).trans <| (zX_bipush (n := 32) (pc' := 20) (by decide +kernel) (by decide) rfl).trans <| zX_icmp_ge (off := 23) (t := 43) (pc' := 23) (by decide +kernel) (by decide) rfl
theorem xX9_moveFirstBehind_23 {a0 : Nat} {x2 : Int} {l1 : Option zV} {h : zH} {Q : Option zV → zH → Prop} : zE 74 23 [some (.inr a0), l1, some (.inl x2)] [] h Q ↔ (zK h a0).1 = 18 ∧ (zK h a0).1 = 18 ∧ (2 ≤ (zK h (zR h 512 a0)).1 ∧ (zK h (zR h 512 a0)).1 ≤ 4) ∧ (0 ≤ x2 ∧ x2 < (zK h (zR h 512 a0)).2) ∧ (2 ≤ (zK h (zR h 512 a0)).1 ∧ (zK h (zR h 512 a0)).1 ≤ 4) ∧ (zK h (zB h (zR h 512 a0) x2.toNat)).1 = 10 + zel (zK h (zR h 512 a0)).1 ∧ (0 ≤ (zw (x2 - 1)) ∧ (zw (x2 - 1)) < (zK h (zR h 512 a0)).2) ∧ zE 74 37 [some (.inr a0), l1, some (.inl x2)] [] (zsB h (zR h 512 a0) (zw (x2 - 1)).toNat (zB h (zR h 512 a0) x2.toNat)) Q := (zX_aload_n (k := 0) (x := a0) (pc' := 24) (by decide +kernel) rfl rfl).trans <| (zX_getR (ix := 11) (c := 8) (k := 0) (f := 512) (c9 := 18) (pc' := 27) (by decide +kernel) (by decide +kernel) (by decide +kernel) rfl rfl rfl).trans <| and_congr_right' <| (zX_iload_n (k := 2) (x := x2) (pc' := 28) (by decide +kernel) rfl rfl).trans <| (zX_iconst (n := 1) (pc' := 29) (by decide +kernel) (by decide) rfl).trans <| (zX_isub (pc' := 30) (by decide +kernel) rfl).trans <| (zX_aload_n (k := 0) (x := a0) (pc' := 31) (by decide +kernel) rfl rfl).trans <| (zX_getR (ix := 11) (c := 8) (k := 0) (f := 512) (c9 := 18) (pc' := 34) (by decide +kernel) (by decide +kernel) (by decide +kernel) rfl rfl rfl).trans <| and_congr_right' <| (zX_iload_n (k := 2) (x := x2) (pc' := 35) (by decide +kernel) rfl rfl).trans <| (zX_aaload (pc' := 36) (by decide +kernel) rfl).trans <| and_congr_right' <| and_congr_right' <| zX_aastore (pc' := 37) (by decide +kernel) rfl
theorem xX9_moveFirstBehind_37 {x2 : Int} {l0 l1 : Option zV} {h : zH} {Q : Option zV → zH → Prop} : zE 74 37 [l0, l1, some (.inl x2)] [] h Q ↔ zE 74 9 [l0, l1, some (.inl (zw (x2 + 1)))] [] h Q := (zX_iinc (k := 2) (n := 1) (x := x2) (ls' := [l0, l1, some (.inl (zw (x2 + 1)))]) (pc' := 40) (by decide +kernel) rfl rfl rfl).trans <| zX_goto (off := -31) (t := 9) (by decide +kernel) (by decide)
theorem xX9_moveFirstBehind_43 {a0 : Nat} {l1 l2 : Option zV} {h : zH} {Q : Option zV → zH → Prop} : zE 74 43 [some (.inr a0), l1, l2] [] h Q ↔ (zK h a0).1 = 18 ∧ (if (zI h 514 a0) < 1 then zE 74 72 [some (.inr a0), l1, l2] [] h Q else zE 74 51 [some (.inr a0), l1, l2] [] h Q) := (zX_aload_n (k := 0) (x := a0) (pc' := 44) (by decide +kernel) rfl rfl).trans <| (zX_getI (ix := 22) (c := 8) (k := 2) (f := 514) (c9 := 18) (pc' := 47) (by decide +kernel) (by decide +kernel) (by decide +kernel) rfl rfl rfl).trans <| and_congr_right' <| (zX_iconst (n := 1) (pc' := 48) (by decide +kernel) (by decide) rfl).trans <| zX_icmp_lt (off := 24) (t := 72) (pc' := 51) (by decide +kernel) (by decide) rfl
theorem xX9_moveFirstBehind_51 {a0 : Nat} {l1 l2 : Option zV} {h : zH} {Q : Option zV → zH → Prop} : zE 74 51 [some (.inr a0), l1, l2] [] h Q ↔ (zK h a0).1 = 18 ∧ (if 32 < (zI h 514 a0) then zE 74 72 [some (.inr a0), l1, l2] [] h Q else zE 74 60 [some (.inr a0), l1, l2] [] h Q) := (zX_aload_n (k := 0) (x := a0) (pc' := 52) (by decide +kernel) rfl rfl).trans <| (zX_getI (ix := 22) (c := 8) (k := 2) (f := 514) (c9 := 18) (pc' := 55) (by decide +kernel) (by decide +kernel) (by decide +kernel) rfl rfl rfl).trans <| and_congr_right' <| (zX_bipush (n := 32) (pc' := 57) (by decide +kernel) (by decide) rfl).trans <| zX_icmp_gt (off := 15) (t := 72) (pc' := 60) (by decide +kernel) (by decide) rfl
theorem xX9_moveFirstBehind_60 {a0 : Nat} {a1 : Nat} {l2 : Option zV} {h : zH} {Q : Option zV → zH → Prop} : zE 74 60 [some (.inr a0), some (.inr a1), l2] [] h Q ↔ (zK h a0).1 = 18 ∧ (zK h a0).1 = 18 ∧ (2 ≤ (zK h (zR h 512 a0)).1 ∧ (zK h (zR h 512 a0)).1 ≤ 4) ∧ (zK h a1).1 = 10 + zel (zK h (zR h 512 a0)).1 ∧ (0 ≤ (zw ((zI h 514 a0) - 1)) ∧ (zw ((zI h 514 a0) - 1)) < (zK h (zR h 512 a0)).2) ∧ zE 74 72 [some (.inr a0), some (.inr a1), l2] [] (zsB h (zR h 512 a0) (zw ((zI h 514 a0) - 1)).toNat a1) Q := (zX_aload_n (k := 0) (x := a0) (pc' := 61) (by decide +kernel) rfl rfl).trans <| (zX_getR (ix := 11) (c := 8) (k := 0) (f := 512) (c9 := 18) (pc' := 64) (by decide +kernel) (by decide +kernel) (by decide +kernel) rfl rfl rfl).trans <| and_congr_right' <| (zX_aload_n (k := 0) (x := a0) (pc' := 65) (by decide +kernel) rfl rfl).trans <| (zX_getI (ix := 22) (c := 8) (k := 2) (f := 514) (c9 := 18) (pc' := 68) (by decide +kernel) (by decide +kernel) (by decide +kernel) rfl rfl rfl).trans <| and_congr_right' <| (zX_iconst (n := 1) (pc' := 69) (by decide +kernel) (by decide) rfl).trans <| (zX_isub (pc' := 70) (by decide +kernel) rfl).trans <| (zX_aload_n (k := 1) (x := a1) (pc' := 71) (by decide +kernel) rfl rfl).trans <| zX_aastore (pc' := 72) (by decide +kernel) rfl
theorem xX9_moveFirstBehind_72  {l0 l1 l2 : Option zV} {h : zH} {Q : Option zV → zH → Prop} : zE 74 72 [l0, l1, l2] [] h Q ↔ Q none h := zX_return (by decide +kernel) (by decide +kernel)
-- java/util/Arrays.fill([II)V
theorem xJ7_fill_53178_0 {a0 : Nat} {l1 l2 l3 : Option zV} {h : zH} {Q : Option zV → zH → Prop} : zE 176 0 [some (.inr a0), l1, l2, l3] [] h Q ↔ (1 ≤ (zK h a0).1 ∧ (zK h a0).1 ≤ 5) ∧ zE 176 5 [some (.inr a0), l1, some (.inl 0), some (.inl (((zK h a0).2 : Int)))] [] h Q := (zX_iconst (n := 0) (pc' := 1) (by decide +kernel) (by decide) rfl).trans <| (zX_istore_n (k := 2) (ls' := [some (.inr a0), l1, some (.inl 0), l3]) (pc' := 2) (by decide +kernel) (Nat.le_of_ble_eq_true rfl) rfl rfl).trans <| (zX_aload_n (k := 0) (x := a0) (pc' := 3) (by decide +kernel) rfl rfl).trans <| (zX_alen (pc' := 4) (by decide +kernel) rfl).trans <| and_congr_right' <| (zX_istore_n (k := 3) (ls' := [some (.inr a0), l1, some (.inl 0), some (.inl (((zK h a0).2 : Int)))]) (pc' := 5) (by decide +kernel) (Nat.le_of_ble_eq_true rfl) rfl rfl).trans <| Iff.rfl
theorem xJ7_fill_53178_5 {x2 : Int} {x3 : Int} {l0 l1 : Option zV} {h : zH} {Q : Option zV → zH → Prop} : zE 176 5 [l0, l1, some (.inl x2), some (.inl x3)] [] h Q ↔ if x3 ≤ x2 then zE 176 20 [l0, l1, some (.inl x2), some (.inl x3)] [] h Q else zE 176 10 [l0, l1, some (.inl x2), some (.inl x3)] [] h Q := (zX_iload_n (k := 2) (x := x2) (pc' := 6) (by decide +kernel) rfl rfl).trans <| (zX_iload_n (k := 3) (x := x3) (pc' := 7) (by decide +kernel) rfl rfl).trans <| zX_icmp_ge (off := 13) (t := 20) (pc' := 10) (by decide +kernel) (by decide) rfl
theorem xJ7_fill_53178_10 {a0 : Nat} {x2 : Int} {x1 : Int} {l3 : Option zV} {h : zH} {Q : Option zV → zH → Prop} : zE 176 10 [some (.inr a0), some (.inl x1), some (.inl x2), l3] [] h Q ↔ (zK h a0).1 = 1 ∧ (0 ≤ x2 ∧ x2 < (zK h a0).2) ∧ zE 176 14 [some (.inr a0), some (.inl x1), some (.inl x2), l3] [] (zsA h a0 x2.toNat x1) Q := (zX_aload_n (k := 0) (x := a0) (pc' := 11) (by decide +kernel) rfl rfl).trans <| (zX_iload_n (k := 2) (x := x2) (pc' := 12) (by decide +kernel) rfl rfl).trans <| (zX_iload_n (k := 1) (x := x1) (pc' := 13) (by decide +kernel) rfl rfl).trans <| zX_iastore (pc' := 14) (by decide +kernel) rfl
theorem xJ7_fill_53178_14 {x2 : Int} {l0 l1 l3 : Option zV} {h : zH} {Q : Option zV → zH → Prop} : zE 176 14 [l0, l1, some (.inl x2), l3] [] h Q ↔ zE 176 5 [l0, l1, some (.inl (zw (x2 + 1))), l3] [] h Q := (zX_iinc (k := 2) (n := 1) (x := x2) (ls' := [l0, l1, some (.inl (zw (x2 + 1))), l3]) (pc' := 17) (by decide +kernel) rfl rfl rfl).trans <| zX_goto (off := -12) (t := 5) (by decide +kernel) (by decide)
theorem xJ7_fill_53178_20  {l0 l1 l2 l3 : Option zV} {h : zH} {Q : Option zV → zH → Prop} : zE 176 20 [l0, l1, l2, l3] [] h Q ↔ Q none h := zX_return (by decide +kernel) (by decide +kernel)
end
