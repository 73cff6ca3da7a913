-- ===== PART A: goes FIRST, ahead of the names: the tables' words, and 'selects' of the private methods out of them =====
/-- a private method of a class that the tables say can be made, by its rows of tables_1 -/
def lw_okq (q : MethodName × Nat) : Prop := (q.1.cls ≠ "java/lang/invoke/MethodHandle" ∧ q.1.cls ≠ "java/lang/invoke/VarHandle") ∧ Cond.instantiable q.1.cls q.2 ∈ tables_1 ∧ Cond.privateMethod q.1 ∈ tables_1 ∧ Cond.instanceMethod q.1 ∈ tables_1
theorem lw_p0 : lw_okq (⟨"MiceEngine$Tokens", "pastBlanks", "(I)I"⟩, 6) := ⟨⟨by decide +kernel, by decide +kernel⟩, List.mem_of_getElem? (i := 30) (by decide +kernel), List.mem_of_getElem? (i := 595) (by decide +kernel), List.mem_of_getElem? (i := 596) (by decide +kernel)⟩
theorem lw_p1 : lw_okq (⟨"MiceEngine$Tokens", "scanToken", "(II)I"⟩, 6) := ⟨⟨by decide +kernel, by decide +kernel⟩, List.mem_of_getElem? (i := 30) (by decide +kernel), List.mem_of_getElem? (i := 602) (by decide +kernel), List.mem_of_getElem? (i := 603) (by decide +kernel)⟩
theorem lw_p2 : lw_okq (⟨"MiceEngine$Tokens", "isLetter", "(I)Z"⟩, 6) := ⟨⟨by decide +kernel, by decide +kernel⟩, List.mem_of_getElem? (i := 30) (by decide +kernel), List.mem_of_getElem? (i := 606) (by decide +kernel), List.mem_of_getElem? (i := 607) (by decide +kernel)⟩
theorem lw_p3 : lw_okq (⟨"MiceEngine$Tokens", "scanLetters", "(II)I"⟩, 6) := ⟨⟨by decide +kernel, by decide +kernel⟩, List.mem_of_getElem? (i := 30) (by decide +kernel), List.mem_of_getElem? (i := 610) (by decide +kernel), List.mem_of_getElem? (i := 611) (by decide +kernel)⟩
theorem lw_p4 : lw_okq (⟨"MiceEngine$Tokens", "isDigit", "(I)Z"⟩, 6) := ⟨⟨by decide +kernel, by decide +kernel⟩, List.mem_of_getElem? (i := 30) (by decide +kernel), List.mem_of_getElem? (i := 614) (by decide +kernel), List.mem_of_getElem? (i := 615) (by decide +kernel)⟩
theorem lw_p5 : lw_okq (⟨"MiceEngine$Tokens", "scanDigits", "(II)I"⟩, 6) := ⟨⟨by decide +kernel, by decide +kernel⟩, List.mem_of_getElem? (i := 30) (by decide +kernel), List.mem_of_getElem? (i := 618) (by decide +kernel), List.mem_of_getElem? (i := 619) (by decide +kernel)⟩
theorem lw_p6 : lw_okq (⟨"MiceEngine$Tokens", "scanSign", "(II)I"⟩, 6) := ⟨⟨by decide +kernel, by decide +kernel⟩, List.mem_of_getElem? (i := 30) (by decide +kernel), List.mem_of_getElem? (i := 622) (by decide +kernel), List.mem_of_getElem? (i := 623) (by decide +kernel)⟩
theorem lw_p7 : lw_okq (⟨"MiceEngine$Reader", "rowTold", "()Z"⟩, 10) := ⟨⟨by decide +kernel, by decide +kernel⟩, List.mem_of_getElem? (i := 115) (by decide +kernel), List.mem_of_getElem? (i := 634) (by decide +kernel), List.mem_of_getElem? (i := 635) (by decide +kernel)⟩
theorem lw_p8 : lw_okq (⟨"MiceEngine$Reader", "refuse", "(I)Z"⟩, 10) := ⟨⟨by decide +kernel, by decide +kernel⟩, List.mem_of_getElem? (i := 115) (by decide +kernel), List.mem_of_getElem? (i := 638) (by decide +kernel), List.mem_of_getElem? (i := 639) (by decide +kernel)⟩
theorem lw_p9 : lw_okq (⟨"MiceEngine$Reader", "accept", "(I)Z"⟩, 10) := ⟨⟨by decide +kernel, by decide +kernel⟩, List.mem_of_getElem? (i := 115) (by decide +kernel), List.mem_of_getElem? (i := 642) (by decide +kernel), List.mem_of_getElem? (i := 643) (by decide +kernel)⟩
theorem lw_p10 : lw_okq (⟨"MiceEngine$Reader", "note", "(II)V"⟩, 10) := ⟨⟨by decide +kernel, by decide +kernel⟩, List.mem_of_getElem? (i := 115) (by decide +kernel), List.mem_of_getElem? (i := 650) (by decide +kernel), List.mem_of_getElem? (i := 651) (by decide +kernel)⟩
theorem lw_p11 : lw_okq (⟨"MiceEngine$Reader", "lineTold", "(LMiceEngine$Row;)Z"⟩, 10) := ⟨⟨by decide +kernel, by decide +kernel⟩, List.mem_of_getElem? (i := 115) (by decide +kernel), List.mem_of_getElem? (i := 654) (by decide +kernel), List.mem_of_getElem? (i := 655) (by decide +kernel)⟩
theorem lw_p12 : lw_okq (⟨"MiceEngine$Reader", "orderTold", "(LMiceEngine$Line;I)Z"⟩, 10) := ⟨⟨by decide +kernel, by decide +kernel⟩, List.mem_of_getElem? (i := 115) (by decide +kernel), List.mem_of_getElem? (i := 715) (by decide +kernel), List.mem_of_getElem? (i := 716) (by decide +kernel)⟩
theorem lw_p13 : lw_okq (⟨"MiceEngine$Reader", "valueTold", "(LMiceEngine$Line;Z)Z"⟩, 10) := ⟨⟨by decide +kernel, by decide +kernel⟩, List.mem_of_getElem? (i := 115) (by decide +kernel), List.mem_of_getElem? (i := 719) (by decide +kernel), List.mem_of_getElem? (i := 720) (by decide +kernel)⟩
theorem lw_p14 : lw_okq (⟨"MiceEngine$Reader", "numberTold", "()Z"⟩, 10) := ⟨⟨by decide +kernel, by decide +kernel⟩, List.mem_of_getElem? (i := 115) (by decide +kernel), List.mem_of_getElem? (i := 723) (by decide +kernel), List.mem_of_getElem? (i := 724) (by decide +kernel)⟩
theorem lw_p15 : lw_okq (⟨"MiceEngine$Reader", "labelTold", "(LMiceEngine$Line;I)Z"⟩, 10) := ⟨⟨by decide +kernel, by decide +kernel⟩, List.mem_of_getElem? (i := 115) (by decide +kernel), List.mem_of_getElem? (i := 727) (by decide +kernel), List.mem_of_getElem? (i := 728) (by decide +kernel)⟩
def lw_privs_1 : List (MethodName × Nat) := [(⟨"MiceEngine$Tokens", "pastBlanks", "(I)I"⟩, 6), (⟨"MiceEngine$Tokens", "scanToken", "(II)I"⟩, 6), (⟨"MiceEngine$Tokens", "isLetter", "(I)Z"⟩, 6), (⟨"MiceEngine$Tokens", "scanLetters", "(II)I"⟩, 6), (⟨"MiceEngine$Tokens", "isDigit", "(I)Z"⟩, 6), (⟨"MiceEngine$Tokens", "scanDigits", "(II)I"⟩, 6), (⟨"MiceEngine$Tokens", "scanSign", "(II)I"⟩, 6), (⟨"MiceEngine$Reader", "rowTold", "()Z"⟩, 10), (⟨"MiceEngine$Reader", "refuse", "(I)Z"⟩, 10), (⟨"MiceEngine$Reader", "accept", "(I)Z"⟩, 10), (⟨"MiceEngine$Reader", "note", "(II)V"⟩, 10), (⟨"MiceEngine$Reader", "lineTold", "(LMiceEngine$Row;)Z"⟩, 10), (⟨"MiceEngine$Reader", "orderTold", "(LMiceEngine$Line;I)Z"⟩, 10), (⟨"MiceEngine$Reader", "valueTold", "(LMiceEngine$Line;Z)Z"⟩, 10), (⟨"MiceEngine$Reader", "numberTold", "()Z"⟩, 10), (⟨"MiceEngine$Reader", "labelTold", "(LMiceEngine$Line;I)Z"⟩, 10)]
theorem lw_r1 : ∀ q ∈ lw_privs_1, lw_okq q := List.forall_mem_cons.mpr ⟨lw_p0, List.forall_mem_cons.mpr ⟨lw_p1, List.forall_mem_cons.mpr ⟨lw_p2, List.forall_mem_cons.mpr ⟨lw_p3, List.forall_mem_cons.mpr ⟨lw_p4, List.forall_mem_cons.mpr ⟨lw_p5, List.forall_mem_cons.mpr ⟨lw_p6, List.forall_mem_cons.mpr ⟨lw_p7, List.forall_mem_cons.mpr ⟨lw_p8, List.forall_mem_cons.mpr ⟨lw_p9, List.forall_mem_cons.mpr ⟨lw_p10, List.forall_mem_cons.mpr ⟨lw_p11, List.forall_mem_cons.mpr ⟨lw_p12, List.forall_mem_cons.mpr ⟨lw_p13, List.forall_mem_cons.mpr ⟨lw_p14, List.forall_mem_cons.mpr ⟨lw_p15, fun _ h => absurd h List.not_mem_nil⟩⟩⟩⟩⟩⟩⟩⟩⟩⟩⟩⟩⟩⟩⟩⟩
theorem lw_p16 : lw_okq (⟨"MiceEngine$Reader", "testTold", "(LMiceEngine$Line;)Z"⟩, 10) := ⟨⟨by decide +kernel, by decide +kernel⟩, List.mem_of_getElem? (i := 115) (by decide +kernel), List.mem_of_getElem? (i := 731) (by decide +kernel), List.mem_of_getElem? (i := 732) (by decide +kernel)⟩
theorem lw_p17 : lw_okq (⟨"MiceEngine$Reader", "calledTold", "(LMiceEngine$Line;)Z"⟩, 10) := ⟨⟨by decide +kernel, by decide +kernel⟩, List.mem_of_getElem? (i := 115) (by decide +kernel), List.mem_of_getElem? (i := 735) (by decide +kernel), List.mem_of_getElem? (i := 736) (by decide +kernel)⟩
theorem lw_p18 : lw_okq (⟨"MiceEngine$Reader", "counterTold", "(LMiceEngine$Line;)Z"⟩, 10) := ⟨⟨by decide +kernel, by decide +kernel⟩, List.mem_of_getElem? (i := 115) (by decide +kernel), List.mem_of_getElem? (i := 739) (by decide +kernel), List.mem_of_getElem? (i := 740) (by decide +kernel)⟩
theorem lw_p19 : lw_okq (⟨"MiceEngine$Reader", "checkLabels", "(LMiceEngine$Row;)V"⟩, 10) := ⟨⟨by decide +kernel, by decide +kernel⟩, List.mem_of_getElem? (i := 115) (by decide +kernel), List.mem_of_getElem? (i := 747) (by decide +kernel), List.mem_of_getElem? (i := 748) (by decide +kernel)⟩
theorem lw_p20 : lw_okq (⟨"MiceEngine$Reader", "trialTold", "()Z"⟩, 10) := ⟨⟨by decide +kernel, by decide +kernel⟩, List.mem_of_getElem? (i := 115) (by decide +kernel), List.mem_of_getElem? (i := 755) (by decide +kernel), List.mem_of_getElem? (i := 756) (by decide +kernel)⟩
theorem lw_p21 : lw_okq (⟨"MiceEngine$Reader", "numbersTold", "([I)I"⟩, 10) := ⟨⟨by decide +kernel, by decide +kernel⟩, List.mem_of_getElem? (i := 115) (by decide +kernel), List.mem_of_getElem? (i := 759) (by decide +kernel), List.mem_of_getElem? (i := 760) (by decide +kernel)⟩
theorem lw_p22 : lw_okq (⟨"MiceEngine$Reader", "fuelTold", "()Z"⟩, 10) := ⟨⟨by decide +kernel, by decide +kernel⟩, List.mem_of_getElem? (i := 115) (by decide +kernel), List.mem_of_getElem? (i := 770) (by decide +kernel), List.mem_of_getElem? (i := 771) (by decide +kernel)⟩
theorem lw_p23 : lw_okq (⟨"MiceEngine", "rowsChanged", "()V"⟩, 12) := ⟨⟨by decide +kernel, by decide +kernel⟩, List.mem_of_getElem? (i := 22) (by decide +kernel), List.mem_of_getElem? (i := 790) (by decide +kernel), List.mem_of_getElem? (i := 791) (by decide +kernel)⟩
theorem lw_p24 : lw_okq (⟨"MiceEngine", "hasRow", "(I)Z"⟩, 12) := ⟨⟨by decide +kernel, by decide +kernel⟩, List.mem_of_getElem? (i := 22) (by decide +kernel), List.mem_of_getElem? (i := 818) (by decide +kernel), List.mem_of_getElem? (i := 819) (by decide +kernel)⟩
theorem lw_p25 : lw_okq (⟨"MiceEngine", "hasLine", "(II)Z"⟩, 12) := ⟨⟨by decide +kernel, by decide +kernel⟩, List.mem_of_getElem? (i := 22) (by decide +kernel), List.mem_of_getElem? (i := 826) (by decide +kernel), List.mem_of_getElem? (i := 827) (by decide +kernel)⟩
theorem lw_p26 : lw_okq (⟨"MiceEngine", "hasRun", "(III)Z"⟩, 12) := ⟨⟨by decide +kernel, by decide +kernel⟩, List.mem_of_getElem? (i := 22) (by decide +kernel), List.mem_of_getElem? (i := 835) (by decide +kernel), List.mem_of_getElem? (i := 836) (by decide +kernel)⟩
theorem lw_p27 : lw_okq (⟨"MiceEngine", "hasLost", "(II)Z"⟩, 12) := ⟨⟨by decide +kernel, by decide +kernel⟩, List.mem_of_getElem? (i := 22) (by decide +kernel), List.mem_of_getElem? (i := 839) (by decide +kernel), List.mem_of_getElem? (i := 840) (by decide +kernel)⟩
theorem lw_p28 : lw_okq (⟨"MiceEngine", "hasTrial", "(I)Z"⟩, 12) := ⟨⟨by decide +kernel, by decide +kernel⟩, List.mem_of_getElem? (i := 22) (by decide +kernel), List.mem_of_getElem? (i := 843) (by decide +kernel), List.mem_of_getElem? (i := 844) (by decide +kernel)⟩
theorem lw_p29 : lw_okq (⟨"MiceEngine$Machine", "begin", "(LMiceEngine$Row;IILMiceEngine$Deed;)V"⟩, 15) := ⟨⟨by decide +kernel, by decide +kernel⟩, List.mem_of_getElem? (i := 320) (by decide +kernel), List.mem_of_getElem? (i := 851) (by decide +kernel), List.mem_of_getElem? (i := 852) (by decide +kernel)⟩
theorem lw_p30 : lw_okq (⟨"MiceEngine$Machine", "comesToLine", "()Z"⟩, 15) := ⟨⟨by decide +kernel, by decide +kernel⟩, List.mem_of_getElem? (i := 320) (by decide +kernel), List.mem_of_getElem? (i := 856) (by decide +kernel), List.mem_of_getElem? (i := 857) (by decide +kernel)⟩
theorem lw_p31 : lw_okq (⟨"MiceEngine$Machine", "doesLine", "()Z"⟩, 15) := ⟨⟨by decide +kernel, by decide +kernel⟩, List.mem_of_getElem? (i := 320) (by decide +kernel), List.mem_of_getElem? (i := 863) (by decide +kernel), List.mem_of_getElem? (i := 864) (by decide +kernel)⟩
def lw_privs_2 : List (MethodName × Nat) := [(⟨"MiceEngine$Reader", "testTold", "(LMiceEngine$Line;)Z"⟩, 10), (⟨"MiceEngine$Reader", "calledTold", "(LMiceEngine$Line;)Z"⟩, 10), (⟨"MiceEngine$Reader", "counterTold", "(LMiceEngine$Line;)Z"⟩, 10), (⟨"MiceEngine$Reader", "checkLabels", "(LMiceEngine$Row;)V"⟩, 10), (⟨"MiceEngine$Reader", "trialTold", "()Z"⟩, 10), (⟨"MiceEngine$Reader", "numbersTold", "([I)I"⟩, 10), (⟨"MiceEngine$Reader", "fuelTold", "()Z"⟩, 10), (⟨"MiceEngine", "rowsChanged", "()V"⟩, 12), (⟨"MiceEngine", "hasRow", "(I)Z"⟩, 12), (⟨"MiceEngine", "hasLine", "(II)Z"⟩, 12), (⟨"MiceEngine", "hasRun", "(III)Z"⟩, 12), (⟨"MiceEngine", "hasLost", "(II)Z"⟩, 12), (⟨"MiceEngine", "hasTrial", "(I)Z"⟩, 12), (⟨"MiceEngine$Machine", "begin", "(LMiceEngine$Row;IILMiceEngine$Deed;)V"⟩, 15), (⟨"MiceEngine$Machine", "comesToLine", "()Z"⟩, 15), (⟨"MiceEngine$Machine", "doesLine", "()Z"⟩, 15)]
theorem lw_r2 : ∀ q ∈ lw_privs_2, lw_okq q := List.forall_mem_cons.mpr ⟨lw_p16, List.forall_mem_cons.mpr ⟨lw_p17, List.forall_mem_cons.mpr ⟨lw_p18, List.forall_mem_cons.mpr ⟨lw_p19, List.forall_mem_cons.mpr ⟨lw_p20, List.forall_mem_cons.mpr ⟨lw_p21, List.forall_mem_cons.mpr ⟨lw_p22, List.forall_mem_cons.mpr ⟨lw_p23, List.forall_mem_cons.mpr ⟨lw_p24, List.forall_mem_cons.mpr ⟨lw_p25, List.forall_mem_cons.mpr ⟨lw_p26, List.forall_mem_cons.mpr ⟨lw_p27, List.forall_mem_cons.mpr ⟨lw_p28, List.forall_mem_cons.mpr ⟨lw_p29, List.forall_mem_cons.mpr ⟨lw_p30, List.forall_mem_cons.mpr ⟨lw_p31, fun _ h => absurd h List.not_mem_nil⟩⟩⟩⟩⟩⟩⟩⟩⟩⟩⟩⟩⟩⟩⟩⟩
theorem lw_p32 : lw_okq (⟨"MiceEngine$Machine", "valueOf", "(II)I"⟩, 15) := ⟨⟨by decide +kernel, by decide +kernel⟩, List.mem_of_getElem? (i := 320) (by decide +kernel), List.mem_of_getElem? (i := 867) (by decide +kernel), List.mem_of_getElem? (i := 868) (by decide +kernel)⟩
theorem lw_p33 : lw_okq (⟨"MiceEngine$Machine", "putsOut", "(I)Z"⟩, 15) := ⟨⟨by decide +kernel, by decide +kernel⟩, List.mem_of_getElem? (i := 320) (by decide +kernel), List.mem_of_getElem? (i := 871) (by decide +kernel), List.mem_of_getElem? (i := 872) (by decide +kernel)⟩
theorem lw_p34 : lw_okq (⟨"MiceEngine$Machine", "jump", "(I)V"⟩, 15) := ⟨⟨by decide +kernel, by decide +kernel⟩, List.mem_of_getElem? (i := 320) (by decide +kernel), List.mem_of_getElem? (i := 876) (by decide +kernel), List.mem_of_getElem? (i := 877) (by decide +kernel)⟩
theorem lw_p35 : lw_okq (⟨"MiceEngine$Machine", "enter", "(I)V"⟩, 15) := ⟨⟨by decide +kernel, by decide +kernel⟩, List.mem_of_getElem? (i := 320) (by decide +kernel), List.mem_of_getElem? (i := 883) (by decide +kernel), List.mem_of_getElem? (i := 884) (by decide +kernel)⟩
theorem lw_p36 : lw_okq (⟨"MiceEngine$Machine", "reckons", "(LMiceEngine$Line;I)Z"⟩, 15) := ⟨⟨by decide +kernel, by decide +kernel⟩, List.mem_of_getElem? (i := 320) (by decide +kernel), List.mem_of_getElem? (i := 887) (by decide +kernel), List.mem_of_getElem? (i := 888) (by decide +kernel)⟩
theorem lw_p37 : lw_okq (⟨"MiceEngine$Losses", "know", "(I)V"⟩, 7) := ⟨⟨by decide +kernel, by decide +kernel⟩, List.mem_of_getElem? (i := 384) (by decide +kernel), List.mem_of_getElem? (i := 908) (by decide +kernel), List.mem_of_getElem? (i := 909) (by decide +kernel)⟩
theorem lw_p38 : lw_okq (⟨"MiceEngine$Losses", "isOther", "(III)Z"⟩, 7) := ⟨⟨by decide +kernel, by decide +kernel⟩, List.mem_of_getElem? (i := 384) (by decide +kernel), List.mem_of_getElem? (i := 914) (by decide +kernel), List.mem_of_getElem? (i := 915) (by decide +kernel)⟩
theorem lw_p39 : lw_okq (⟨"MiceEngine$Losses", "doubledDoesAlike", "(I)Z"⟩, 7) := ⟨⟨by decide +kernel, by decide +kernel⟩, List.mem_of_getElem? (i := 384) (by decide +kernel), List.mem_of_getElem? (i := 987) (by decide +kernel), List.mem_of_getElem? (i := 988) (by decide +kernel)⟩
theorem lw_p40 : lw_okq (⟨"MiceEngine$Losses", "victim", "(IIII)I"⟩, 7) := ⟨⟨by decide +kernel, by decide +kernel⟩, List.mem_of_getElem? (i := 384) (by decide +kernel), List.mem_of_getElem? (i := 1011) (by decide +kernel), List.mem_of_getElem? (i := 1012) (by decide +kernel)⟩
theorem lw_p41 : lw_okq (⟨"MiceEngine", "isSmall", "(I)Z"⟩, 12) := ⟨⟨by decide +kernel, by decide +kernel⟩, List.mem_of_getElem? (i := 22) (by decide +kernel), List.mem_of_getElem? (i := 1038) (by decide +kernel), List.mem_of_getElem? (i := 1039) (by decide +kernel)⟩
theorem lw_p42 : lw_okq (⟨"MiceEngine$Orders", "reckonWays", "(I)V"⟩, 7) := ⟨⟨by decide +kernel, by decide +kernel⟩, List.mem_of_getElem? (i := 416) (by decide +kernel), List.mem_of_getElem? (i := 1056) (by decide +kernel), List.mem_of_getElem? (i := 1057) (by decide +kernel)⟩
theorem lw_p43 : lw_okq (⟨"MiceEngine$Orders", "fewestThatDo", "(I)I"⟩, 7) := ⟨⟨by decide +kernel, by decide +kernel⟩, List.mem_of_getElem? (i := 416) (by decide +kernel), List.mem_of_getElem? (i := 1088) (by decide +kernel), List.mem_of_getElem? (i := 1089) (by decide +kernel)⟩
theorem lw_p44 : lw_okq (⟨"MiceEngine", "canSeek", "(III)Z"⟩, 12) := ⟨⟨by decide +kernel, by decide +kernel⟩, List.mem_of_getElem? (i := 22) (by decide +kernel), List.mem_of_getElem? (i := 1108) (by decide +kernel), List.mem_of_getElem? (i := 1109) (by decide +kernel)⟩
theorem lw_p45 : lw_okq (⟨"MiceEngine$Seeker", "findOfSize", "(LMiceEngine$Row;II)Z"⟩, 9) := ⟨⟨by decide +kernel, by decide +kernel⟩, List.mem_of_getElem? (i := 444) (by decide +kernel), List.mem_of_getElem? (i := 1116) (by decide +kernel), List.mem_of_getElem? (i := 1117) (by decide +kernel)⟩
theorem lw_p46 : lw_okq (⟨"MiceEngine$Seeker", "suffices", "(I)Z"⟩, 9) := ⟨⟨by decide +kernel, by decide +kernel⟩, List.mem_of_getElem? (i := 444) (by decide +kernel), List.mem_of_getElem? (i := 1120) (by decide +kernel), List.mem_of_getElem? (i := 1121) (by decide +kernel)⟩
theorem lw_p47 : lw_okq (⟨"MiceEngine$Seeker", "passOn", "(LMiceEngine$Row;I)Z"⟩, 9) := ⟨⟨by decide +kernel, by decide +kernel⟩, List.mem_of_getElem? (i := 444) (by decide +kernel), List.mem_of_getElem? (i := 1125) (by decide +kernel), List.mem_of_getElem? (i := 1126) (by decide +kernel)⟩
def lw_privs_3 : List (MethodName × Nat) := [(⟨"MiceEngine$Machine", "valueOf", "(II)I"⟩, 15), (⟨"MiceEngine$Machine", "putsOut", "(I)Z"⟩, 15), (⟨"MiceEngine$Machine", "jump", "(I)V"⟩, 15), (⟨"MiceEngine$Machine", "enter", "(I)V"⟩, 15), (⟨"MiceEngine$Machine", "reckons", "(LMiceEngine$Line;I)Z"⟩, 15), (⟨"MiceEngine$Losses", "know", "(I)V"⟩, 7), (⟨"MiceEngine$Losses", "isOther", "(III)Z"⟩, 7), (⟨"MiceEngine$Losses", "doubledDoesAlike", "(I)Z"⟩, 7), (⟨"MiceEngine$Losses", "victim", "(IIII)I"⟩, 7), (⟨"MiceEngine", "isSmall", "(I)Z"⟩, 12), (⟨"MiceEngine$Orders", "reckonWays", "(I)V"⟩, 7), (⟨"MiceEngine$Orders", "fewestThatDo", "(I)I"⟩, 7), (⟨"MiceEngine", "canSeek", "(III)Z"⟩, 12), (⟨"MiceEngine$Seeker", "findOfSize", "(LMiceEngine$Row;II)Z"⟩, 9), (⟨"MiceEngine$Seeker", "suffices", "(I)Z"⟩, 9), (⟨"MiceEngine$Seeker", "passOn", "(LMiceEngine$Row;I)Z"⟩, 9)]
theorem lw_r3 : ∀ q ∈ lw_privs_3, lw_okq q := List.forall_mem_cons.mpr ⟨lw_p32, List.forall_mem_cons.mpr ⟨lw_p33, List.forall_mem_cons.mpr ⟨lw_p34, List.forall_mem_cons.mpr ⟨lw_p35, List.forall_mem_cons.mpr ⟨lw_p36, List.forall_mem_cons.mpr ⟨lw_p37, List.forall_mem_cons.mpr ⟨lw_p38, List.forall_mem_cons.mpr ⟨lw_p39, List.forall_mem_cons.mpr ⟨lw_p40, List.forall_mem_cons.mpr ⟨lw_p41, List.forall_mem_cons.mpr ⟨lw_p42, List.forall_mem_cons.mpr ⟨lw_p43, List.forall_mem_cons.mpr ⟨lw_p44, List.forall_mem_cons.mpr ⟨lw_p45, List.forall_mem_cons.mpr ⟨lw_p46, List.forall_mem_cons.mpr ⟨lw_p47, fun _ h => absurd h List.not_mem_nil⟩⟩⟩⟩⟩⟩⟩⟩⟩⟩⟩⟩⟩⟩⟩⟩
theorem lw_p48 : lw_okq (⟨"MiceEngine", "canSuspect", "(III)Z"⟩, 12) := ⟨⟨by decide +kernel, by decide +kernel⟩, List.mem_of_getElem? (i := 22) (by decide +kernel), List.mem_of_getElem? (i := 1158) (by decide +kernel), List.mem_of_getElem? (i := 1159) (by decide +kernel)⟩
theorem lw_p49 : lw_okq (⟨"MiceEngine$Suspicion", "gather", "(II)V"⟩, 14) := ⟨⟨by decide +kernel, by decide +kernel⟩, List.mem_of_getElem? (i := 481) (by decide +kernel), List.mem_of_getElem? (i := 1166) (by decide +kernel), List.mem_of_getElem? (i := 1167) (by decide +kernel)⟩
theorem lw_p50 : lw_okq (⟨"MiceEngine$Suspicion", "group", "(I)V"⟩, 14) := ⟨⟨by decide +kernel, by decide +kernel⟩, List.mem_of_getElem? (i := 481) (by decide +kernel), List.mem_of_getElem? (i := 1171) (by decide +kernel), List.mem_of_getElem? (i := 1172) (by decide +kernel)⟩
theorem lw_p51 : lw_okq (⟨"MiceEngine$Suspicion", "groupOfDeed", "(II)I"⟩, 14) := ⟨⟨by decide +kernel, by decide +kernel⟩, List.mem_of_getElem? (i := 481) (by decide +kernel), List.mem_of_getElem? (i := 1176) (by decide +kernel), List.mem_of_getElem? (i := 1177) (by decide +kernel)⟩
theorem lw_p52 : lw_okq (⟨"MiceEngine$Suspicion", "isRecorded", "(I)Z"⟩, 14) := ⟨⟨by decide +kernel, by decide +kernel⟩, List.mem_of_getElem? (i := 481) (by decide +kernel), List.mem_of_getElem? (i := 1180) (by decide +kernel), List.mem_of_getElem? (i := 1181) (by decide +kernel)⟩
theorem lw_p53 : lw_okq (⟨"MiceEngine$Suspicion", "keepDeed", "(II)V"⟩, 14) := ⟨⟨by decide +kernel, by decide +kernel⟩, List.mem_of_getElem? (i := 481) (by decide +kernel), List.mem_of_getElem? (i := 1184) (by decide +kernel), List.mem_of_getElem? (i := 1185) (by decide +kernel)⟩
theorem lw_p54 : lw_okq (⟨"MiceEngine$Suspicion", "keepGroup", "(II)V"⟩, 14) := ⟨⟨by decide +kernel, by decide +kernel⟩, List.mem_of_getElem? (i := 481) (by decide +kernel), List.mem_of_getElem? (i := 1188) (by decide +kernel), List.mem_of_getElem? (i := 1189) (by decide +kernel)⟩
theorem lw_p55 : lw_okq (⟨"MiceEngine$Suspicion", "greatestGroup", "(I)I"⟩, 14) := ⟨⟨by decide +kernel, by decide +kernel⟩, List.mem_of_getElem? (i := 481) (by decide +kernel), List.mem_of_getElem? (i := 1205) (by decide +kernel), List.mem_of_getElem? (i := 1206) (by decide +kernel)⟩
theorem lw_p56 : lw_okq (⟨"MiceEngine$Suspicion", "gatherUnlike", "()I"⟩, 14) := ⟨⟨by decide +kernel, by decide +kernel⟩, List.mem_of_getElem? (i := 481) (by decide +kernel), List.mem_of_getElem? (i := 1218) (by decide +kernel), List.mem_of_getElem? (i := 1219) (by decide +kernel)⟩
theorem lw_p57 : lw_okq (⟨"MiceEngine$Suspicion", "areToldApart", "(II)Z"⟩, 14) := ⟨⟨by decide +kernel, by decide +kernel⟩, List.mem_of_getElem? (i := 481) (by decide +kernel), List.mem_of_getElem? (i := 1222) (by decide +kernel), List.mem_of_getElem? (i := 1223) (by decide +kernel)⟩
theorem lw_p58 : lw_okq (⟨"MiceEngine$Suspicion", "settles", "(III)Z"⟩, 14) := ⟨⟨by decide +kernel, by decide +kernel⟩, List.mem_of_getElem? (i := 481) (by decide +kernel), List.mem_of_getElem? (i := 1226) (by decide +kernel), List.mem_of_getElem? (i := 1227) (by decide +kernel)⟩
theorem lw_p59 : lw_okq (⟨"MiceEngine$Suspicion", "settlesBy", "(IIII)Z"⟩, 14) := ⟨⟨by decide +kernel, by decide +kernel⟩, List.mem_of_getElem? (i := 481) (by decide +kernel), List.mem_of_getElem? (i := 1230) (by decide +kernel), List.mem_of_getElem? (i := 1231) (by decide +kernel)⟩
theorem lw_p60 : lw_okq (⟨"MiceEngine$Suspicion", "isFirstOfGroup", "(III)Z"⟩, 14) := ⟨⟨by decide +kernel, by decide +kernel⟩, List.mem_of_getElem? (i := 481) (by decide +kernel), List.mem_of_getElem? (i := 1234) (by decide +kernel), List.mem_of_getElem? (i := 1235) (by decide +kernel)⟩
theorem lw_p61 : lw_okq (⟨"MiceEngine$Suspicion", "split", "(IIII)I"⟩, 14) := ⟨⟨by decide +kernel, by decide +kernel⟩, List.mem_of_getElem? (i := 481) (by decide +kernel), List.mem_of_getElem? (i := 1238) (by decide +kernel), List.mem_of_getElem? (i := 1239) (by decide +kernel)⟩
theorem lw_p62 : lw_okq (⟨"MiceEngine", "heldSlots", "()I"⟩, 12) := ⟨⟨by decide +kernel, by decide +kernel⟩, List.mem_of_getElem? (i := 22) (by decide +kernel), List.mem_of_getElem? (i := 1258) (by decide +kernel), List.mem_of_getElem? (i := 1259) (by decide +kernel)⟩
theorem lw_p63 : lw_okq (⟨"MiceEngine", "numbersOf", "(I)I"⟩, 12) := ⟨⟨by decide +kernel, by decide +kernel⟩, List.mem_of_getElem? (i := 22) (by decide +kernel), List.mem_of_getElem? (i := 1262) (by decide +kernel), List.mem_of_getElem? (i := 1263) (by decide +kernel)⟩
def lw_privs_4 : List (MethodName × Nat) := [(⟨"MiceEngine", "canSuspect", "(III)Z"⟩, 12), (⟨"MiceEngine$Suspicion", "gather", "(II)V"⟩, 14), (⟨"MiceEngine$Suspicion", "group", "(I)V"⟩, 14), (⟨"MiceEngine$Suspicion", "groupOfDeed", "(II)I"⟩, 14), (⟨"MiceEngine$Suspicion", "isRecorded", "(I)Z"⟩, 14), (⟨"MiceEngine$Suspicion", "keepDeed", "(II)V"⟩, 14), (⟨"MiceEngine$Suspicion", "keepGroup", "(II)V"⟩, 14), (⟨"MiceEngine$Suspicion", "greatestGroup", "(I)I"⟩, 14), (⟨"MiceEngine$Suspicion", "gatherUnlike", "()I"⟩, 14), (⟨"MiceEngine$Suspicion", "areToldApart", "(II)Z"⟩, 14), (⟨"MiceEngine$Suspicion", "settles", "(III)Z"⟩, 14), (⟨"MiceEngine$Suspicion", "settlesBy", "(IIII)Z"⟩, 14), (⟨"MiceEngine$Suspicion", "isFirstOfGroup", "(III)Z"⟩, 14), (⟨"MiceEngine$Suspicion", "split", "(IIII)I"⟩, 14), (⟨"MiceEngine", "heldSlots", "()I"⟩, 12), (⟨"MiceEngine", "numbersOf", "(I)I"⟩, 12)]
theorem lw_r4 : ∀ q ∈ lw_privs_4, lw_okq q := List.forall_mem_cons.mpr ⟨lw_p48, List.forall_mem_cons.mpr ⟨lw_p49, List.forall_mem_cons.mpr ⟨lw_p50, List.forall_mem_cons.mpr ⟨lw_p51, List.forall_mem_cons.mpr ⟨lw_p52, List.forall_mem_cons.mpr ⟨lw_p53, List.forall_mem_cons.mpr ⟨lw_p54, List.forall_mem_cons.mpr ⟨lw_p55, List.forall_mem_cons.mpr ⟨lw_p56, List.forall_mem_cons.mpr ⟨lw_p57, List.forall_mem_cons.mpr ⟨lw_p58, List.forall_mem_cons.mpr ⟨lw_p59, List.forall_mem_cons.mpr ⟨lw_p60, List.forall_mem_cons.mpr ⟨lw_p61, List.forall_mem_cons.mpr ⟨lw_p62, List.forall_mem_cons.mpr ⟨lw_p63, fun _ h => absurd h List.not_mem_nil⟩⟩⟩⟩⟩⟩⟩⟩⟩⟩⟩⟩⟩⟩⟩⟩
theorem lw_p64 : lw_okq (⟨"MiceEngineModel", "put", "(I)V"⟩, 85) := ⟨⟨by decide +kernel, by decide +kernel⟩, List.mem_of_getElem? (i := 1266) (by decide +kernel), List.mem_of_getElem? (i := 1538) (by decide +kernel), List.mem_of_getElem? (i := 1539) (by decide +kernel)⟩
theorem lw_p65 : lw_okq (⟨"MiceEngineModel", "cut", "()V"⟩, 85) := ⟨⟨by decide +kernel, by decide +kernel⟩, List.mem_of_getElem? (i := 1266) (by decide +kernel), List.mem_of_getElem? (i := 1550) (by decide +kernel), List.mem_of_getElem? (i := 1551) (by decide +kernel)⟩
theorem lw_p66 : lw_okq (⟨"MiceEngineModel", "byteAt", "(I)I"⟩, 85) := ⟨⟨by decide +kernel, by decide +kernel⟩, List.mem_of_getElem? (i := 1266) (by decide +kernel), List.mem_of_getElem? (i := 1554) (by decide +kernel), List.mem_of_getElem? (i := 1555) (by decide +kernel)⟩
theorem lw_p67 : lw_okq (⟨"MiceEngineModel", "token", "(IIIJ)V"⟩, 85) := ⟨⟨by decide +kernel, by decide +kernel⟩, List.mem_of_getElem? (i := 1266) (by decide +kernel), List.mem_of_getElem? (i := 1558) (by decide +kernel), List.mem_of_getElem? (i := 1559) (by decide +kernel)⟩
theorem lw_p68 : lw_okq (⟨"MiceEngineModel", "sign", "(III)I"⟩, 85) := ⟨⟨by decide +kernel, by decide +kernel⟩, List.mem_of_getElem? (i := 1266) (by decide +kernel), List.mem_of_getElem? (i := 1568) (by decide +kernel), List.mem_of_getElem? (i := 1569) (by decide +kernel)⟩
theorem lw_p69 : lw_okq (⟨"MiceEngineModel", "is", "(I)Z"⟩, 85) := ⟨⟨by decide +kernel, by decide +kernel⟩, List.mem_of_getElem? (i := 1266) (by decide +kernel), List.mem_of_getElem? (i := 1572) (by decide +kernel), List.mem_of_getElem? (i := 1573) (by decide +kernel)⟩
theorem lw_p70 : lw_okq (⟨"MiceEngineModel", "tell", "()V"⟩, 85) := ⟨⟨by decide +kernel, by decide +kernel⟩, List.mem_of_getElem? (i := 1266) (by decide +kernel), List.mem_of_getElem? (i := 1576) (by decide +kernel), List.mem_of_getElem? (i := 1577) (by decide +kernel)⟩
theorem lw_p71 : lw_okq (⟨"MiceEngineModel", "room", "(II)V"⟩, 85) := ⟨⟨by decide +kernel, by decide +kernel⟩, List.mem_of_getElem? (i := 1266) (by decide +kernel), List.mem_of_getElem? (i := 1580) (by decide +kernel), List.mem_of_getElem? (i := 1581) (by decide +kernel)⟩
theorem lw_p72 : lw_okq (⟨"MiceEngineModel", "fail", "(I)V"⟩, 85) := ⟨⟨by decide +kernel, by decide +kernel⟩, List.mem_of_getElem? (i := 1266) (by decide +kernel), List.mem_of_getElem? (i := 1584) (by decide +kernel), List.mem_of_getElem? (i := 1585) (by decide +kernel)⟩
theorem lw_p73 : lw_okq (⟨"MiceEngineModel", "tellRow", "()V"⟩, 85) := ⟨⟨by decide +kernel, by decide +kernel⟩, List.mem_of_getElem? (i := 1266) (by decide +kernel), List.mem_of_getElem? (i := 1588) (by decide +kernel), List.mem_of_getElem? (i := 1589) (by decide +kernel)⟩
theorem lw_p74 : lw_okq (⟨"MiceEngineModel", "goesOn", "()V"⟩, 85) := ⟨⟨by decide +kernel, by decide +kernel⟩, List.mem_of_getElem? (i := 1266) (by decide +kernel), List.mem_of_getElem? (i := 1592) (by decide +kernel), List.mem_of_getElem? (i := 1593) (by decide +kernel)⟩
theorem lw_p75 : lw_okq (⟨"MiceEngineModel", "must", "(I)V"⟩, 85) := ⟨⟨by decide +kernel, by decide +kernel⟩, List.mem_of_getElem? (i := 1266) (by decide +kernel), List.mem_of_getElem? (i := 1596) (by decide +kernel), List.mem_of_getElem? (i := 1597) (by decide +kernel)⟩
theorem lw_p76 : lw_okq (⟨"MiceEngineModel", "rowAt", "(I)I"⟩, 85) := ⟨⟨by decide +kernel, by decide +kernel⟩, List.mem_of_getElem? (i := 1266) (by decide +kernel), List.mem_of_getElem? (i := 1600) (by decide +kernel), List.mem_of_getElem? (i := 1601) (by decide +kernel)⟩
theorem lw_p77 : lw_okq (⟨"MiceEngineModel", "wrong", "(II)V"⟩, 85) := ⟨⟨by decide +kernel, by decide +kernel⟩, List.mem_of_getElem? (i := 1266) (by decide +kernel), List.mem_of_getElem? (i := 1604) (by decide +kernel), List.mem_of_getElem? (i := 1605) (by decide +kernel)⟩
theorem lw_p78 : lw_okq (⟨"MiceEngineModel", "tellLine", "(I)V"⟩, 85) := ⟨⟨by decide +kernel, by decide +kernel⟩, List.mem_of_getElem? (i := 1266) (by decide +kernel), List.mem_of_getElem? (i := 1608) (by decide +kernel), List.mem_of_getElem? (i := 1609) (by decide +kernel)⟩
theorem lw_p79 : lw_okq (⟨"MiceEngineModel", "tellOrder", "(III)V"⟩, 85) := ⟨⟨by decide +kernel, by decide +kernel⟩, List.mem_of_getElem? (i := 1266) (by decide +kernel), List.mem_of_getElem? (i := 1612) (by decide +kernel), List.mem_of_getElem? (i := 1613) (by decide +kernel)⟩
def lw_privs_5 : List (MethodName × Nat) := [(⟨"MiceEngineModel", "put", "(I)V"⟩, 85), (⟨"MiceEngineModel", "cut", "()V"⟩, 85), (⟨"MiceEngineModel", "byteAt", "(I)I"⟩, 85), (⟨"MiceEngineModel", "token", "(IIIJ)V"⟩, 85), (⟨"MiceEngineModel", "sign", "(III)I"⟩, 85), (⟨"MiceEngineModel", "is", "(I)Z"⟩, 85), (⟨"MiceEngineModel", "tell", "()V"⟩, 85), (⟨"MiceEngineModel", "room", "(II)V"⟩, 85), (⟨"MiceEngineModel", "fail", "(I)V"⟩, 85), (⟨"MiceEngineModel", "tellRow", "()V"⟩, 85), (⟨"MiceEngineModel", "goesOn", "()V"⟩, 85), (⟨"MiceEngineModel", "must", "(I)V"⟩, 85), (⟨"MiceEngineModel", "rowAt", "(I)I"⟩, 85), (⟨"MiceEngineModel", "wrong", "(II)V"⟩, 85), (⟨"MiceEngineModel", "tellLine", "(I)V"⟩, 85), (⟨"MiceEngineModel", "tellOrder", "(III)V"⟩, 85)]
theorem lw_r5 : ∀ q ∈ lw_privs_5, lw_okq q := List.forall_mem_cons.mpr ⟨lw_p64, List.forall_mem_cons.mpr ⟨lw_p65, List.forall_mem_cons.mpr ⟨lw_p66, List.forall_mem_cons.mpr ⟨lw_p67, List.forall_mem_cons.mpr ⟨lw_p68, List.forall_mem_cons.mpr ⟨lw_p69, List.forall_mem_cons.mpr ⟨lw_p70, List.forall_mem_cons.mpr ⟨lw_p71, List.forall_mem_cons.mpr ⟨lw_p72, List.forall_mem_cons.mpr ⟨lw_p73, List.forall_mem_cons.mpr ⟨lw_p74, List.forall_mem_cons.mpr ⟨lw_p75, List.forall_mem_cons.mpr ⟨lw_p76, List.forall_mem_cons.mpr ⟨lw_p77, List.forall_mem_cons.mpr ⟨lw_p78, List.forall_mem_cons.mpr ⟨lw_p79, fun _ h => absurd h List.not_mem_nil⟩⟩⟩⟩⟩⟩⟩⟩⟩⟩⟩⟩⟩⟩⟩⟩
theorem lw_p80 : lw_okq (⟨"MiceEngineModel", "first", "(I)V"⟩, 85) := ⟨⟨by decide +kernel, by decide +kernel⟩, List.mem_of_getElem? (i := 1266) (by decide +kernel), List.mem_of_getElem? (i := 1616) (by decide +kernel), List.mem_of_getElem? (i := 1617) (by decide +kernel)⟩
theorem lw_p81 : lw_okq (⟨"MiceEngineModel", "value", "()V"⟩, 85) := ⟨⟨by decide +kernel, by decide +kernel⟩, List.mem_of_getElem? (i := 1266) (by decide +kernel), List.mem_of_getElem? (i := 1620) (by decide +kernel), List.mem_of_getElem? (i := 1621) (by decide +kernel)⟩
theorem lw_p82 : lw_okq (⟨"MiceEngineModel", "signed", "()I"⟩, 85) := ⟨⟨by decide +kernel, by decide +kernel⟩, List.mem_of_getElem? (i := 1266) (by decide +kernel), List.mem_of_getElem? (i := 1624) (by decide +kernel), List.mem_of_getElem? (i := 1625) (by decide +kernel)⟩
theorem lw_p83 : lw_okq (⟨"MiceEngineModel", "leads", "(II)V"⟩, 85) := ⟨⟨by decide +kernel, by decide +kernel⟩, List.mem_of_getElem? (i := 1266) (by decide +kernel), List.mem_of_getElem? (i := 1628) (by decide +kernel), List.mem_of_getElem? (i := 1629) (by decide +kernel)⟩
theorem lw_p84 : lw_okq (⟨"MiceEngineModel", "second", "(I)V"⟩, 85) := ⟨⟨by decide +kernel, by decide +kernel⟩, List.mem_of_getElem? (i := 1266) (by decide +kernel), List.mem_of_getElem? (i := 1632) (by decide +kernel), List.mem_of_getElem? (i := 1633) (by decide +kernel)⟩
theorem lw_p85 : lw_okq (⟨"MiceEngineModel", "firstWith", "(IIJ)I"⟩, 85) := ⟨⟨by decide +kernel, by decide +kernel⟩, List.mem_of_getElem? (i := 1266) (by decide +kernel), List.mem_of_getElem? (i := 1636) (by decide +kernel), List.mem_of_getElem? (i := 1637) (by decide +kernel)⟩
theorem lw_p86 : lw_okq (⟨"MiceEngineModel", "tellTrial", "()V"⟩, 85) := ⟨⟨by decide +kernel, by decide +kernel⟩, List.mem_of_getElem? (i := 1266) (by decide +kernel), List.mem_of_getElem? (i := 1640) (by decide +kernel), List.mem_of_getElem? (i := 1641) (by decide +kernel)⟩
theorem lw_p87 : lw_okq (⟨"MiceEngineModel", "isNumber", "()Z"⟩, 85) := ⟨⟨by decide +kernel, by decide +kernel⟩, List.mem_of_getElem? (i := 1266) (by decide +kernel), List.mem_of_getElem? (i := 1644) (by decide +kernel), List.mem_of_getElem? (i := 1645) (by decide +kernel)⟩
theorem lw_p88 : lw_okq (⟨"MiceEngineModel", "isRow", "(I)Z"⟩, 85) := ⟨⟨by decide +kernel, by decide +kernel⟩, List.mem_of_getElem? (i := 1266) (by decide +kernel), List.mem_of_getElem? (i := 1656) (by decide +kernel), List.mem_of_getElem? (i := 1657) (by decide +kernel)⟩
theorem lw_p89 : lw_okq (⟨"MiceEngineModel", "linesOf", "(I)I"⟩, 85) := ⟨⟨by decide +kernel, by decide +kernel⟩, List.mem_of_getElem? (i := 1266) (by decide +kernel), List.mem_of_getElem? (i := 1663) (by decide +kernel), List.mem_of_getElem? (i := 1664) (by decide +kernel)⟩
theorem lw_p90 : lw_okq (⟨"MiceEngineModel", "isLine", "(II)Z"⟩, 85) := ⟨⟨by decide +kernel, by decide +kernel⟩, List.mem_of_getElem? (i := 1266) (by decide +kernel), List.mem_of_getElem? (i := 1671) (by decide +kernel), List.mem_of_getElem? (i := 1672) (by decide +kernel)⟩
theorem lw_p91 : lw_okq (⟨"MiceEngineModel", "lineAt", "(II)I"⟩, 85) := ⟨⟨by decide +kernel, by decide +kernel⟩, List.mem_of_getElem? (i := 1266) (by decide +kernel), List.mem_of_getElem? (i := 1675) (by decide +kernel), List.mem_of_getElem? (i := 1676) (by decide +kernel)⟩
theorem lw_p92 : lw_okq (⟨"MiceEngineModel", "goes", "(III)Z"⟩, 85) := ⟨⟨by decide +kernel, by decide +kernel⟩, List.mem_of_getElem? (i := 1266) (by decide +kernel), List.mem_of_getElem? (i := 1683) (by decide +kernel), List.mem_of_getElem? (i := 1684) (by decide +kernel)⟩
theorem lw_p93 : lw_okq (⟨"MiceEngineModel", "isLost", "(II)Z"⟩, 85) := ⟨⟨by decide +kernel, by decide +kernel⟩, List.mem_of_getElem? (i := 1266) (by decide +kernel), List.mem_of_getElem? (i := 1687) (by decide +kernel), List.mem_of_getElem? (i := 1688) (by decide +kernel)⟩
theorem lw_p94 : lw_okq (⟨"MiceEngineModel", "isTrial", "(I)Z"⟩, 85) := ⟨⟨by decide +kernel, by decide +kernel⟩, List.mem_of_getElem? (i := 1266) (by decide +kernel), List.mem_of_getElem? (i := 1691) (by decide +kernel), List.mem_of_getElem? (i := 1692) (by decide +kernel)⟩
theorem lw_p95 : lw_okq (⟨"MiceEngineModel", "takesRow", "(II)V"⟩, 85) := ⟨⟨by decide +kernel, by decide +kernel⟩, List.mem_of_getElem? (i := 1266) (by decide +kernel), List.mem_of_getElem? (i := 1695) (by decide +kernel), List.mem_of_getElem? (i := 1696) (by decide +kernel)⟩
def lw_privs_6 : List (MethodName × Nat) := [(⟨"MiceEngineModel", "first", "(I)V"⟩, 85), (⟨"MiceEngineModel", "value", "()V"⟩, 85), (⟨"MiceEngineModel", "signed", "()I"⟩, 85), (⟨"MiceEngineModel", "leads", "(II)V"⟩, 85), (⟨"MiceEngineModel", "second", "(I)V"⟩, 85), (⟨"MiceEngineModel", "firstWith", "(IIJ)I"⟩, 85), (⟨"MiceEngineModel", "tellTrial", "()V"⟩, 85), (⟨"MiceEngineModel", "isNumber", "()Z"⟩, 85), (⟨"MiceEngineModel", "isRow", "(I)Z"⟩, 85), (⟨"MiceEngineModel", "linesOf", "(I)I"⟩, 85), (⟨"MiceEngineModel", "isLine", "(II)Z"⟩, 85), (⟨"MiceEngineModel", "lineAt", "(II)I"⟩, 85), (⟨"MiceEngineModel", "goes", "(III)Z"⟩, 85), (⟨"MiceEngineModel", "isLost", "(II)Z"⟩, 85), (⟨"MiceEngineModel", "isTrial", "(I)Z"⟩, 85), (⟨"MiceEngineModel", "takesRow", "(II)V"⟩, 85)]
theorem lw_r6 : ∀ q ∈ lw_privs_6, lw_okq q := List.forall_mem_cons.mpr ⟨lw_p80, List.forall_mem_cons.mpr ⟨lw_p81, List.forall_mem_cons.mpr ⟨lw_p82, List.forall_mem_cons.mpr ⟨lw_p83, List.forall_mem_cons.mpr ⟨lw_p84, List.forall_mem_cons.mpr ⟨lw_p85, List.forall_mem_cons.mpr ⟨lw_p86, List.forall_mem_cons.mpr ⟨lw_p87, List.forall_mem_cons.mpr ⟨lw_p88, List.forall_mem_cons.mpr ⟨lw_p89, List.forall_mem_cons.mpr ⟨lw_p90, List.forall_mem_cons.mpr ⟨lw_p91, List.forall_mem_cons.mpr ⟨lw_p92, List.forall_mem_cons.mpr ⟨lw_p93, List.forall_mem_cons.mpr ⟨lw_p94, List.forall_mem_cons.mpr ⟨lw_p95, fun _ h => absurd h List.not_mem_nil⟩⟩⟩⟩⟩⟩⟩⟩⟩⟩⟩⟩⟩⟩⟩⟩
theorem lw_p96 : lw_okq (⟨"MiceEngineModel", "runs", "(I)V"⟩, 85) := ⟨⟨by decide +kernel, by decide +kernel⟩, List.mem_of_getElem? (i := 1266) (by decide +kernel), List.mem_of_getElem? (i := 1699) (by decide +kernel), List.mem_of_getElem? (i := 1700) (by decide +kernel)⟩
theorem lw_p97 : lw_okq (⟨"MiceEngineModel", "topLines", "()I"⟩, 85) := ⟨⟨by decide +kernel, by decide +kernel⟩, List.mem_of_getElem? (i := 1266) (by decide +kernel), List.mem_of_getElem? (i := 1703) (by decide +kernel), List.mem_of_getElem? (i := 1704) (by decide +kernel)⟩
theorem lw_p98 : lw_okq (⟨"MiceEngineModel", "isThere", "(I)Z"⟩, 85) := ⟨⟨by decide +kernel, by decide +kernel⟩, List.mem_of_getElem? (i := 1266) (by decide +kernel), List.mem_of_getElem? (i := 1707) (by decide +kernel), List.mem_of_getElem? (i := 1708) (by decide +kernel)⟩
theorem lw_p99 : lw_okq (⟨"MiceEngineModel", "topLine", "(I)I"⟩, 85) := ⟨⟨by decide +kernel, by decide +kernel⟩, List.mem_of_getElem? (i := 1266) (by decide +kernel), List.mem_of_getElem? (i := 1711) (by decide +kernel), List.mem_of_getElem? (i := 1712) (by decide +kernel)⟩
theorem lw_p100 : lw_okq (⟨"MiceEngineModel", "acts", "(I)V"⟩, 85) := ⟨⟨by decide +kernel, by decide +kernel⟩, List.mem_of_getElem? (i := 1266) (by decide +kernel), List.mem_of_getElem? (i := 1715) (by decide +kernel), List.mem_of_getElem? (i := 1716) (by decide +kernel)⟩
theorem lw_p101 : lw_okq (⟨"MiceEngineModel", "valueOf", "(II)I"⟩, 85) := ⟨⟨by decide +kernel, by decide +kernel⟩, List.mem_of_getElem? (i := 1266) (by decide +kernel), List.mem_of_getElem? (i := 1719) (by decide +kernel), List.mem_of_getElem? (i := 1720) (by decide +kernel)⟩
theorem lw_p102 : lw_okq (⟨"MiceEngineModel", "jumps", "(J)V"⟩, 85) := ⟨⟨by decide +kernel, by decide +kernel⟩, List.mem_of_getElem? (i := 1266) (by decide +kernel), List.mem_of_getElem? (i := 1723) (by decide +kernel), List.mem_of_getElem? (i := 1724) (by decide +kernel)⟩
theorem lw_p103 : lw_okq (⟨"MiceEngineModel", "fillBase", "(I)V"⟩, 85) := ⟨⟨by decide +kernel, by decide +kernel⟩, List.mem_of_getElem? (i := 1266) (by decide +kernel), List.mem_of_getElem? (i := 1744) (by decide +kernel), List.mem_of_getElem? (i := 1745) (by decide +kernel)⟩
theorem lw_p104 : lw_okq (⟨"MiceEngineModel", "unlike", "()I"⟩, 85) := ⟨⟨by decide +kernel, by decide +kernel⟩, List.mem_of_getElem? (i := 1266) (by decide +kernel), List.mem_of_getElem? (i := 1748) (by decide +kernel), List.mem_of_getElem? (i := 1749) (by decide +kernel)⟩
theorem lw_p105 : lw_okq (⟨"MiceEngineModel", "isAsBase", "(I)Z"⟩, 85) := ⟨⟨by decide +kernel, by decide +kernel⟩, List.mem_of_getElem? (i := 1266) (by decide +kernel), List.mem_of_getElem? (i := 1752) (by decide +kernel), List.mem_of_getElem? (i := 1753) (by decide +kernel)⟩
theorem lw_p106 : lw_okq (⟨"MiceEngineModel", "isSame", "(II)Z"⟩, 85) := ⟨⟨by decide +kernel, by decide +kernel⟩, List.mem_of_getElem? (i := 1266) (by decide +kernel), List.mem_of_getElem? (i := 1760) (by decide +kernel), List.mem_of_getElem? (i := 1761) (by decide +kernel)⟩
theorem lw_p107 : lw_okq (⟨"MiceEngineModel", "breaksOf", "(II)I"⟩, 85) := ⟨⟨by decide +kernel, by decide +kernel⟩, List.mem_of_getElem? (i := 1266) (by decide +kernel), List.mem_of_getElem? (i := 1768) (by decide +kernel), List.mem_of_getElem? (i := 1769) (by decide +kernel)⟩
theorem lw_p108 : lw_okq (⟨"MiceEngineModel", "idleOf", "(I)I"⟩, 85) := ⟨⟨by decide +kernel, by decide +kernel⟩, List.mem_of_getElem? (i := 1266) (by decide +kernel), List.mem_of_getElem? (i := 1783) (by decide +kernel), List.mem_of_getElem? (i := 1784) (by decide +kernel)⟩
theorem lw_p109 : lw_okq (⟨"MiceEngineModel", "harmOf", "(II)I"⟩, 85) := ⟨⟨by decide +kernel, by decide +kernel⟩, List.mem_of_getElem? (i := 1266) (by decide +kernel), List.mem_of_getElem? (i := 1791) (by decide +kernel), List.mem_of_getElem? (i := 1792) (by decide +kernel)⟩
theorem lw_p110 : lw_okq (⟨"MiceEngineModel", "takesTwice", "(III)V"⟩, 85) := ⟨⟨by decide +kernel, by decide +kernel⟩, List.mem_of_getElem? (i := 1266) (by decide +kernel), List.mem_of_getElem? (i := 1807) (by decide +kernel), List.mem_of_getElem? (i := 1808) (by decide +kernel)⟩
theorem lw_p111 : lw_okq (⟨"MiceEngineModel", "nextLost", "(IIII)I"⟩, 85) := ⟨⟨by decide +kernel, by decide +kernel⟩, List.mem_of_getElem? (i := 1266) (by decide +kernel), List.mem_of_getElem? (i := 1819) (by decide +kernel), List.mem_of_getElem? (i := 1820) (by decide +kernel)⟩
def lw_privs_7 : List (MethodName × Nat) := [(⟨"MiceEngineModel", "runs", "(I)V"⟩, 85), (⟨"MiceEngineModel", "topLines", "()I"⟩, 85), (⟨"MiceEngineModel", "isThere", "(I)Z"⟩, 85), (⟨"MiceEngineModel", "topLine", "(I)I"⟩, 85), (⟨"MiceEngineModel", "acts", "(I)V"⟩, 85), (⟨"MiceEngineModel", "valueOf", "(II)I"⟩, 85), (⟨"MiceEngineModel", "jumps", "(J)V"⟩, 85), (⟨"MiceEngineModel", "fillBase", "(I)V"⟩, 85), (⟨"MiceEngineModel", "unlike", "()I"⟩, 85), (⟨"MiceEngineModel", "isAsBase", "(I)Z"⟩, 85), (⟨"MiceEngineModel", "isSame", "(II)Z"⟩, 85), (⟨"MiceEngineModel", "breaksOf", "(II)I"⟩, 85), (⟨"MiceEngineModel", "idleOf", "(I)I"⟩, 85), (⟨"MiceEngineModel", "harmOf", "(II)I"⟩, 85), (⟨"MiceEngineModel", "takesTwice", "(III)V"⟩, 85), (⟨"MiceEngineModel", "nextLost", "(IIII)I"⟩, 85)]
theorem lw_r7 : ∀ q ∈ lw_privs_7, lw_okq q := List.forall_mem_cons.mpr ⟨lw_p96, List.forall_mem_cons.mpr ⟨lw_p97, List.forall_mem_cons.mpr ⟨lw_p98, List.forall_mem_cons.mpr ⟨lw_p99, List.forall_mem_cons.mpr ⟨lw_p100, List.forall_mem_cons.mpr ⟨lw_p101, List.forall_mem_cons.mpr ⟨lw_p102, List.forall_mem_cons.mpr ⟨lw_p103, List.forall_mem_cons.mpr ⟨lw_p104, List.forall_mem_cons.mpr ⟨lw_p105, List.forall_mem_cons.mpr ⟨lw_p106, List.forall_mem_cons.mpr ⟨lw_p107, List.forall_mem_cons.mpr ⟨lw_p108, List.forall_mem_cons.mpr ⟨lw_p109, List.forall_mem_cons.mpr ⟨lw_p110, List.forall_mem_cons.mpr ⟨lw_p111, fun _ h => absurd h List.not_mem_nil⟩⟩⟩⟩⟩⟩⟩⟩⟩⟩⟩⟩⟩⟩⟩⟩
theorem lw_p112 : lw_okq (⟨"MiceEngineModel", "isShort", "(I)Z"⟩, 85) := ⟨⟨by decide +kernel, by decide +kernel⟩, List.mem_of_getElem? (i := 1266) (by decide +kernel), List.mem_of_getElem? (i := 1834) (by decide +kernel), List.mem_of_getElem? (i := 1835) (by decide +kernel)⟩
theorem lw_p113 : lw_okq (⟨"MiceEngineModel", "fillSets", "(I)V"⟩, 85) := ⟨⟨by decide +kernel, by decide +kernel⟩, List.mem_of_getElem? (i := 1266) (by decide +kernel), List.mem_of_getElem? (i := 1838) (by decide +kernel), List.mem_of_getElem? (i := 1839) (by decide +kernel)⟩
theorem lw_p114 : lw_okq (⟨"MiceEngineModel", "waysOf", "(II)J"⟩, 85) := ⟨⟨by decide +kernel, by decide +kernel⟩, List.mem_of_getElem? (i := 1266) (by decide +kernel), List.mem_of_getElem? (i := 1848) (by decide +kernel), List.mem_of_getElem? (i := 1849) (by decide +kernel)⟩
theorem lw_p115 : lw_okq (⟨"MiceEngineModel", "doesTable", "()Z"⟩, 85) := ⟨⟨by decide +kernel, by decide +kernel⟩, List.mem_of_getElem? (i := 1266) (by decide +kernel), List.mem_of_getElem? (i := 1870) (by decide +kernel), List.mem_of_getElem? (i := 1871) (by decide +kernel)⟩
theorem lw_p116 : lw_okq (⟨"MiceEngineModel", "canSeek", "(III)Z"⟩, 85) := ⟨⟨by decide +kernel, by decide +kernel⟩, List.mem_of_getElem? (i := 1266) (by decide +kernel), List.mem_of_getElem? (i := 1878) (by decide +kernel), List.mem_of_getElem? (i := 1879) (by decide +kernel)⟩
theorem lw_p117 : lw_okq (⟨"MiceEngineModel", "seeks", "(III)I"⟩, 85) := ⟨⟨by decide +kernel, by decide +kernel⟩, List.mem_of_getElem? (i := 1266) (by decide +kernel), List.mem_of_getElem? (i := 1882) (by decide +kernel), List.mem_of_getElem? (i := 1883) (by decide +kernel)⟩
theorem lw_p118 : lw_okq (⟨"MiceEngineModel", "isIt", "(III)Z"⟩, 85) := ⟨⟨by decide +kernel, by decide +kernel⟩, List.mem_of_getElem? (i := 1266) (by decide +kernel), List.mem_of_getElem? (i := 1886) (by decide +kernel), List.mem_of_getElem? (i := 1887) (by decide +kernel)⟩
theorem lw_p119 : lw_okq (⟨"MiceEngineModel", "nextRow", "(II)Z"⟩, 85) := ⟨⟨by decide +kernel, by decide +kernel⟩, List.mem_of_getElem? (i := 1266) (by decide +kernel), List.mem_of_getElem? (i := 1890) (by decide +kernel), List.mem_of_getElem? (i := 1891) (by decide +kernel)⟩
theorem lw_p120 : lw_okq (⟨"MiceEngineModel", "copiesLine", "(II)V"⟩, 85) := ⟨⟨by decide +kernel, by decide +kernel⟩, List.mem_of_getElem? (i := 1266) (by decide +kernel), List.mem_of_getElem? (i := 1902) (by decide +kernel), List.mem_of_getElem? (i := 1903) (by decide +kernel)⟩
theorem lw_p121 : lw_okq (⟨"MiceEngineModel", "canSuspect", "(III)Z"⟩, 85) := ⟨⟨by decide +kernel, by decide +kernel⟩, List.mem_of_getElem? (i := 1266) (by decide +kernel), List.mem_of_getElem? (i := 1922) (by decide +kernel), List.mem_of_getElem? (i := 1923) (by decide +kernel)⟩
theorem lw_p122 : lw_okq (⟨"MiceEngineModel", "fillSuspects", "(III)V"⟩, 85) := ⟨⟨by decide +kernel, by decide +kernel⟩, List.mem_of_getElem? (i := 1266) (by decide +kernel), List.mem_of_getElem? (i := 1926) (by decide +kernel), List.mem_of_getElem? (i := 1927) (by decide +kernel)⟩
theorem lw_p123 : lw_okq (⟨"MiceEngineModel", "canBe", "(III)Z"⟩, 85) := ⟨⟨by decide +kernel, by decide +kernel⟩, List.mem_of_getElem? (i := 1266) (by decide +kernel), List.mem_of_getElem? (i := 1930) (by decide +kernel), List.mem_of_getElem? (i := 1931) (by decide +kernel)⟩
theorem lw_p124 : lw_okq (⟨"MiceEngineModel", "isAsSeen", "(I)Z"⟩, 85) := ⟨⟨by decide +kernel, by decide +kernel⟩, List.mem_of_getElem? (i := 1266) (by decide +kernel), List.mem_of_getElem? (i := 1934) (by decide +kernel), List.mem_of_getElem? (i := 1935) (by decide +kernel)⟩
theorem lw_p125 : lw_okq (⟨"MiceEngineModel", "fillGroups", "(I)V"⟩, 85) := ⟨⟨by decide +kernel, by decide +kernel⟩, List.mem_of_getElem? (i := 1266) (by decide +kernel), List.mem_of_getElem? (i := 1946) (by decide +kernel), List.mem_of_getElem? (i := 1947) (by decide +kernel)⟩
theorem lw_p126 : lw_okq (⟨"MiceEngineModel", "didSame", "(II)Z"⟩, 85) := ⟨⟨by decide +kernel, by decide +kernel⟩, List.mem_of_getElem? (i := 1266) (by decide +kernel), List.mem_of_getElem? (i := 1950) (by decide +kernel), List.mem_of_getElem? (i := 1951) (by decide +kernel)⟩
theorem lw_p127 : lw_okq (⟨"MiceEngineModel", "greatest", "(I)I"⟩, 85) := ⟨⟨by decide +kernel, by decide +kernel⟩, List.mem_of_getElem? (i := 1266) (by decide +kernel), List.mem_of_getElem? (i := 1954) (by decide +kernel), List.mem_of_getElem? (i := 1955) (by decide +kernel)⟩
def lw_privs_8 : List (MethodName × Nat) := [(⟨"MiceEngineModel", "isShort", "(I)Z"⟩, 85), (⟨"MiceEngineModel", "fillSets", "(I)V"⟩, 85), (⟨"MiceEngineModel", "waysOf", "(II)J"⟩, 85), (⟨"MiceEngineModel", "doesTable", "()Z"⟩, 85), (⟨"MiceEngineModel", "canSeek", "(III)Z"⟩, 85), (⟨"MiceEngineModel", "seeks", "(III)I"⟩, 85), (⟨"MiceEngineModel", "isIt", "(III)Z"⟩, 85), (⟨"MiceEngineModel", "nextRow", "(II)Z"⟩, 85), (⟨"MiceEngineModel", "copiesLine", "(II)V"⟩, 85), (⟨"MiceEngineModel", "canSuspect", "(III)Z"⟩, 85), (⟨"MiceEngineModel", "fillSuspects", "(III)V"⟩, 85), (⟨"MiceEngineModel", "canBe", "(III)Z"⟩, 85), (⟨"MiceEngineModel", "isAsSeen", "(I)Z"⟩, 85), (⟨"MiceEngineModel", "fillGroups", "(I)V"⟩, 85), (⟨"MiceEngineModel", "didSame", "(II)Z"⟩, 85), (⟨"MiceEngineModel", "greatest", "(I)I"⟩, 85)]
theorem lw_r8 : ∀ q ∈ lw_privs_8, lw_okq q := List.forall_mem_cons.mpr ⟨lw_p112, List.forall_mem_cons.mpr ⟨lw_p113, List.forall_mem_cons.mpr ⟨lw_p114, List.forall_mem_cons.mpr ⟨lw_p115, List.forall_mem_cons.mpr ⟨lw_p116, List.forall_mem_cons.mpr ⟨lw_p117, List.forall_mem_cons.mpr ⟨lw_p118, List.forall_mem_cons.mpr ⟨lw_p119, List.forall_mem_cons.mpr ⟨lw_p120, List.forall_mem_cons.mpr ⟨lw_p121, List.forall_mem_cons.mpr ⟨lw_p122, List.forall_mem_cons.mpr ⟨lw_p123, List.forall_mem_cons.mpr ⟨lw_p124, List.forall_mem_cons.mpr ⟨lw_p125, List.forall_mem_cons.mpr ⟨lw_p126, List.forall_mem_cons.mpr ⟨lw_p127, fun _ h => absurd h List.not_mem_nil⟩⟩⟩⟩⟩⟩⟩⟩⟩⟩⟩⟩⟩⟩⟩⟩
theorem lw_p128 : lw_okq (⟨"MiceEngineModel", "isDone", "(I)Z"⟩, 85) := ⟨⟨by decide +kernel, by decide +kernel⟩, List.mem_of_getElem? (i := 1266) (by decide +kernel), List.mem_of_getElem? (i := 1962) (by decide +kernel), List.mem_of_getElem? (i := 1963) (by decide +kernel)⟩
theorem lw_p129 : lw_okq (⟨"MiceEngineModel", "inOne", "(I)Z"⟩, 85) := ⟨⟨by decide +kernel, by decide +kernel⟩, List.mem_of_getElem? (i := 1266) (by decide +kernel), List.mem_of_getElem? (i := 1966) (by decide +kernel), List.mem_of_getElem? (i := 1967) (by decide +kernel)⟩
theorem lw_p130 : lw_okq (⟨"MiceEngineModel", "splits", "(II)Z"⟩, 85) := ⟨⟨by decide +kernel, by decide +kernel⟩, List.mem_of_getElem? (i := 1266) (by decide +kernel), List.mem_of_getElem? (i := 1970) (by decide +kernel), List.mem_of_getElem? (i := 1971) (by decide +kernel)⟩
theorem lw_p131 : lw_okq (⟨"MiceEngineModel", "parts", "(III)Z"⟩, 85) := ⟨⟨by decide +kernel, by decide +kernel⟩, List.mem_of_getElem? (i := 1266) (by decide +kernel), List.mem_of_getElem? (i := 1974) (by decide +kernel), List.mem_of_getElem? (i := 1975) (by decide +kernel)⟩
theorem lw_p132 : lw_okq (⟨"MiceEngineModel", "inTwo", "(I)Z"⟩, 85) := ⟨⟨by decide +kernel, by decide +kernel⟩, List.mem_of_getElem? (i := 1266) (by decide +kernel), List.mem_of_getElem? (i := 1978) (by decide +kernel), List.mem_of_getElem? (i := 1979) (by decide +kernel)⟩
theorem lw_p133 : lw_okq (⟨"MiceEngineModel", "inThree", "(I)Z"⟩, 85) := ⟨⟨by decide +kernel, by decide +kernel⟩, List.mem_of_getElem? (i := 1266) (by decide +kernel), List.mem_of_getElem? (i := 1982) (by decide +kernel), List.mem_of_getElem? (i := 1983) (by decide +kernel)⟩
theorem lw_p134 : lw_okq (⟨"MiceEngineModel", "inFour", "(I)Z"⟩, 85) := ⟨⟨by decide +kernel, by decide +kernel⟩, List.mem_of_getElem? (i := 1266) (by decide +kernel), List.mem_of_getElem? (i := 1986) (by decide +kernel), List.mem_of_getElem? (i := 1987) (by decide +kernel)⟩
theorem lw_p135 : lw_okq (⟨"MiceEngineModel", "copiesArea", "(II)V"⟩, 85) := ⟨⟨by decide +kernel, by decide +kernel⟩, List.mem_of_getElem? (i := 1266) (by decide +kernel), List.mem_of_getElem? (i := 1994) (by decide +kernel), List.mem_of_getElem? (i := 1995) (by decide +kernel)⟩
def lw_privs_9 : List (MethodName × Nat) := [(⟨"MiceEngineModel", "isDone", "(I)Z"⟩, 85), (⟨"MiceEngineModel", "inOne", "(I)Z"⟩, 85), (⟨"MiceEngineModel", "splits", "(II)Z"⟩, 85), (⟨"MiceEngineModel", "parts", "(III)Z"⟩, 85), (⟨"MiceEngineModel", "inTwo", "(I)Z"⟩, 85), (⟨"MiceEngineModel", "inThree", "(I)Z"⟩, 85), (⟨"MiceEngineModel", "inFour", "(I)Z"⟩, 85), (⟨"MiceEngineModel", "copiesArea", "(II)V"⟩, 85)]
theorem lw_r9 : ∀ q ∈ lw_privs_9, lw_okq q := List.forall_mem_cons.mpr ⟨lw_p128, List.forall_mem_cons.mpr ⟨lw_p129, List.forall_mem_cons.mpr ⟨lw_p130, List.forall_mem_cons.mpr ⟨lw_p131, List.forall_mem_cons.mpr ⟨lw_p132, List.forall_mem_cons.mpr ⟨lw_p133, List.forall_mem_cons.mpr ⟨lw_p134, List.forall_mem_cons.mpr ⟨lw_p135, fun _ h => absurd h List.not_mem_nil⟩⟩⟩⟩⟩⟩⟩⟩
def lw_privs : List (MethodName × Nat) := lw_privs_1 ++ (lw_privs_2 ++ (lw_privs_3 ++ (lw_privs_4 ++ (lw_privs_5 ++ (lw_privs_6 ++ (lw_privs_7 ++ (lw_privs_8 ++ (lw_privs_9))))))))
def lw_tbl : List Cond := k2_sels lw_privs ++ tables_1
theorem lw_privs_ok : ∀ q ∈ lw_privs, lw_okq q := by
  show ∀ q ∈ lw_privs_1 ++ (lw_privs_2 ++ (lw_privs_3 ++ (lw_privs_4 ++ (lw_privs_5 ++ (lw_privs_6 ++ (lw_privs_7 ++ (lw_privs_8 ++ (lw_privs_9)))))))), lw_okq q
  exact List.forall_mem_append.mpr ⟨lw_r1, List.forall_mem_append.mpr ⟨lw_r2, List.forall_mem_append.mpr ⟨lw_r3, List.forall_mem_append.mpr ⟨lw_r4, List.forall_mem_append.mpr ⟨lw_r5, List.forall_mem_append.mpr ⟨lw_r6, List.forall_mem_append.mpr ⟨lw_r7, List.forall_mem_append.mpr ⟨lw_r8, lw_r9⟩⟩⟩⟩⟩⟩⟩⟩
def RX0 : String := "MiceEngine$Deed"
def TX0 : u_T := fun k => match k with
  | 0 => ("MiceEngine$Deed", "numbers", "[I", true)
  | 1 => ("MiceEngine$Deed", "size", "I", false)
  | 2 => ("MiceEngine$Deed", "stop", "I", false)
  | _ => ("MiceEngine$Deed", "met", "I", false)
def tyX0 : Nat → FieldType := fun k => match k with
  | 0 => .array .int
  | 1 => .int
  | 2 => .int
  | _ => .int
theorem nmX0 : ∀ a, a < 4 → ∀ b, b < 4 → a ≠ b → (TX0 a).2.1 ≠ (TX0 b).2.1 := by decide +kernel
theorem tyX0_ok : ∀ k, k < 4 → parseFieldDescriptor (TX0 k).2.2.1 = some (tyX0 k) := by decide +kernel
abbrev cX0_init : ByteArray := prog_2_method_1_code
def yX0_init : MethodName := ⟨RX0, "<init>", "()V"⟩
abbrev cX0_begin : ByteArray := prog_2_method_2_code
def yX0_begin : MethodName := ⟨RX0, "begin", "()V"⟩
abbrev cX0_copy : ByteArray := prog_2_method_3_code
def yX0_copy : MethodName := ⟨RX0, "copy", "(LMiceEngine$Deed;)V"⟩
abbrev cX0_isLike : ByteArray := prog_2_method_4_code
def yX0_isLike : MethodName := ⟨RX0, "isLike", "(LMiceEngine$Deed;)Z"⟩
def RX1 : String := "MiceEngine$Line"
def TX1 : u_T := fun k => match k with
  | 0 => ("MiceEngine$Line", "name", "J", false)
  | 1 => ("MiceEngine$Line", "order", "I", false)
  | 2 => ("MiceEngine$Line", "tokens", "I", false)
  | 3 => ("MiceEngine$Line", "counter", "I", false)
  | 4 => ("MiceEngine$Line", "kind", "I", false)
  | 5 => ("MiceEngine$Line", "value", "I", false)
  | 6 => ("MiceEngine$Line", "firstKind", "I", false)
  | 7 => ("MiceEngine$Line", "first", "I", false)
  | 8 => ("MiceEngine$Line", "test", "I", false)
  | 9 => ("MiceEngine$Line", "label", "J", false)
  | _ => ("MiceEngine$Line", "called", "I", false)
def tyX1 : Nat → FieldType := fun k => match k with
  | 0 => .long
  | 1 => .int
  | 2 => .int
  | 3 => .int
  | 4 => .int
  | 5 => .int
  | 6 => .int
  | 7 => .int
  | 8 => .int
  | 9 => .long
  | _ => .int
theorem nmX1 : ∀ a, a < 11 → ∀ b, b < 11 → a ≠ b → (TX1 a).2.1 ≠ (TX1 b).2.1 := by decide +kernel
theorem tyX1_ok : ∀ k, k < 11 → parseFieldDescriptor (TX1 k).2.2.1 = some (tyX1 k) := by decide +kernel
abbrev cX1_init : ByteArray := prog_3_method_1_code
def yX1_init : MethodName := ⟨RX1, "<init>", "()V"⟩
def RX2 : String := "MiceEngine$Losses"
def TX2 : u_T := fun k => match k with
  | 0 => ("MiceEngine$Losses", "rows", "LMiceEngine$Rows;", true)
  | 1 => ("MiceEngine$Losses", "trials", "LMiceEngine$Trials;", true)
  | 2 => ("MiceEngine$Losses", "machine", "LMiceEngine$Machine;", true)
  | 3 => ("MiceEngine$Losses", "whole", "[LMiceEngine$Deed;", true)
  | 4 => ("MiceEngine$Losses", "reachedIn", "[I", true)
  | 5 => ("MiceEngine$Losses", "isKnown", "[Z", true)
  | _ => ("MiceEngine$Losses", "doubled", "LMiceEngine$Row;", true)
def tyX2 : Nat → FieldType := fun k => match k with
  | 0 => .object "MiceEngine$Rows"
  | 1 => .object "MiceEngine$Trials"
  | 2 => .object "MiceEngine$Machine"
  | 3 => .array (.object "MiceEngine$Deed")
  | 4 => .array .int
  | 5 => .array .boolean
  | _ => .object "MiceEngine$Row"
theorem nmX2 : ∀ a, a < 7 → ∀ b, b < 7 → a ≠ b → (TX2 a).2.1 ≠ (TX2 b).2.1 := by decide +kernel
theorem tyX2_ok : ∀ k, k < 7 → parseFieldDescriptor (TX2 k).2.2.1 = some (tyX2 k) := by decide +kernel
abbrev cX2_init : ByteArray := prog_4_method_1_code
def yX2_init : MethodName := ⟨RX2, "<init>", "(LMiceEngine$Rows;LMiceEngine$Trials;LMiceEngine$Machine;)V"⟩
abbrev cX2_clear : ByteArray := prog_4_method_2_code
def yX2_clear : MethodName := ⟨RX2, "clear", "()V"⟩
abbrev cX2_know : ByteArray := prog_4_method_3_code
def yX2_know : MethodName := ⟨RX2, "know", "(I)V"⟩
abbrev cX2_isOther : ByteArray := prog_4_method_4_code
def yX2_isOther : MethodName := ⟨RX2, "isOther", "(III)Z"⟩
abbrev cX2_firstOther : ByteArray := prog_4_method_5_code
def yX2_firstOther : MethodName := ⟨RX2, "firstOther", "(II)I"⟩
abbrev cX2_firstBroken : ByteArray := prog_4_method_6_code
def yX2_firstBroken : MethodName := ⟨RX2, "firstBroken", "(II)I"⟩
abbrev cX2_idleLines : ByteArray := prog_4_method_7_code
def yX2_idleLines : MethodName := ⟨RX2, "idleLines", "(I)I"⟩
abbrev cX2_harmOf : ByteArray := prog_4_method_8_code
def yX2_harmOf : MethodName := ⟨RX2, "harmOf", "(II)I"⟩
abbrev cX2_worstLine : ByteArray := prog_4_method_9_code
def yX2_worstLine : MethodName := ⟨RX2, "worstLine", "(I)I"⟩
abbrev cX2_firstPair : ByteArray := prog_4_method_10_code
def yX2_firstPair : MethodName := ⟨RX2, "firstPair", "(I)I"⟩
abbrev cX2_mendingLines : ByteArray := prog_4_method_11_code
def yX2_mendingLines : MethodName := ⟨RX2, "mendingLines", "(I)I"⟩
abbrev cX2_doubledDoesAlike : ByteArray := prog_4_method_12_code
def yX2_doubledDoesAlike : MethodName := ⟨RX2, "doubledDoesAlike", "(I)Z"⟩
abbrev cX2_reachedLines : ByteArray := prog_4_method_13_code
def yX2_reachedLines : MethodName := ⟨RX2, "reachedLines", "(I)I"⟩
abbrev cX2_lifeBy : ByteArray := prog_4_method_14_code
def yX2_lifeBy : MethodName := ⟨RX2, "lifeBy", "(III)I"⟩
abbrev cX2_victim : ByteArray := prog_4_method_15_code
def yX2_victim : MethodName := ⟨RX2, "victim", "(IIII)I"⟩
abbrev cX2_lineThere : ByteArray := prog_4_method_16_code
def yX2_lineThere : MethodName := ⟨RX2, "lineThere", "(II)I"⟩
abbrev cX2_longestThere : ByteArray := prog_4_method_17_code
def yX2_longestThere : MethodName := ⟨RX2, "longestThere", "(LMiceEngine$Row;I)I"⟩
def RX3 : String := "MiceEngine$Machine"
def TX3 : u_T := fun k => match k with
  | 0 => ("MiceEngine$Machine", "deed", "LMiceEngine$Deed;", true)
  | 1 => ("MiceEngine$Machine", "counters", "[I", true)
  | 2 => ("MiceEngine$Machine", "trace", "[I", true)
  | 3 => ("MiceEngine$Machine", "steps", "I", false)
  | 4 => ("MiceEngine$Machine", "done", "I", false)
  | 5 => ("MiceEngine$Machine", "deepest", "I", false)
  | 6 => ("MiceEngine$Machine", "rows", "LMiceEngine$Rows;", true)
  | 7 => ("MiceEngine$Machine", "trials", "LMiceEngine$Trials;", true)
  | 8 => ("MiceEngine$Machine", "open", "[LMiceEngine$Row;", true)
  | 9 => ("MiceEngine$Machine", "nextLines", "[I", true)
  | 10 => ("MiceEngine$Machine", "depth", "I", false)
  | 11 => ("MiceEngine$Machine", "lost", "I", false)
  | 12 => ("MiceEngine$Machine", "trial", "I", false)
  | 13 => ("MiceEngine$Machine", "taken", "I", false)
  | _ => ("MiceEngine$Machine", "aim", "LMiceEngine$Deed;", false)
def tyX3 : Nat → FieldType := fun k => match k with
  | 0 => .object "MiceEngine$Deed"
  | 1 => .array .int
  | 2 => .array .int
  | 3 => .int
  | 4 => .int
  | 5 => .int
  | 6 => .object "MiceEngine$Rows"
  | 7 => .object "MiceEngine$Trials"
  | 8 => .array (.object "MiceEngine$Row")
  | 9 => .array .int
  | 10 => .int
  | 11 => .int
  | 12 => .int
  | 13 => .int
  | _ => .object "MiceEngine$Deed"
theorem nmX3 : ∀ a, a < 15 → ∀ b, b < 15 → a ≠ b → (TX3 a).2.1 ≠ (TX3 b).2.1 := by decide +kernel
theorem tyX3_ok : ∀ k, k < 15 → parseFieldDescriptor (TX3 k).2.2.1 = some (tyX3 k) := by decide +kernel
abbrev cX3_init : ByteArray := prog_5_method_1_code
def yX3_init : MethodName := ⟨RX3, "<init>", "(LMiceEngine$Rows;LMiceEngine$Trials;)V"⟩
abbrev cX3_runs : ByteArray := prog_5_method_2_code
def yX3_runs : MethodName := ⟨RX3, "runs", "(LMiceEngine$Row;IILMiceEngine$Deed;)V"⟩
abbrev cX3_begin : ByteArray := prog_5_method_3_code
def yX3_begin : MethodName := ⟨RX3, "begin", "(LMiceEngine$Row;IILMiceEngine$Deed;)V"⟩
abbrev cX3_comesToLine : ByteArray := prog_5_method_4_code
def yX3_comesToLine : MethodName := ⟨RX3, "comesToLine", "()Z"⟩
abbrev cX3_doesLine : ByteArray := prog_5_method_5_code
def yX3_doesLine : MethodName := ⟨RX3, "doesLine", "()Z"⟩
abbrev cX3_valueOf : ByteArray := prog_5_method_6_code
def yX3_valueOf : MethodName := ⟨RX3, "valueOf", "(II)I"⟩
abbrev cX3_holds : ByteArray := prog_5_method_7_code
def yX3_holds : MethodName := ⟨RX3, "holds", "(III)Z"⟩
abbrev cX3_jump : ByteArray := prog_5_method_8_code
def yX3_jump : MethodName := ⟨RX3, "jump", "(I)V"⟩
abbrev cX3_enter : ByteArray := prog_5_method_9_code
def yX3_enter : MethodName := ⟨RX3, "enter", "(I)V"⟩
abbrev cX3_putsOut : ByteArray := prog_5_method_10_code
def yX3_putsOut : MethodName := ⟨RX3, "putsOut", "(I)Z"⟩
abbrev cX3_reckons : ByteArray := prog_5_method_11_code
def yX3_reckons : MethodName := ⟨RX3, "reckons", "(LMiceEngine$Line;I)Z"⟩
def RX4 : String := "MiceEngine$Orders"
def TX4 : u_T := fun k => match k with
  | 0 => ("MiceEngine$Orders", "rows", "LMiceEngine$Rows;", true)
  | 1 => ("MiceEngine$Orders", "losses", "LMiceEngine$Losses;", true)
  | 2 => ("MiceEngine$Orders", "waysTo", "[I", true)
  | 3 => ("MiceEngine$Orders", "waysBySize", "[J", true)
  | 4 => ("MiceEngine$Orders", "waysRow", "I", false)
  | 5 => ("MiceEngine$Orders", "coreRow", "I", false)
  | _ => ("MiceEngine$Orders", "coreLines", "I", false)
def tyX4 : Nat → FieldType := fun k => match k with
  | 0 => .object "MiceEngine$Rows"
  | 1 => .object "MiceEngine$Losses"
  | 2 => .array .int
  | 3 => .array .long
  | 4 => .int
  | 5 => .int
  | _ => .int
theorem nmX4 : ∀ a, a < 7 → ∀ b, b < 7 → a ≠ b → (TX4 a).2.1 ≠ (TX4 b).2.1 := by decide +kernel
theorem tyX4_ok : ∀ k, k < 7 → parseFieldDescriptor (TX4 k).2.2.1 = some (tyX4 k) := by decide +kernel
abbrev cX4_init : ByteArray := prog_6_method_1_code
def yX4_init : MethodName := ⟨RX4, "<init>", "(LMiceEngine$Rows;LMiceEngine$Losses;)V"⟩
abbrev cX4_clear : ByteArray := prog_6_method_2_code
def yX4_clear : MethodName := ⟨RX4, "clear", "()V"⟩
abbrev cX4_fewestThatBreak : ByteArray := prog_6_method_3_code
def yX4_fewestThatBreak : MethodName := ⟨RX4, "fewestThatBreak", "(I)I"⟩
abbrev cX4_reckonWays : ByteArray := prog_6_method_4_code
def yX4_reckonWays : MethodName := ⟨RX4, "reckonWays", "(I)V"⟩
abbrev cX4_waysOf : ByteArray := prog_6_method_5_code
def yX4_waysOf : MethodName := ⟨RX4, "waysOf", "(II)J"⟩
abbrev cX4_meanOf : ByteArray := prog_6_method_6_code
def yX4_meanOf : MethodName := ⟨RX4, "meanOf", "(IZ)J"⟩
abbrev cX4_commonDivisor : ByteArray := prog_6_method_7_code
def yX4_commonDivisor : MethodName := ⟨RX4, "commonDivisor", "(JJ)J"⟩
abbrev cX4_coreOf : ByteArray := prog_6_method_8_code
def yX4_coreOf : MethodName := ⟨RX4, "coreOf", "(I)I"⟩
abbrev cX4_fewestThatDo : ByteArray := prog_6_method_9_code
def yX4_fewestThatDo : MethodName := ⟨RX4, "fewestThatDo", "(I)I"⟩
def RX5 : String := "MiceEngine$Reader"
def TX5 : u_T := fun k => match k with
  | 0 => ("MiceEngine$Reader", "rows", "LMiceEngine$Rows;", true)
  | 1 => ("MiceEngine$Reader", "trials", "LMiceEngine$Trials;", true)
  | 2 => ("MiceEngine$Reader", "fault", "I", false)
  | 3 => ("MiceEngine$Reader", "faultPlace", "I", false)
  | 4 => ("MiceEngine$Reader", "tokens", "LMiceEngine$Tokens;", true)
  | 5 => ("MiceEngine$Reader", "labelPlaces", "[I", true)
  | 6 => ("MiceEngine$Reader", "at", "I", false)
  | 7 => ("MiceEngine$Reader", "number", "I", false)
  | 8 => ("MiceEngine$Reader", "laterFault", "I", false)
  | _ => ("MiceEngine$Reader", "laterPlace", "I", false)
def tyX5 : Nat → FieldType := fun k => match k with
  | 0 => .object "MiceEngine$Rows"
  | 1 => .object "MiceEngine$Trials"
  | 2 => .int
  | 3 => .int
  | 4 => .object "MiceEngine$Tokens"
  | 5 => .array .int
  | 6 => .int
  | 7 => .int
  | 8 => .int
  | _ => .int
theorem nmX5 : ∀ a, a < 10 → ∀ b, b < 10 → a ≠ b → (TX5 a).2.1 ≠ (TX5 b).2.1 := by decide +kernel
theorem tyX5_ok : ∀ k, k < 10 → parseFieldDescriptor (TX5 k).2.2.1 = some (tyX5 k) := by decide +kernel
abbrev cX5_init : ByteArray := prog_7_method_1_code
def yX5_init : MethodName := ⟨RX5, "<init>", "(LMiceEngine$Tokens;)V"⟩
abbrev cX5_readTape : ByteArray := prog_7_method_2_code
def yX5_readTape : MethodName := ⟨RX5, "readTape", "()V"⟩
abbrev cX5_accept : ByteArray := prog_7_method_3_code
def yX5_accept : MethodName := ⟨RX5, "accept", "(I)Z"⟩
abbrev cX5_refuse : ByteArray := prog_7_method_4_code
def yX5_refuse : MethodName := ⟨RX5, "refuse", "(I)Z"⟩
abbrev cX5_note : ByteArray := prog_7_method_5_code
def yX5_note : MethodName := ⟨RX5, "note", "(II)V"⟩
abbrev cX5_rowTold : ByteArray := prog_7_method_6_code
def yX5_rowTold : MethodName := ⟨RX5, "rowTold", "()Z"⟩
abbrev cX5_checkLabels : ByteArray := prog_7_method_7_code
def yX5_checkLabels : MethodName := ⟨RX5, "checkLabels", "(LMiceEngine$Row;)V"⟩
abbrev cX5_lineTold : ByteArray := prog_7_method_8_code
def yX5_lineTold : MethodName := ⟨RX5, "lineTold", "(LMiceEngine$Row;)Z"⟩
abbrev cX5_isOrder : ByteArray := prog_7_method_9_code
def yX5_isOrder : MethodName := ⟨RX5, "isOrder", "(I)Z"⟩
abbrev cX5_orderTold : ByteArray := prog_7_method_10_code
def yX5_orderTold : MethodName := ⟨RX5, "orderTold", "(LMiceEngine$Line;I)Z"⟩
abbrev cX5_counterTold : ByteArray := prog_7_method_11_code
def yX5_counterTold : MethodName := ⟨RX5, "counterTold", "(LMiceEngine$Line;)Z"⟩
abbrev cX5_valueTold : ByteArray := prog_7_method_12_code
def yX5_valueTold : MethodName := ⟨RX5, "valueTold", "(LMiceEngine$Line;Z)Z"⟩
abbrev cX5_numberTold : ByteArray := prog_7_method_13_code
def yX5_numberTold : MethodName := ⟨RX5, "numberTold", "()Z"⟩
abbrev cX5_testTold : ByteArray := prog_7_method_14_code
def yX5_testTold : MethodName := ⟨RX5, "testTold", "(LMiceEngine$Line;)Z"⟩
abbrev cX5_labelTold : ByteArray := prog_7_method_15_code
def yX5_labelTold : MethodName := ⟨RX5, "labelTold", "(LMiceEngine$Line;I)Z"⟩
abbrev cX5_calledTold : ByteArray := prog_7_method_16_code
def yX5_calledTold : MethodName := ⟨RX5, "calledTold", "(LMiceEngine$Line;)Z"⟩
abbrev cX5_trialTold : ByteArray := prog_7_method_17_code
def yX5_trialTold : MethodName := ⟨RX5, "trialTold", "()Z"⟩
abbrev cX5_numbersTold : ByteArray := prog_7_method_18_code
def yX5_numbersTold : MethodName := ⟨RX5, "numbersTold", "([I)I"⟩
abbrev cX5_isNumber : ByteArray := prog_7_method_19_code
def yX5_isNumber : MethodName := ⟨RX5, "isNumber", "(I)Z"⟩
abbrev cX5_fuelTold : ByteArray := prog_7_method_20_code
def yX5_fuelTold : MethodName := ⟨RX5, "fuelTold", "()Z"⟩
def RX6 : String := "MiceEngine$Row"
def TX6 : u_T := fun k => match k with
  | 0 => ("MiceEngine$Row", "lines", "[LMiceEngine$Line;", true)
  | 1 => ("MiceEngine$Row", "size", "I", false)
  | 2 => ("MiceEngine$Row", "number", "I", false)
  | _ => ("MiceEngine$Row", "name", "J", false)
def tyX6 : Nat → FieldType := fun k => match k with
  | 0 => .array (.object "MiceEngine$Line")
  | 1 => .int
  | 2 => .int
  | _ => .long
theorem nmX6 : ∀ a, a < 4 → ∀ b, b < 4 → a ≠ b → (TX6 a).2.1 ≠ (TX6 b).2.1 := by decide +kernel
theorem tyX6_ok : ∀ k, k < 4 → parseFieldDescriptor (TX6 k).2.2.1 = some (tyX6 k) := by decide +kernel
abbrev cX6_init : ByteArray := prog_8_method_1_code
def yX6_init : MethodName := ⟨RX6, "<init>", "()V"⟩
abbrev cX6_copy : ByteArray := prog_8_method_2_code
def yX6_copy : MethodName := ⟨RX6, "copy", "(LMiceEngine$Row;)V"⟩
abbrev cX6_insert : ByteArray := prog_8_method_3_code
def yX6_insert : MethodName := ⟨RX6, "insert", "(LMiceEngine$Line;I)V"⟩
abbrev cX6_remove : ByteArray := prog_8_method_4_code
def yX6_remove : MethodName := ⟨RX6, "remove", "(I)V"⟩
abbrev cX6_where : ByteArray := prog_8_method_5_code
def yX6_where : MethodName := ⟨RX6, "where", "(JI)I"⟩
def RX7 : String := "MiceEngine$Rows"
def TX7 : u_T := fun k => match k with
  | 0 => ("MiceEngine$Rows", "list", "[LMiceEngine$Row;", true)
  | 1 => ("MiceEngine$Rows", "size", "I", false)
  | 2 => ("MiceEngine$Rows", "seenTrials", "[I", true)
  | 3 => ("MiceEngine$Rows", "seenLost", "[I", true)
  | 4 => ("MiceEngine$Rows", "seenSize", "I", false)
  | _ => ("MiceEngine$Rows", "seenRow", "I", false)
def tyX7 : Nat → FieldType := fun k => match k with
  | 0 => .array (.object "MiceEngine$Row")
  | 1 => .int
  | 2 => .array .int
  | 3 => .array .int
  | 4 => .int
  | _ => .int
theorem nmX7 : ∀ a, a < 6 → ∀ b, b < 6 → a ≠ b → (TX7 a).2.1 ≠ (TX7 b).2.1 := by decide +kernel
theorem tyX7_ok : ∀ k, k < 6 → parseFieldDescriptor (TX7 k).2.2.1 = some (tyX7 k) := by decide +kernel
abbrev cX7_init : ByteArray := prog_9_method_1_code
def yX7_init : MethodName := ⟨RX7, "<init>", "()V"⟩
abbrev cX7_clear : ByteArray := prog_9_method_2_code
def yX7_clear : MethodName := ⟨RX7, "clear", "()V"⟩
abbrev cX7_copy : ByteArray := prog_9_method_3_code
def yX7_copy : MethodName := ⟨RX7, "copy", "(LMiceEngine$Rows;)V"⟩
abbrev cX7_named : ByteArray := prog_9_method_4_code
def yX7_named : MethodName := ⟨RX7, "named", "(J)I"⟩
def RX8 : String := "MiceEngine$Seeker"
def TX8 : u_T := fun k => match k with
  | 0 => ("MiceEngine$Seeker", "numbers", "[I", true)
  | 1 => ("MiceEngine$Seeker", "rows", "LMiceEngine$Rows;", true)
  | 2 => ("MiceEngine$Seeker", "trials", "LMiceEngine$Trials;", true)
  | 3 => ("MiceEngine$Seeker", "machine", "LMiceEngine$Machine;", true)
  | 4 => ("MiceEngine$Seeker", "candidate", "LMiceEngine$Row;", true)
  | 5 => ("MiceEngine$Seeker", "keptRow", "I", false)
  | 6 => ("MiceEngine$Seeker", "keptN", "I", false)
  | 7 => ("MiceEngine$Seeker", "keptM", "I", false)
  | _ => ("MiceEngine$Seeker", "keptAnswer", "I", false)
def tyX8 : Nat → FieldType := fun k => match k with
  | 0 => .array .int
  | 1 => .object "MiceEngine$Rows"
  | 2 => .object "MiceEngine$Trials"
  | 3 => .object "MiceEngine$Machine"
  | 4 => .object "MiceEngine$Row"
  | 5 => .int
  | 6 => .int
  | 7 => .int
  | _ => .int
theorem nmX8 : ∀ a, a < 9 → ∀ b, b < 9 → a ≠ b → (TX8 a).2.1 ≠ (TX8 b).2.1 := by decide +kernel
theorem tyX8_ok : ∀ k, k < 9 → parseFieldDescriptor (TX8 k).2.2.1 = some (tyX8 k) := by decide +kernel
abbrev cX8_init : ByteArray := prog_10_method_1_code
def yX8_init : MethodName := ⟨RX8, "<init>", "(LMiceEngine$Rows;LMiceEngine$Trials;LMiceEngine$Machine;)V"⟩
abbrev cX8_clear : ByteArray := prog_10_method_2_code
def yX8_clear : MethodName := ⟨RX8, "clear", "()V"⟩
abbrev cX8_doesTable : ByteArray := prog_10_method_3_code
def yX8_doesTable : MethodName := ⟨RX8, "doesTable", "(LMiceEngine$Row;I)Z"⟩
abbrev cX8_seek : ByteArray := prog_10_method_4_code
def yX8_seek : MethodName := ⟨RX8, "seek", "(III)I"⟩
abbrev cX8_findOfSize : ByteArray := prog_10_method_5_code
def yX8_findOfSize : MethodName := ⟨RX8, "findOfSize", "(LMiceEngine$Row;II)Z"⟩
abbrev cX8_suffices : ByteArray := prog_10_method_6_code
def yX8_suffices : MethodName := ⟨RX8, "suffices", "(I)Z"⟩
abbrev cX8_passOn : ByteArray := prog_10_method_7_code
def yX8_passOn : MethodName := ⟨RX8, "passOn", "(LMiceEngine$Row;I)Z"⟩
def RX9 : String := "MiceEngine$Suspicion"
def TX9 : u_T := fun k => match k with
  | 0 => ("MiceEngine$Suspicion", "sets", "[I", true)
  | 1 => ("MiceEngine$Suspicion", "left", "[I", true)
  | 2 => ("MiceEngine$Suspicion", "rows", "LMiceEngine$Rows;", true)
  | 3 => ("MiceEngine$Suspicion", "trials", "LMiceEngine$Trials;", true)
  | 4 => ("MiceEngine$Suspicion", "machine", "LMiceEngine$Machine;", true)
  | 5 => ("MiceEngine$Suspicion", "groups", "[I", true)
  | 6 => ("MiceEngine$Suspicion", "records", "[I", true)
  | 7 => ("MiceEngine$Suspicion", "isGrouped", "[Z", true)
  | 8 => ("MiceEngine$Suspicion", "sizes", "[I", true)
  | 9 => ("MiceEngine$Suspicion", "members", "[[I", true)
  | 10 => ("MiceEngine$Suspicion", "size", "I", false)
  | 11 => ("MiceEngine$Suspicion", "leftSize", "I", false)
  | 12 => ("MiceEngine$Suspicion", "keptRow", "I", false)
  | _ => ("MiceEngine$Suspicion", "keptN", "I", false)
def tyX9 : Nat → FieldType := fun k => match k with
  | 0 => .array .int
  | 1 => .array .int
  | 2 => .object "MiceEngine$Rows"
  | 3 => .object "MiceEngine$Trials"
  | 4 => .object "MiceEngine$Machine"
  | 5 => .array .int
  | 6 => .array .int
  | 7 => .array .boolean
  | 8 => .array .int
  | 9 => .array (.array .int)
  | 10 => .int
  | 11 => .int
  | 12 => .int
  | _ => .int
theorem nmX9 : ∀ a, a < 14 → ∀ b, b < 14 → a ≠ b → (TX9 a).2.1 ≠ (TX9 b).2.1 := by decide +kernel
theorem tyX9_ok : ∀ k, k < 14 → parseFieldDescriptor (TX9 k).2.2.1 = some (tyX9 k) := by decide +kernel
abbrev cX9_init : ByteArray := prog_11_method_1_code
def yX9_init : MethodName := ⟨RX9, "<init>", "(LMiceEngine$Rows;LMiceEngine$Trials;LMiceEngine$Machine;)V"⟩
abbrev cX9_clear : ByteArray := prog_11_method_2_code
def yX9_clear : MethodName := ⟨RX9, "clear", "()V"⟩
abbrev cX9_gather : ByteArray := prog_11_method_3_code
def yX9_gather : MethodName := ⟨RX9, "gather", "(II)V"⟩
abbrev cX9_group : ByteArray := prog_11_method_4_code
def yX9_group : MethodName := ⟨RX9, "group", "(I)V"⟩
abbrev cX9_keepDeed : ByteArray := prog_11_method_5_code
def yX9_keepDeed : MethodName := ⟨RX9, "keepDeed", "(II)V"⟩
abbrev cX9_groupOfDeed : ByteArray := prog_11_method_6_code
def yX9_groupOfDeed : MethodName := ⟨RX9, "groupOfDeed", "(II)I"⟩
abbrev cX9_isRecorded : ByteArray := prog_11_method_7_code
def yX9_isRecorded : MethodName := ⟨RX9, "isRecorded", "(I)Z"⟩
abbrev cX9_narrow : ByteArray := prog_11_method_8_code
def yX9_narrow : MethodName := ⟨RX9, "narrow", "(III)I"⟩
abbrev cX9_keepGroup : ByteArray := prog_11_method_9_code
def yX9_keepGroup : MethodName := ⟨RX9, "keepGroup", "(II)V"⟩
abbrev cX9_bestTrial : ByteArray := prog_11_method_10_code
def yX9_bestTrial : MethodName := ⟨RX9, "bestTrial", "(III)I"⟩
abbrev cX9_greatestGroup : ByteArray := prog_11_method_11_code
def yX9_greatestGroup : MethodName := ⟨RX9, "greatestGroup", "(I)I"⟩
abbrev cX9_fewestTrials : ByteArray := prog_11_method_12_code
def yX9_fewestTrials : MethodName := ⟨RX9, "fewestTrials", "(III)I"⟩
abbrev cX9_gatherUnlike : ByteArray := prog_11_method_13_code
def yX9_gatherUnlike : MethodName := ⟨RX9, "gatherUnlike", "()I"⟩
abbrev cX9_areToldApart : ByteArray := prog_11_method_14_code
def yX9_areToldApart : MethodName := ⟨RX9, "areToldApart", "(II)Z"⟩
abbrev cX9_settles : ByteArray := prog_11_method_15_code
def yX9_settles : MethodName := ⟨RX9, "settles", "(III)Z"⟩
abbrev cX9_settlesBy : ByteArray := prog_11_method_16_code
def yX9_settlesBy : MethodName := ⟨RX9, "settlesBy", "(IIII)Z"⟩
abbrev cX9_isFirstOfGroup : ByteArray := prog_11_method_17_code
def yX9_isFirstOfGroup : MethodName := ⟨RX9, "isFirstOfGroup", "(III)Z"⟩
abbrev cX9_split : ByteArray := prog_11_method_18_code
def yX9_split : MethodName := ⟨RX9, "split", "(IIII)I"⟩
def RX10 : String := "MiceEngine$Tokens"
def TX10 : u_T := fun k => match k with
  | 0 => ("MiceEngine$Tokens", "bytes", "[I", true)
  | 1 => ("MiceEngine$Tokens", "kinds", "[I", true)
  | 2 => ("MiceEngine$Tokens", "places", "[I", true)
  | 3 => ("MiceEngine$Tokens", "values", "[J", true)
  | 4 => ("MiceEngine$Tokens", "length", "I", false)
  | _ => ("MiceEngine$Tokens", "words", "[J", true)
def tyX10 : Nat → FieldType := fun k => match k with
  | 0 => .array .int
  | 1 => .array .int
  | 2 => .array .int
  | 3 => .array .long
  | 4 => .int
  | _ => .array .long
theorem nmX10 : ∀ a, a < 6 → ∀ b, b < 6 → a ≠ b → (TX10 a).2.1 ≠ (TX10 b).2.1 := by decide +kernel
theorem tyX10_ok : ∀ k, k < 6 → parseFieldDescriptor (TX10 k).2.2.1 = some (tyX10 k) := by decide +kernel
abbrev cX10_init : ByteArray := prog_12_method_1_code
def yX10_init : MethodName := ⟨RX10, "<init>", "()V"⟩
abbrev cX10_addInt : ByteArray := prog_12_method_2_code
def yX10_addInt : MethodName := ⟨RX10, "addInt", "(I)V"⟩
abbrev cX10_scan : ByteArray := prog_12_method_3_code
def yX10_scan : MethodName := ⟨RX10, "scan", "()V"⟩
abbrev cX10_scanToken : ByteArray := prog_12_method_4_code
def yX10_scanToken : MethodName := ⟨RX10, "scanToken", "(II)I"⟩
abbrev cX10_scanLetters : ByteArray := prog_12_method_5_code
def yX10_scanLetters : MethodName := ⟨RX10, "scanLetters", "(II)I"⟩
abbrev cX10_scanDigits : ByteArray := prog_12_method_6_code
def yX10_scanDigits : MethodName := ⟨RX10, "scanDigits", "(II)I"⟩
abbrev cX10_scanSign : ByteArray := prog_12_method_7_code
def yX10_scanSign : MethodName := ⟨RX10, "scanSign", "(II)I"⟩
abbrev cX10_pastBlanks : ByteArray := prog_12_method_8_code
def yX10_pastBlanks : MethodName := ⟨RX10, "pastBlanks", "(I)I"⟩
abbrev cX10_isLetter : ByteArray := prog_12_method_9_code
def yX10_isLetter : MethodName := ⟨RX10, "isLetter", "(I)Z"⟩
abbrev cX10_isDigit : ByteArray := prog_12_method_10_code
def yX10_isDigit : MethodName := ⟨RX10, "isDigit", "(I)Z"⟩
abbrev cX10_isBlank : ByteArray := prog_12_method_11_code
def yX10_isBlank : MethodName := ⟨RX10, "isBlank", "(I)Z"⟩
abbrev cX10_spelled : ByteArray := prog_12_method_12_code
def yX10_spelled : MethodName := ⟨RX10, "spelled", "(JI)J"⟩
def RX11 : String := "MiceEngine$Trials"
def TX11 : u_T := fun k => match k with
  | 0 => ("MiceEngine$Trials", "numbers", "[[I", true)
  | 1 => ("MiceEngine$Trials", "sizes", "[I", true)
  | 2 => ("MiceEngine$Trials", "gives", "[LMiceEngine$Deed;", true)
  | 3 => ("MiceEngine$Trials", "inTable", "[Z", true)
  | 4 => ("MiceEngine$Trials", "size", "I", false)
  | _ => ("MiceEngine$Trials", "fuel", "I", false)
def tyX11 : Nat → FieldType := fun k => match k with
  | 0 => .array (.array .int)
  | 1 => .array .int
  | 2 => .array (.object "MiceEngine$Deed")
  | 3 => .array .boolean
  | 4 => .int
  | _ => .int
theorem nmX11 : ∀ a, a < 6 → ∀ b, b < 6 → a ≠ b → (TX11 a).2.1 ≠ (TX11 b).2.1 := by decide +kernel
theorem tyX11_ok : ∀ k, k < 6 → parseFieldDescriptor (TX11 k).2.2.1 = some (tyX11 k) := by decide +kernel
abbrev cX11_init : ByteArray := prog_13_method_1_code
def yX11_init : MethodName := ⟨RX11, "<init>", "()V"⟩
abbrev cX11_clear : ByteArray := prog_13_method_2_code
def yX11_clear : MethodName := ⟨RX11, "clear", "()V"⟩
abbrev cX11_copy : ByteArray := prog_13_method_3_code
def yX11_copy : MethodName := ⟨RX11, "copy", "(LMiceEngine$Trials;)V"⟩
abbrev cX11_tableSize : ByteArray := prog_13_method_4_code
def yX11_tableSize : MethodName := ⟨RX11, "tableSize", "()I"⟩
def RX12 : String := "MiceEngine"
def TX12 : u_T := fun k => match k with
  | 0 => ("MiceEngine", "tokens", "LMiceEngine$Tokens;", true)
  | 1 => ("MiceEngine", "reader", "LMiceEngine$Reader;", true)
  | 2 => ("MiceEngine", "rows", "LMiceEngine$Rows;", true)
  | 3 => ("MiceEngine", "trials", "LMiceEngine$Trials;", true)
  | 4 => ("MiceEngine", "machine", "LMiceEngine$Machine;", true)
  | 5 => ("MiceEngine", "losses", "LMiceEngine$Losses;", true)
  | 6 => ("MiceEngine", "orders", "LMiceEngine$Orders;", true)
  | 7 => ("MiceEngine", "seeker", "LMiceEngine$Seeker;", true)
  | 8 => ("MiceEngine", "suspicion", "LMiceEngine$Suspicion;", true)
  | 9 => ("MiceEngine", "slots", "[LMiceEngine$Rows;", true)
  | 10 => ("MiceEngine", "held", "[Z", true)
  | _ => ("MiceEngine", "faultPlace", "I", false)
def tyX12 : Nat → FieldType := fun k => match k with
  | 0 => .object "MiceEngine$Tokens"
  | 1 => .object "MiceEngine$Reader"
  | 2 => .object "MiceEngine$Rows"
  | 3 => .object "MiceEngine$Trials"
  | 4 => .object "MiceEngine$Machine"
  | 5 => .object "MiceEngine$Losses"
  | 6 => .object "MiceEngine$Orders"
  | 7 => .object "MiceEngine$Seeker"
  | 8 => .object "MiceEngine$Suspicion"
  | 9 => .array (.object "MiceEngine$Rows")
  | 10 => .array .boolean
  | _ => .int
theorem nmX12 : ∀ a, a < 12 → ∀ b, b < 12 → a ≠ b → (TX12 a).2.1 ≠ (TX12 b).2.1 := by decide +kernel
theorem tyX12_ok : ∀ k, k < 12 → parseFieldDescriptor (TX12 k).2.2.1 = some (tyX12 k) := by decide +kernel
abbrev cX12_init : ByteArray := prog_1_method_1_code
def yX12_init : MethodName := ⟨RX12, "<init>", "()V"⟩
abbrev cX12_feed : ByteArray := prog_1_method_2_code
def yX12_feed : MethodName := ⟨RX12, "feed", "(IIIII)I"⟩
abbrev cX12_back : ByteArray := prog_1_method_3_code
def yX12_back : MethodName := ⟨RX12, "back", "(I)I"⟩
abbrev cX12_read : ByteArray := prog_1_method_4_code
def yX12_read : MethodName := ⟨RX12, "read", "()I"⟩
abbrev cX12_place : ByteArray := prog_1_method_5_code
def yX12_place : MethodName := ⟨RX12, "place", "()I"⟩
abbrev cX12_lines : ByteArray := prog_1_method_6_code
def yX12_lines : MethodName := ⟨RX12, "lines", "(I)I"⟩
abbrev cX12_line : ByteArray := prog_1_method_7_code
def yX12_line : MethodName := ⟨RX12, "line", "(III)I"⟩
abbrev cX12_run : ByteArray := prog_1_method_8_code
def yX12_run : MethodName := ⟨RX12, "run", "(III)I"⟩
abbrev cX12_after : ByteArray := prog_1_method_9_code
def yX12_after : MethodName := ⟨RX12, "after", "(IIII)I"⟩
abbrev cX12_out : ByteArray := prog_1_method_10_code
def yX12_out : MethodName := ⟨RX12, "out", "(IIII)I"⟩
abbrev cX12_same : ByteArray := prog_1_method_11_code
def yX12_same : MethodName := ⟨RX12, "same", "(II)I"⟩
abbrev cX12_differs : ByteArray := prog_1_method_12_code
def yX12_differs : MethodName := ⟨RX12, "differs", "(II)I"⟩
abbrev cX12_bears : ByteArray := prog_1_method_13_code
def yX12_bears : MethodName := ⟨RX12, "bears", "(II)I"⟩
abbrev cX12_breaks : ByteArray := prog_1_method_14_code
def yX12_breaks : MethodName := ⟨RX12, "breaks", "(II)I"⟩
abbrev cX12_idle : ByteArray := prog_1_method_15_code
def yX12_idle : MethodName := ⟨RX12, "idle", "(I)I"⟩
abbrev cX12_harm : ByteArray := prog_1_method_16_code
def yX12_harm : MethodName := ⟨RX12, "harm", "(II)I"⟩
abbrev cX12_worst : ByteArray := prog_1_method_17_code
def yX12_worst : MethodName := ⟨RX12, "worst", "(I)I"⟩
abbrev cX12_pair : ByteArray := prog_1_method_18_code
def yX12_pair : MethodName := ⟨RX12, "pair", "(I)I"⟩
abbrev cX12_mends : ByteArray := prog_1_method_19_code
def yX12_mends : MethodName := ⟨RX12, "mends", "(I)I"⟩
abbrev cX12_reached : ByteArray := prog_1_method_20_code
def yX12_reached : MethodName := ⟨RX12, "reached", "(I)I"⟩
abbrev cX12_step : ByteArray := prog_1_method_21_code
def yX12_step : MethodName := ⟨RX12, "step", "(IIII)I"⟩
abbrev cX12_life : ByteArray := prog_1_method_22_code
def yX12_life : MethodName := ⟨RX12, "life", "(III)I"⟩
abbrev cX12_soonest : ByteArray := prog_1_method_23_code
def yX12_soonest : MethodName := ⟨RX12, "soonest", "(I)I"⟩
abbrev cX12_ways : ByteArray := prog_1_method_24_code
def yX12_ways : MethodName := ⟨RX12, "ways", "(II)J"⟩
abbrev cX12_mean : ByteArray := prog_1_method_25_code
def yX12_mean : MethodName := ⟨RX12, "mean", "(IZ)J"⟩
abbrev cX12_core : ByteArray := prog_1_method_26_code
def yX12_core : MethodName := ⟨RX12, "core", "(II)I"⟩
abbrev cX12_does : ByteArray := prog_1_method_27_code
def yX12_does : MethodName := ⟨RX12, "does", "(II)I"⟩
abbrev cX12_sought : ByteArray := prog_1_method_28_code
def yX12_sought : MethodName := ⟨RX12, "sought", "(III)I"⟩
abbrev cX12_soughtAt : ByteArray := prog_1_method_29_code
def yX12_soughtAt : MethodName := ⟨RX12, "soughtAt", "(IIII)I"⟩
abbrev cX12_put : ByteArray := prog_1_method_30_code
def yX12_put : MethodName := ⟨RX12, "put", "(III)I"⟩
abbrev cX12_take : ByteArray := prog_1_method_31_code
def yX12_take : MethodName := ⟨RX12, "take", "(II)I"⟩
abbrev cX12_see : ByteArray := prog_1_method_32_code
def yX12_see : MethodName := ⟨RX12, "see", "(III)I"⟩
abbrev cX12_forget : ByteArray := prog_1_method_33_code
def yX12_forget : MethodName := ⟨RX12, "forget", "()I"⟩
abbrev cX12_suspects : ByteArray := prog_1_method_34_code
def yX12_suspects : MethodName := ⟨RX12, "suspects", "(III)I"⟩
abbrev cX12_suspect : ByteArray := prog_1_method_35_code
def yX12_suspect : MethodName := ⟨RX12, "suspect", "(IIII)I"⟩
abbrev cX12_next : ByteArray := prog_1_method_36_code
def yX12_next : MethodName := ⟨RX12, "next", "(III)I"⟩
abbrev cX12_most : ByteArray := prog_1_method_37_code
def yX12_most : MethodName := ⟨RX12, "most", "(III)I"⟩
abbrev cX12_hold : ByteArray := prog_1_method_38_code
def yX12_hold : MethodName := ⟨RX12, "hold", "(I)Z"⟩
abbrev cX12_restore : ByteArray := prog_1_method_39_code
def yX12_restore : MethodName := ⟨RX12, "restore", "(I)Z"⟩
abbrev cX12_count : ByteArray := prog_1_method_40_code
def yX12_count : MethodName := ⟨RX12, "count", "(I)I"⟩
abbrev cX12_heldSlots : ByteArray := prog_1_method_41_code
def yX12_heldSlots : MethodName := ⟨RX12, "heldSlots", "()I"⟩
abbrev cX12_numbersOf : ByteArray := prog_1_method_42_code
def yX12_numbersOf : MethodName := ⟨RX12, "numbersOf", "(I)I"⟩
abbrev cX12_rowsChanged : ByteArray := prog_1_method_43_code
def yX12_rowsChanged : MethodName := ⟨RX12, "rowsChanged", "()V"⟩
abbrev cX12_hasRow : ByteArray := prog_1_method_44_code
def yX12_hasRow : MethodName := ⟨RX12, "hasRow", "(I)Z"⟩
abbrev cX12_hasLine : ByteArray := prog_1_method_45_code
def yX12_hasLine : MethodName := ⟨RX12, "hasLine", "(II)Z"⟩
abbrev cX12_hasLost : ByteArray := prog_1_method_46_code
def yX12_hasLost : MethodName := ⟨RX12, "hasLost", "(II)Z"⟩
abbrev cX12_hasTrial : ByteArray := prog_1_method_47_code
def yX12_hasTrial : MethodName := ⟨RX12, "hasTrial", "(I)Z"⟩
abbrev cX12_hasRun : ByteArray := prog_1_method_48_code
def yX12_hasRun : MethodName := ⟨RX12, "hasRun", "(III)Z"⟩
abbrev cX12_isSmall : ByteArray := prog_1_method_49_code
def yX12_isSmall : MethodName := ⟨RX12, "isSmall", "(I)Z"⟩
abbrev cX12_canSeek : ByteArray := prog_1_method_50_code
def yX12_canSeek : MethodName := ⟨RX12, "canSeek", "(III)Z"⟩
abbrev cX12_canSuspect : ByteArray := prog_1_method_51_code
def yX12_canSuspect : MethodName := ⟨RX12, "canSuspect", "(III)Z"⟩
abbrev cX12_setBehind : ByteArray := prog_1_method_52_code
def yX12_setBehind : MethodName := ⟨RX12, "setBehind", "(I)I"⟩
abbrev cX12_lot : ByteArray := prog_1_method_53_code
def yX12_lot : MethodName := ⟨RX12, "lot", "(III)I"⟩
abbrev cX12_mixed : ByteArray := prog_1_method_54_code
def yX12_mixed : MethodName := ⟨RX12, "mixed", "(II)I"⟩
def RX13 : String := "MiceEngineModel"
def TX13 : u_T := fun k => match k with
  | 0 => ("MiceEngineModel", "thrown", "I", false)
  | 1 => ("MiceEngineModel", "tape", "[B", true)
  | 2 => ("MiceEngineModel", "taped", "I", false)
  | 3 => ("MiceEngineModel", "text", "[B", true)
  | 4 => ("MiceEngineModel", "size", "I", false)
  | 5 => ("MiceEngineModel", "tKind", "[I", true)
  | 6 => ("MiceEngineModel", "tPlace", "[I", true)
  | 7 => ("MiceEngineModel", "tValue", "[I", true)
  | 8 => ("MiceEngineModel", "tName", "[J", true)
  | 9 => ("MiceEngineModel", "keys", "[J", true)
  | 10 => ("MiceEngineModel", "tokens", "I", false)
  | 11 => ("MiceEngineModel", "t", "I", false)
  | 12 => ("MiceEngineModel", "open", "I", false)
  | 13 => ("MiceEngineModel", "fault", "I", false)
  | 14 => ("MiceEngineModel", "faultPlace", "I", false)
  | 15 => ("MiceEngineModel", "worst", "I", false)
  | 16 => ("MiceEngineModel", "worstPlace", "I", false)
  | 17 => ("MiceEngineModel", "place", "I", false)
  | 18 => ("MiceEngineModel", "live", "I", false)
  | 19 => ("MiceEngineModel", "side", "I", false)
  | 20 => ("MiceEngineModel", "rows", "[I", true)
  | 21 => ("MiceEngineModel", "rowName", "[J", true)
  | 22 => ("MiceEngineModel", "rowLines", "[I", true)
  | 23 => ("MiceEngineModel", "order", "[I", true)
  | 24 => ("MiceEngineModel", "counter", "[I", true)
  | 25 => ("MiceEngineModel", "sortA", "[I", true)
  | 26 => ("MiceEngineModel", "valueA", "[I", true)
  | 27 => ("MiceEngineModel", "sortB", "[I", true)
  | 28 => ("MiceEngineModel", "valueB", "[I", true)
  | 29 => ("MiceEngineModel", "sign0", "[I", true)
  | 30 => ("MiceEngineModel", "called", "[I", true)
  | 31 => ("MiceEngineModel", "lineTokens", "[I", true)
  | 32 => ("MiceEngineModel", "label", "[J", true)
  | 33 => ("MiceEngineModel", "target", "[J", true)
  | 34 => ("MiceEngineModel", "targetToken", "[I", true)
  | 35 => ("MiceEngineModel", "trials", "[I", true)
  | 36 => ("MiceEngineModel", "inMany", "[I", true)
  | 37 => ("MiceEngineModel", "inNumber", "[I", true)
  | 38 => ("MiceEngineModel", "giveMany", "[I", true)
  | 39 => ("MiceEngineModel", "giveNumber", "[I", true)
  | 40 => ("MiceEngineModel", "fuel", "[I", true)
  | 41 => ("MiceEngineModel", "sort", "I", false)
  | 42 => ("MiceEngineModel", "number", "I", false)
  | 43 => ("MiceEngineModel", "prog", "[I", true)
  | 44 => ("MiceEngineModel", "progLine", "[I", true)
  | 45 => ("MiceEngineModel", "progMany", "I", false)
  | 46 => ("MiceEngineModel", "progRow", "I", false)
  | 47 => ("MiceEngineModel", "progLost", "I", false)
  | 48 => ("MiceEngineModel", "counts", "[I", true)
  | 49 => ("MiceEngineModel", "inAt", "I", false)
  | 50 => ("MiceEngineModel", "trialAt", "I", false)
  | 51 => ("MiceEngineModel", "outMany", "I", false)
  | 52 => ("MiceEngineModel", "outs", "[I", true)
  | 53 => ("MiceEngineModel", "steps", "I", false)
  | 54 => ("MiceEngineModel", "stepOf", "[I", true)
  | 55 => ("MiceEngineModel", "stop", "I", false)
  | 56 => ("MiceEngineModel", "deepRow", "[I", true)
  | 57 => ("MiceEngineModel", "deepAt", "[I", true)
  | 58 => ("MiceEngineModel", "deep", "I", false)
  | 59 => ("MiceEngineModel", "baseStop", "[I", true)
  | 60 => ("MiceEngineModel", "baseMany", "[I", true)
  | 61 => ("MiceEngineModel", "baseOut", "[I", true)
  | 62 => ("MiceEngineModel", "sameOf", "[Z", true)
  | 63 => ("MiceEngineModel", "waysTo", "[J", true)
  | 64 => ("MiceEngineModel", "found", "[I", true)
  | 65 => ("MiceEngineModel", "seen", "I", false)
  | 66 => ("MiceEngineModel", "seenRow", "I", false)
  | 67 => ("MiceEngineModel", "seenTrial", "[I", true)
  | 68 => ("MiceEngineModel", "seenStop", "[I", true)
  | 69 => ("MiceEngineModel", "seenMany", "[I", true)
  | 70 => ("MiceEngineModel", "seenOut", "[I", true)
  | 71 => ("MiceEngineModel", "suspect", "[I", true)
  | 72 => ("MiceEngineModel", "suspects", "I", false)
  | 73 => ("MiceEngineModel", "group", "[I", true)
  | 74 => ("MiceEngineModel", "didStop", "[I", true)
  | 75 => ("MiceEngineModel", "didMany", "[I", true)
  | 76 => ("MiceEngineModel", "didOut", "[I", true)
  | 77 => ("MiceEngineModel", "left", "[Z", true)
  | 78 => ("MiceEngineModel", "isHeld", "[Z", true)
  | 79 => ("MiceEngineModel", "heldSeen", "[I", true)
  | 80 => ("MiceEngineModel", "heldRow", "[I", true)
  | 81 => ("MiceEngineModel", "heldTrial", "[I", true)
  | 82 => ("MiceEngineModel", "heldStop", "[I", true)
  | 83 => ("MiceEngineModel", "heldMany", "[I", true)
  | _ => ("MiceEngineModel", "heldOut", "[I", true)
def tyX13 : Nat → FieldType := fun k => match k with
  | 0 => .int
  | 1 => .array .byte
  | 2 => .int
  | 3 => .array .byte
  | 4 => .int
  | 5 => .array .int
  | 6 => .array .int
  | 7 => .array .int
  | 8 => .array .long
  | 9 => .array .long
  | 10 => .int
  | 11 => .int
  | 12 => .int
  | 13 => .int
  | 14 => .int
  | 15 => .int
  | 16 => .int
  | 17 => .int
  | 18 => .int
  | 19 => .int
  | 20 => .array .int
  | 21 => .array .long
  | 22 => .array .int
  | 23 => .array .int
  | 24 => .array .int
  | 25 => .array .int
  | 26 => .array .int
  | 27 => .array .int
  | 28 => .array .int
  | 29 => .array .int
  | 30 => .array .int
  | 31 => .array .int
  | 32 => .array .long
  | 33 => .array .long
  | 34 => .array .int
  | 35 => .array .int
  | 36 => .array .int
  | 37 => .array .int
  | 38 => .array .int
  | 39 => .array .int
  | 40 => .array .int
  | 41 => .int
  | 42 => .int
  | 43 => .array .int
  | 44 => .array .int
  | 45 => .int
  | 46 => .int
  | 47 => .int
  | 48 => .array .int
  | 49 => .int
  | 50 => .int
  | 51 => .int
  | 52 => .array .int
  | 53 => .int
  | 54 => .array .int
  | 55 => .int
  | 56 => .array .int
  | 57 => .array .int
  | 58 => .int
  | 59 => .array .int
  | 60 => .array .int
  | 61 => .array .int
  | 62 => .array .boolean
  | 63 => .array .long
  | 64 => .array .int
  | 65 => .int
  | 66 => .int
  | 67 => .array .int
  | 68 => .array .int
  | 69 => .array .int
  | 70 => .array .int
  | 71 => .array .int
  | 72 => .int
  | 73 => .array .int
  | 74 => .array .int
  | 75 => .array .int
  | 76 => .array .int
  | 77 => .array .boolean
  | 78 => .array .boolean
  | 79 => .array .int
  | 80 => .array .int
  | 81 => .array .int
  | 82 => .array .int
  | 83 => .array .int
  | _ => .array .int
theorem nmX13 : ∀ a, a < 85 → ∀ b, b < 85 → a ≠ b → (TX13 a).2.1 ≠ (TX13 b).2.1 := by decide +kernel
theorem tyX13_ok : ∀ k, k < 85 → parseFieldDescriptor (TX13 k).2.2.1 = some (tyX13 k) := by decide +kernel
abbrev cX13_init : ByteArray := prog_15_method_2_code
def yX13_init : MethodName := ⟨RX13, "<init>", "()V"⟩
abbrev cX13_feed : ByteArray := prog_15_method_3_code
def yX13_feed : MethodName := ⟨RX13, "feed", "(IIIII)I"⟩
abbrev cX13_put : ByteArray := prog_15_method_4_code
def yX13_put : MethodName := ⟨RX13, "put", "(I)V"⟩
abbrev cX13_back : ByteArray := prog_15_method_5_code
def yX13_back : MethodName := ⟨RX13, "back", "(I)I"⟩
abbrev cX13_byteAt : ByteArray := prog_15_method_6_code
def yX13_byteAt : MethodName := ⟨RX13, "byteAt", "(I)I"⟩
abbrev cX13_isDigit : ByteArray := prog_15_method_7_code
def yX13_isDigit : MethodName := ⟨RX13, "isDigit", "(I)Z"⟩
abbrev cX13_isLetter : ByteArray := prog_15_method_8_code
def yX13_isLetter : MethodName := ⟨RX13, "isLetter", "(I)Z"⟩
abbrev cX13_appends : ByteArray := prog_15_method_9_code
def yX13_appends : MethodName := ⟨RX13, "appends", "(JI)J"⟩
abbrev cX13_word : ByteArray := prog_15_method_10_code
def yX13_word : MethodName := ⟨RX13, "word", "(IIIIIII)J"⟩
abbrev cX13_token : ByteArray := prog_15_method_11_code
def yX13_token : MethodName := ⟨RX13, "token", "(IIIJ)V"⟩
abbrev cX13_cut : ByteArray := prog_15_method_12_code
def yX13_cut : MethodName := ⟨RX13, "cut", "()V"⟩
abbrev cX13_sign : ByteArray := prog_15_method_13_code
def yX13_sign : MethodName := ⟨RX13, "sign", "(III)I"⟩
abbrev cX13_is : ByteArray := prog_15_method_14_code
def yX13_is : MethodName := ⟨RX13, "is", "(I)Z"⟩
abbrev cX13_fail : ByteArray := prog_15_method_15_code
def yX13_fail : MethodName := ⟨RX13, "fail", "(I)V"⟩
abbrev cX13_wrong : ByteArray := prog_15_method_16_code
def yX13_wrong : MethodName := ⟨RX13, "wrong", "(II)V"⟩
abbrev cX13_goesOn : ByteArray := prog_15_method_17_code
def yX13_goesOn : MethodName := ⟨RX13, "goesOn", "()V"⟩
abbrev cX13_must : ByteArray := prog_15_method_18_code
def yX13_must : MethodName := ⟨RX13, "must", "(I)V"⟩
abbrev cX13_read : ByteArray := prog_15_method_19_code
def yX13_read : MethodName := ⟨RX13, "read", "()I"⟩
abbrev cX13_place : ByteArray := prog_15_method_20_code
def yX13_place : MethodName := ⟨RX13, "place", "()I"⟩
abbrev cX13_room : ByteArray := prog_15_method_21_code
def yX13_room : MethodName := ⟨RX13, "room", "(II)V"⟩
abbrev cX13_tell : ByteArray := prog_15_method_22_code
def yX13_tell : MethodName := ⟨RX13, "tell", "()V"⟩
abbrev cX13_rowAt : ByteArray := prog_15_method_23_code
def yX13_rowAt : MethodName := ⟨RX13, "rowAt", "(I)I"⟩
abbrev cX13_tellRow : ByteArray := prog_15_method_24_code
def yX13_tellRow : MethodName := ⟨RX13, "tellRow", "()V"⟩
abbrev cX13_firstWith : ByteArray := prog_15_method_25_code
def yX13_firstWith : MethodName := ⟨RX13, "firstWith", "(IIJ)I"⟩
abbrev cX13_tellLine : ByteArray := prog_15_method_26_code
def yX13_tellLine : MethodName := ⟨RX13, "tellLine", "(I)V"⟩
abbrev cX13_tellOrder : ByteArray := prog_15_method_27_code
def yX13_tellOrder : MethodName := ⟨RX13, "tellOrder", "(III)V"⟩
abbrev cX13_leads : ByteArray := prog_15_method_28_code
def yX13_leads : MethodName := ⟨RX13, "leads", "(II)V"⟩
abbrev cX13_value : ByteArray := prog_15_method_29_code
def yX13_value : MethodName := ⟨RX13, "value", "()V"⟩
abbrev cX13_signed : ByteArray := prog_15_method_30_code
def yX13_signed : MethodName := ⟨RX13, "signed", "()I"⟩
abbrev cX13_first : ByteArray := prog_15_method_31_code
def yX13_first : MethodName := ⟨RX13, "first", "(I)V"⟩
abbrev cX13_second : ByteArray := prog_15_method_32_code
def yX13_second : MethodName := ⟨RX13, "second", "(I)V"⟩
abbrev cX13_isNumber : ByteArray := prog_15_method_33_code
def yX13_isNumber : MethodName := ⟨RX13, "isNumber", "()Z"⟩
abbrev cX13_tellTrial : ByteArray := prog_15_method_34_code
def yX13_tellTrial : MethodName := ⟨RX13, "tellTrial", "()V"⟩
abbrev cX13_in : ByteArray := prog_15_method_35_code
def yX13_in : MethodName := ⟨RX13, "in", "(III)Z"⟩
abbrev cX13_bits : ByteArray := prog_15_method_36_code
def yX13_bits : MethodName := ⟨RX13, "bits", "(I)I"⟩
abbrev cX13_lineAt : ByteArray := prog_15_method_37_code
def yX13_lineAt : MethodName := ⟨RX13, "lineAt", "(II)I"⟩
abbrev cX13_linesOf : ByteArray := prog_15_method_38_code
def yX13_linesOf : MethodName := ⟨RX13, "linesOf", "(I)I"⟩
abbrev cX13_takesRow : ByteArray := prog_15_method_39_code
def yX13_takesRow : MethodName := ⟨RX13, "takesRow", "(II)V"⟩
abbrev cX13_valueOf : ByteArray := prog_15_method_40_code
def yX13_valueOf : MethodName := ⟨RX13, "valueOf", "(II)I"⟩
abbrev cX13_topLines : ByteArray := prog_15_method_41_code
def yX13_topLines : MethodName := ⟨RX13, "topLines", "()I"⟩
abbrev cX13_topLine : ByteArray := prog_15_method_42_code
def yX13_topLine : MethodName := ⟨RX13, "topLine", "(I)I"⟩
abbrev cX13_isThere : ByteArray := prog_15_method_43_code
def yX13_isThere : MethodName := ⟨RX13, "isThere", "(I)Z"⟩
abbrev cX13_jumps : ByteArray := prog_15_method_44_code
def yX13_jumps : MethodName := ⟨RX13, "jumps", "(J)V"⟩
abbrev cX13_runs : ByteArray := prog_15_method_45_code
def yX13_runs : MethodName := ⟨RX13, "runs", "(I)V"⟩
abbrev cX13_acts : ByteArray := prog_15_method_46_code
def yX13_acts : MethodName := ⟨RX13, "acts", "(I)V"⟩
abbrev cX13_fillBase : ByteArray := prog_15_method_47_code
def yX13_fillBase : MethodName := ⟨RX13, "fillBase", "(I)V"⟩
abbrev cX13_isAsBase : ByteArray := prog_15_method_48_code
def yX13_isAsBase : MethodName := ⟨RX13, "isAsBase", "(I)Z"⟩
abbrev cX13_unlike : ByteArray := prog_15_method_49_code
def yX13_unlike : MethodName := ⟨RX13, "unlike", "()I"⟩
abbrev cX13_isSame : ByteArray := prog_15_method_50_code
def yX13_isSame : MethodName := ⟨RX13, "isSame", "(II)Z"⟩
abbrev cX13_isRow : ByteArray := prog_15_method_51_code
def yX13_isRow : MethodName := ⟨RX13, "isRow", "(I)Z"⟩
abbrev cX13_isLine : ByteArray := prog_15_method_52_code
def yX13_isLine : MethodName := ⟨RX13, "isLine", "(II)Z"⟩
abbrev cX13_isLost : ByteArray := prog_15_method_53_code
def yX13_isLost : MethodName := ⟨RX13, "isLost", "(II)Z"⟩
abbrev cX13_isTrial : ByteArray := prog_15_method_54_code
def yX13_isTrial : MethodName := ⟨RX13, "isTrial", "(I)Z"⟩
abbrev cX13_lines : ByteArray := prog_15_method_55_code
def yX13_lines : MethodName := ⟨RX13, "lines", "(I)I"⟩
abbrev cX13_line : ByteArray := prog_15_method_56_code
def yX13_line : MethodName := ⟨RX13, "line", "(III)I"⟩
abbrev cX13_goes : ByteArray := prog_15_method_57_code
def yX13_goes : MethodName := ⟨RX13, "goes", "(III)Z"⟩
abbrev cX13_run : ByteArray := prog_15_method_58_code
def yX13_run : MethodName := ⟨RX13, "run", "(III)I"⟩
abbrev cX13_after : ByteArray := prog_15_method_59_code
def yX13_after : MethodName := ⟨RX13, "after", "(IIII)I"⟩
abbrev cX13_out : ByteArray := prog_15_method_60_code
def yX13_out : MethodName := ⟨RX13, "out", "(IIII)I"⟩
abbrev cX13_step : ByteArray := prog_15_method_61_code
def yX13_step : MethodName := ⟨RX13, "step", "(IIII)I"⟩
abbrev cX13_differs : ByteArray := prog_15_method_62_code
def yX13_differs : MethodName := ⟨RX13, "differs", "(II)I"⟩
abbrev cX13_same : ByteArray := prog_15_method_63_code
def yX13_same : MethodName := ⟨RX13, "same", "(II)I"⟩
abbrev cX13_breaksOf : ByteArray := prog_15_method_64_code
def yX13_breaksOf : MethodName := ⟨RX13, "breaksOf", "(II)I"⟩
abbrev cX13_bears : ByteArray := prog_15_method_65_code
def yX13_bears : MethodName := ⟨RX13, "bears", "(II)I"⟩
abbrev cX13_breaks : ByteArray := prog_15_method_66_code
def yX13_breaks : MethodName := ⟨RX13, "breaks", "(II)I"⟩
abbrev cX13_idleOf : ByteArray := prog_15_method_67_code
def yX13_idleOf : MethodName := ⟨RX13, "idleOf", "(I)I"⟩
abbrev cX13_idle : ByteArray := prog_15_method_68_code
def yX13_idle : MethodName := ⟨RX13, "idle", "(I)I"⟩
abbrev cX13_harmOf : ByteArray := prog_15_method_69_code
def yX13_harmOf : MethodName := ⟨RX13, "harmOf", "(II)I"⟩
abbrev cX13_harm : ByteArray := prog_15_method_70_code
def yX13_harm : MethodName := ⟨RX13, "harm", "(II)I"⟩
abbrev cX13_worst : ByteArray := prog_15_method_71_code
def yX13_worst : MethodName := ⟨RX13, "worst", "(I)I"⟩
abbrev cX13_pair : ByteArray := prog_15_method_72_code
def yX13_pair : MethodName := ⟨RX13, "pair", "(I)I"⟩
abbrev cX13_takesTwice : ByteArray := prog_15_method_73_code
def yX13_takesTwice : MethodName := ⟨RX13, "takesTwice", "(III)V"⟩
abbrev cX13_mends : ByteArray := prog_15_method_74_code
def yX13_mends : MethodName := ⟨RX13, "mends", "(I)I"⟩
abbrev cX13_reached : ByteArray := prog_15_method_75_code
def yX13_reached : MethodName := ⟨RX13, "reached", "(I)I"⟩
abbrev cX13_mixed : ByteArray := prog_15_method_76_code
def yX13_mixed : MethodName := ⟨RX13, "mixed", "(II)I"⟩
abbrev cX13_lot : ByteArray := prog_15_method_77_code
def yX13_lot : MethodName := ⟨RX13, "lot", "(III)I"⟩
abbrev cX13_nextLost : ByteArray := prog_15_method_78_code
def yX13_nextLost : MethodName := ⟨RX13, "nextLost", "(IIII)I"⟩
abbrev cX13_life : ByteArray := prog_15_method_79_code
def yX13_life : MethodName := ⟨RX13, "life", "(III)I"⟩
abbrev cX13_isShort : ByteArray := prog_15_method_80_code
def yX13_isShort : MethodName := ⟨RX13, "isShort", "(I)Z"⟩
abbrev cX13_fillSets : ByteArray := prog_15_method_81_code
def yX13_fillSets : MethodName := ⟨RX13, "fillSets", "(I)V"⟩
abbrev cX13_soonest : ByteArray := prog_15_method_82_code
def yX13_soonest : MethodName := ⟨RX13, "soonest", "(I)I"⟩
abbrev cX13_waysOf : ByteArray := prog_15_method_83_code
def yX13_waysOf : MethodName := ⟨RX13, "waysOf", "(II)J"⟩
abbrev cX13_ways : ByteArray := prog_15_method_84_code
def yX13_ways : MethodName := ⟨RX13, "ways", "(II)J"⟩
abbrev cX13_orders : ByteArray := prog_15_method_85_code
def yX13_orders : MethodName := ⟨RX13, "orders", "(I)J"⟩
abbrev cX13_common : ByteArray := prog_15_method_86_code
def yX13_common : MethodName := ⟨RX13, "common", "(JJ)J"⟩
abbrev cX13_mean : ByteArray := prog_15_method_87_code
def yX13_mean : MethodName := ⟨RX13, "mean", "(IZ)J"⟩
abbrev cX13_core : ByteArray := prog_15_method_88_code
def yX13_core : MethodName := ⟨RX13, "core", "(II)I"⟩
abbrev cX13_doesTable : ByteArray := prog_15_method_89_code
def yX13_doesTable : MethodName := ⟨RX13, "doesTable", "()Z"⟩
abbrev cX13_does : ByteArray := prog_15_method_90_code
def yX13_does : MethodName := ⟨RX13, "does", "(II)I"⟩
abbrev cX13_nextRow : ByteArray := prog_15_method_91_code
def yX13_nextRow : MethodName := ⟨RX13, "nextRow", "(II)Z"⟩
abbrev cX13_isIt : ByteArray := prog_15_method_92_code
def yX13_isIt : MethodName := ⟨RX13, "isIt", "(III)Z"⟩
abbrev cX13_seeks : ByteArray := prog_15_method_93_code
def yX13_seeks : MethodName := ⟨RX13, "seeks", "(III)I"⟩
abbrev cX13_canSeek : ByteArray := prog_15_method_94_code
def yX13_canSeek : MethodName := ⟨RX13, "canSeek", "(III)Z"⟩
abbrev cX13_sought : ByteArray := prog_15_method_95_code
def yX13_sought : MethodName := ⟨RX13, "sought", "(III)I"⟩
abbrev cX13_soughtAt : ByteArray := prog_15_method_96_code
def yX13_soughtAt : MethodName := ⟨RX13, "soughtAt", "(IIII)I"⟩
abbrev cX13_copiesLine : ByteArray := prog_15_method_97_code
def yX13_copiesLine : MethodName := ⟨RX13, "copiesLine", "(II)V"⟩
abbrev cX13_put_ : ByteArray := prog_15_method_98_code
def yX13_put_ : MethodName := ⟨RX13, "put", "(III)I"⟩
abbrev cX13_take : ByteArray := prog_15_method_99_code
def yX13_take : MethodName := ⟨RX13, "take", "(II)I"⟩
abbrev cX13_see : ByteArray := prog_15_method_100_code
def yX13_see : MethodName := ⟨RX13, "see", "(III)I"⟩
abbrev cX13_forget : ByteArray := prog_15_method_101_code
def yX13_forget : MethodName := ⟨RX13, "forget", "()I"⟩
abbrev cX13_isAsSeen : ByteArray := prog_15_method_102_code
def yX13_isAsSeen : MethodName := ⟨RX13, "isAsSeen", "(I)Z"⟩
abbrev cX13_canBe : ByteArray := prog_15_method_103_code
def yX13_canBe : MethodName := ⟨RX13, "canBe", "(III)Z"⟩
abbrev cX13_fillSuspects : ByteArray := prog_15_method_104_code
def yX13_fillSuspects : MethodName := ⟨RX13, "fillSuspects", "(III)V"⟩
abbrev cX13_canSuspect : ByteArray := prog_15_method_105_code
def yX13_canSuspect : MethodName := ⟨RX13, "canSuspect", "(III)Z"⟩
abbrev cX13_suspects : ByteArray := prog_15_method_106_code
def yX13_suspects : MethodName := ⟨RX13, "suspects", "(III)I"⟩
abbrev cX13_suspect : ByteArray := prog_15_method_107_code
def yX13_suspect : MethodName := ⟨RX13, "suspect", "(IIII)I"⟩
abbrev cX13_didSame : ByteArray := prog_15_method_108_code
def yX13_didSame : MethodName := ⟨RX13, "didSame", "(II)Z"⟩
abbrev cX13_fillGroups : ByteArray := prog_15_method_109_code
def yX13_fillGroups : MethodName := ⟨RX13, "fillGroups", "(I)V"⟩
abbrev cX13_splits : ByteArray := prog_15_method_110_code
def yX13_splits : MethodName := ⟨RX13, "splits", "(II)Z"⟩
abbrev cX13_greatest : ByteArray := prog_15_method_111_code
def yX13_greatest : MethodName := ⟨RX13, "greatest", "(I)I"⟩
abbrev cX13_next : ByteArray := prog_15_method_112_code
def yX13_next : MethodName := ⟨RX13, "next", "(III)I"⟩
abbrev cX13_isDone : ByteArray := prog_15_method_113_code
def yX13_isDone : MethodName := ⟨RX13, "isDone", "(I)Z"⟩
abbrev cX13_parts : ByteArray := prog_15_method_114_code
def yX13_parts : MethodName := ⟨RX13, "parts", "(III)Z"⟩
abbrev cX13_inOne : ByteArray := prog_15_method_115_code
def yX13_inOne : MethodName := ⟨RX13, "inOne", "(I)Z"⟩
abbrev cX13_inTwo : ByteArray := prog_15_method_116_code
def yX13_inTwo : MethodName := ⟨RX13, "inTwo", "(I)Z"⟩
abbrev cX13_inThree : ByteArray := prog_15_method_117_code
def yX13_inThree : MethodName := ⟨RX13, "inThree", "(I)Z"⟩
abbrev cX13_inFour : ByteArray := prog_15_method_118_code
def yX13_inFour : MethodName := ⟨RX13, "inFour", "(I)Z"⟩
abbrev cX13_most : ByteArray := prog_15_method_119_code
def yX13_most : MethodName := ⟨RX13, "most", "(III)I"⟩
abbrev cX13_copiesArea : ByteArray := prog_15_method_120_code
def yX13_copiesArea : MethodName := ⟨RX13, "copiesArea", "(II)V"⟩
abbrev cX13_hold : ByteArray := prog_15_method_121_code
def yX13_hold : MethodName := ⟨RX13, "hold", "(I)Z"⟩
abbrev cX13_restore : ByteArray := prog_15_method_122_code
def yX13_restore : MethodName := ⟨RX13, "restore", "(I)Z"⟩
abbrev cX13_count : ByteArray := prog_15_method_123_code
def yX13_count : MethodName := ⟨RX13, "count", "(I)I"⟩
def RJ6 : String := "java/lang/Integer"
abbrev cJ6_bitCount_0f7a4 : ByteArray := prog_16_method_49_code
def yJ6_bitCount_0f7a4 : MethodName := ⟨RJ6, "bitCount", "(I)I"⟩
def RJ9 : String := "java/lang/Math"
abbrev cJ9_max_7cf53 : ByteArray := prog_17_method_65_code
def yJ9_max_7cf53 : MethodName := ⟨RJ9, "max", "(II)I"⟩
abbrev cJ9_max_f86c9 : ByteArray := prog_17_method_66_code
def yJ9_max_f86c9 : MethodName := ⟨RJ9, "max", "(JJ)J"⟩
abbrev cJ9_min_7cf53 : ByteArray := prog_17_method_69_code
def yJ9_min_7cf53 : MethodName := ⟨RJ9, "min", "(II)I"⟩
def RJ0 : String := "java/lang/String"
abbrev cJ0_length_8abf5 : ByteArray := prog_18_method_54_code
def yJ0_length_8abf5 : MethodName := ⟨RJ0, "length", "()I"⟩
abbrev cJ0_charAt_5068e : ByteArray := prog_18_method_56_code
def yJ0_charAt_5068e : MethodName := ⟨RJ0, "charAt", "(I)C"⟩
abbrev cJ0_coder_7d493 : ByteArray := prog_18_method_152_code
def yJ0_coder_7d493 : MethodName := ⟨RJ0, "coder", "()B"⟩
abbrev cJ0_isLatin1_aae02 : ByteArray := prog_18_method_154_code
def yJ0_isLatin1_aae02 : MethodName := ⟨RJ0, "isLatin1", "()Z"⟩
abbrev cJ0_checkIndex_df160 : ByteArray := prog_18_method_155_code
def yJ0_checkIndex_df160 : MethodName := ⟨RJ0, "checkIndex", "(II)V"⟩
def RJ1 : String := "java/lang/StringLatin1"
abbrev cJ1_charAt_3b067 : ByteArray := prog_19_method_2_code
def yJ1_charAt_3b067 : MethodName := ⟨RJ1, "charAt", "([BI)C"⟩
def RJ2 : String := "java/lang/StringUTF16"
abbrev cJ2_getChar_3b067 : ByteArray := prog_20_method_5_code
def yJ2_getChar_3b067 : MethodName := ⟨RJ2, "getChar", "([BI)C"⟩
abbrev cJ2_length_9d52b : ByteArray := prog_20_method_6_code
def yJ2_length_9d52b : MethodName := ⟨RJ2, "length", "([B)I"⟩
abbrev cJ2_charAt_3b067 : ByteArray := prog_20_method_83_code
def yJ2_charAt_3b067 : MethodName := ⟨RJ2, "charAt", "([BI)C"⟩
abbrev cJ2_checkIndex_2214a : ByteArray := prog_20_method_91_code
def yJ2_checkIndex_2214a : MethodName := ⟨RJ2, "checkIndex", "(I[B)V"⟩
def RJ3 : String := "jdk/internal/util/Preconditions"
abbrev cJ3_checkIndex_8e157 : ByteArray := prog_21_method_11_code
def yJ3_checkIndex_8e157 : MethodName := ⟨RJ3, "checkIndex", "(IILjava/util/function/BiFunction;)I"⟩
def RL : String := "MiceEngineLaw"
abbrev cL_law : ByteArray := code
abbrev vwCl : List vw_C := [(RX0, TX0, 4), (RX1, TX1, 11), (RX2, TX2, 7), (RX3, TX3, 15), (RX4, TX4, 7), (RX5, TX5, 10), (RX6, TX6, 4), (RX7, TX7, 6), (RX8, TX8, 9), (RX9, TX9, 14), (RX10, TX10, 6), (RX11, TX11, 6), (RX12, TX12, 12), (RX13, TX13, 85)]
