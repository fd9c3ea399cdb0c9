-- ===== PART A: goes FIRST, ahead of the names: the tables' words, and 'selects' of the private methods out of them =====
/-- a private method of a class that the tables say can be made, by its rows of tables_1 -/
def lw_okq (q : MethodName × Nat) : Prop := (q.1.cls ≠ "java/lang/invoke/MethodHandle" ∧ q.1.cls ≠ "java/lang/invoke/VarHandle") ∧ Cond.instantiable q.1.cls q.2 ∈ tables_1 ∧ Cond.privateMethod q.1 ∈ tables_1 ∧ Cond.instanceMethod q.1 ∈ tables_1
theorem lw_p0 : lw_okq (⟨"OneReader", "mostToSet", "(I)I"⟩, 9) := ⟨⟨by decide +kernel, by decide +kernel⟩, List.mem_of_getElem? (i := 19) (by decide +kernel), List.mem_of_getElem? (i := 246) (by decide +kernel), List.mem_of_getElem? (i := 247) (by decide +kernel)⟩
theorem lw_p1 : lw_okq (⟨"OneReader", "appendByte", "(IZ)V"⟩, 9) := ⟨⟨by decide +kernel, by decide +kernel⟩, List.mem_of_getElem? (i := 19) (by decide +kernel), List.mem_of_getElem? (i := 273) (by decide +kernel), List.mem_of_getElem? (i := 274) (by decide +kernel)⟩
theorem lw_p2 : lw_okq (⟨"OneReader$Tokens", "append", "(III)V"⟩, 4) := ⟨⟨by decide +kernel, by decide +kernel⟩, List.mem_of_getElem? (i := 149) (by decide +kernel), List.mem_of_getElem? (i := 382) (by decide +kernel), List.mem_of_getElem? (i := 383) (by decide +kernel)⟩
theorem lw_p3 : lw_okq (⟨"OneReader$Grammar", "readPart", "(I)V"⟩, 7) := ⟨⟨by decide +kernel, by decide +kernel⟩, List.mem_of_getElem? (i := 143) (by decide +kernel), List.mem_of_getElem? (i := 390) (by decide +kernel), List.mem_of_getElem? (i := 391) (by decide +kernel)⟩
theorem lw_p4 : lw_okq (⟨"OneReader$Grammar", "expect", "(I)V"⟩, 7) := ⟨⟨by decide +kernel, by decide +kernel⟩, List.mem_of_getElem? (i := 143) (by decide +kernel), List.mem_of_getElem? (i := 394) (by decide +kernel), List.mem_of_getElem? (i := 395) (by decide +kernel)⟩
theorem lw_p5 : lw_okq (⟨"OneReader$Grammar", "next", "()V"⟩, 7) := ⟨⟨by decide +kernel, by decide +kernel⟩, List.mem_of_getElem? (i := 143) (by decide +kernel), List.mem_of_getElem? (i := 398) (by decide +kernel), List.mem_of_getElem? (i := 399) (by decide +kernel)⟩
theorem lw_p6 : lw_okq (⟨"OneReader$Grammar", "fail", "()V"⟩, 7) := ⟨⟨by decide +kernel, by decide +kernel⟩, List.mem_of_getElem? (i := 143) (by decide +kernel), List.mem_of_getElem? (i := 402) (by decide +kernel), List.mem_of_getElem? (i := 403) (by decide +kernel)⟩
theorem lw_p7 : lw_okq (⟨"OneReader$Grammar", "readOr", "()V"⟩, 7) := ⟨⟨by decide +kernel, by decide +kernel⟩, List.mem_of_getElem? (i := 143) (by decide +kernel), List.mem_of_getElem? (i := 410) (by decide +kernel), List.mem_of_getElem? (i := 411) (by decide +kernel)⟩
theorem lw_p8 : lw_okq (⟨"OneReader$Grammar", "readAnd", "()V"⟩, 7) := ⟨⟨by decide +kernel, by decide +kernel⟩, List.mem_of_getElem? (i := 143) (by decide +kernel), List.mem_of_getElem? (i := 414) (by decide +kernel), List.mem_of_getElem? (i := 415) (by decide +kernel)⟩
theorem lw_p9 : lw_okq (⟨"OneReader$Grammar", "readNot", "()V"⟩, 7) := ⟨⟨by decide +kernel, by decide +kernel⟩, List.mem_of_getElem? (i := 143) (by decide +kernel), List.mem_of_getElem? (i := 418) (by decide +kernel), List.mem_of_getElem? (i := 419) (by decide +kernel)⟩
theorem lw_p10 : lw_okq (⟨"OneReader$Grammar", "enter", "()Z"⟩, 7) := ⟨⟨by decide +kernel, by decide +kernel⟩, List.mem_of_getElem? (i := 143) (by decide +kernel), List.mem_of_getElem? (i := 422) (by decide +kernel), List.mem_of_getElem? (i := 423) (by decide +kernel)⟩
theorem lw_p11 : lw_okq (⟨"OneReader$Grammar", "emit", "(I)V"⟩, 7) := ⟨⟨by decide +kernel, by decide +kernel⟩, List.mem_of_getElem? (i := 143) (by decide +kernel), List.mem_of_getElem? (i := 426) (by decide +kernel), List.mem_of_getElem? (i := 427) (by decide +kernel)⟩
theorem lw_p12 : lw_okq (⟨"OneReader$Grammar", "readSum", "()V"⟩, 7) := ⟨⟨by decide +kernel, by decide +kernel⟩, List.mem_of_getElem? (i := 143) (by decide +kernel), List.mem_of_getElem? (i := 430) (by decide +kernel), List.mem_of_getElem? (i := 431) (by decide +kernel)⟩
theorem lw_p13 : lw_okq (⟨"OneReader$Grammar", "readTerm", "()V"⟩, 7) := ⟨⟨by decide +kernel, by decide +kernel⟩, List.mem_of_getElem? (i := 143) (by decide +kernel), List.mem_of_getElem? (i := 434) (by decide +kernel), List.mem_of_getElem? (i := 435) (by decide +kernel)⟩
theorem lw_p14 : lw_okq (⟨"OneReader$Grammar", "readOne", "()V"⟩, 7) := ⟨⟨by decide +kernel, by decide +kernel⟩, List.mem_of_getElem? (i := 143) (by decide +kernel), List.mem_of_getElem? (i := 438) (by decide +kernel), List.mem_of_getElem? (i := 439) (by decide +kernel)⟩
theorem lw_p15 : lw_okq (⟨"OneReader$Reckoner", "act", "(II)I"⟩, 2) := ⟨⟨by decide +kernel, by decide +kernel⟩, List.mem_of_getElem? (i := 48) (by decide +kernel), List.mem_of_getElem? (i := 504) (by decide +kernel), List.mem_of_getElem? (i := 505) (by decide +kernel)⟩
def lw_privs_1 : List (MethodName × Nat) := [(⟨"OneReader", "mostToSet", "(I)I"⟩, 9), (⟨"OneReader", "appendByte", "(IZ)V"⟩, 9), (⟨"OneReader$Tokens", "append", "(III)V"⟩, 4), (⟨"OneReader$Grammar", "readPart", "(I)V"⟩, 7), (⟨"OneReader$Grammar", "expect", "(I)V"⟩, 7), (⟨"OneReader$Grammar", "next", "()V"⟩, 7), (⟨"OneReader$Grammar", "fail", "()V"⟩, 7), (⟨"OneReader$Grammar", "readOr", "()V"⟩, 7), (⟨"OneReader$Grammar", "readAnd", "()V"⟩, 7), (⟨"OneReader$Grammar", "readNot", "()V"⟩, 7), (⟨"OneReader$Grammar", "enter", "()Z"⟩, 7), (⟨"OneReader$Grammar", "emit", "(I)V"⟩, 7), (⟨"OneReader$Grammar", "readSum", "()V"⟩, 7), (⟨"OneReader$Grammar", "readTerm", "()V"⟩, 7), (⟨"OneReader$Grammar", "readOne", "()V"⟩, 7), (⟨"OneReader$Reckoner", "act", "(II)I"⟩, 2)]
theorem lw_r1 : ∀ q ∈ lw_privs_1, lw_okq q := List.forall_mem_cons.mpr ⟨lw_p0, List.forall_mem_cons.mpr ⟨lw_p1, List.forall_mem_cons.mpr ⟨lw_p2, List.forall_mem_cons.mpr ⟨lw_p3, List.forall_mem_cons.mpr ⟨lw_p4, List.forall_mem_cons.mpr ⟨lw_p5, List.forall_mem_cons.mpr ⟨lw_p6, List.forall_mem_cons.mpr ⟨lw_p7, List.forall_mem_cons.mpr ⟨lw_p8, List.forall_mem_cons.mpr ⟨lw_p9, List.forall_mem_cons.mpr ⟨lw_p10, List.forall_mem_cons.mpr ⟨lw_p11, List.forall_mem_cons.mpr ⟨lw_p12, List.forall_mem_cons.mpr ⟨lw_p13, List.forall_mem_cons.mpr ⟨lw_p14, List.forall_mem_cons.mpr ⟨lw_p15, fun _ h => absurd h List.not_mem_nil⟩⟩⟩⟩⟩⟩⟩⟩⟩⟩⟩⟩⟩⟩⟩⟩
theorem lw_p16 : lw_okq (⟨"OneReader$Book", "chainOf", "(I)I"⟩, 19) := ⟨⟨by decide +kernel, by decide +kernel⟩, List.mem_of_getElem? (i := 61) (by decide +kernel), List.mem_of_getElem? (i := 535) (by decide +kernel), List.mem_of_getElem? (i := 536) (by decide +kernel)⟩
theorem lw_p17 : lw_okq (⟨"OneReader$Book", "entryOn", "(I)I"⟩, 19) := ⟨⟨by decide +kernel, by decide +kernel⟩, List.mem_of_getElem? (i := 61) (by decide +kernel), List.mem_of_getElem? (i := 562) (by decide +kernel), List.mem_of_getElem? (i := 563) (by decide +kernel)⟩
theorem lw_p18 : lw_okq (⟨"OneReader$Book", "readPages", "(III)V"⟩, 19) := ⟨⟨by decide +kernel, by decide +kernel⟩, List.mem_of_getElem? (i := 61) (by decide +kernel), List.mem_of_getElem? (i := 567) (by decide +kernel), List.mem_of_getElem? (i := 568) (by decide +kernel)⟩
theorem lw_p19 : lw_okq (⟨"OneReader$Book", "liesIn", "(III)Z"⟩, 19) := ⟨⟨by decide +kernel, by decide +kernel⟩, List.mem_of_getElem? (i := 61) (by decide +kernel), List.mem_of_getElem? (i := 571) (by decide +kernel), List.mem_of_getElem? (i := 572) (by decide +kernel)⟩
theorem lw_p20 : lw_okq (⟨"OneReader$Book", "behindOf", "(I)I"⟩, 19) := ⟨⟨by decide +kernel, by decide +kernel⟩, List.mem_of_getElem? (i := 61) (by decide +kernel), List.mem_of_getElem? (i := 589) (by decide +kernel), List.mem_of_getElem? (i := 590) (by decide +kernel)⟩
theorem lw_p21 : lw_okq (⟨"OneReader", "think", "(III)V"⟩, 9) := ⟨⟨by decide +kernel, by decide +kernel⟩, List.mem_of_getElem? (i := 19) (by decide +kernel), List.mem_of_getElem? (i := 644) (by decide +kernel), List.mem_of_getElem? (i := 645) (by decide +kernel)⟩
theorem lw_p22 : lw_okq (⟨"OneReader", "passDays", "(IIII)I"⟩, 9) := ⟨⟨by decide +kernel, by decide +kernel⟩, List.mem_of_getElem? (i := 19) (by decide +kernel), List.mem_of_getElem? (i := 654) (by decide +kernel), List.mem_of_getElem? (i := 655) (by decide +kernel)⟩
theorem lw_p23 : lw_okq (⟨"OneReader", "best", "(IIIIII)I"⟩, 9) := ⟨⟨by decide +kernel, by decide +kernel⟩, List.mem_of_getElem? (i := 19) (by decide +kernel), List.mem_of_getElem? (i := 669) (by decide +kernel), List.mem_of_getElem? (i := 670) (by decide +kernel)⟩
theorem lw_p24 : lw_okq (⟨"OneReader", "worthIf", "(IIII)I"⟩, 9) := ⟨⟨by decide +kernel, by decide +kernel⟩, List.mem_of_getElem? (i := 19) (by decide +kernel), List.mem_of_getElem? (i := 673) (by decide +kernel), List.mem_of_getElem? (i := 674) (by decide +kernel)⟩
theorem lw_p25 : lw_okq (⟨"OneReader", "refusalOf", "(I)I"⟩, 9) := ⟨⟨by decide +kernel, by decide +kernel⟩, List.mem_of_getElem? (i := 19) (by decide +kernel), List.mem_of_getElem? (i := 710) (by decide +kernel), List.mem_of_getElem? (i := 711) (by decide +kernel)⟩
theorem lw_p26 : lw_okq (⟨"OneReader", "firstOtherwise", "(LOneReader$Sheet;)I"⟩, 9) := ⟨⟨by decide +kernel, by decide +kernel⟩, List.mem_of_getElem? (i := 19) (by decide +kernel), List.mem_of_getElem? (i := 721) (by decide +kernel), List.mem_of_getElem? (i := 722) (by decide +kernel)⟩
theorem lw_p27 : lw_okq (⟨"OneReader", "fitting", "(LOneReader$Sheet;IIII)I"⟩, 9) := ⟨⟨by decide +kernel, by decide +kernel⟩, List.mem_of_getElem? (i := 19) (by decide +kernel), List.mem_of_getElem? (i := 729) (by decide +kernel), List.mem_of_getElem? (i := 730) (by decide +kernel)⟩
theorem lw_p28 : lw_okq (⟨"OneReaderModel", "next", "()V"⟩, 51) := ⟨⟨by decide +kernel, by decide +kernel⟩, List.mem_of_getElem? (i := 817) (by decide +kernel), List.mem_of_getElem? (i := 827) (by decide +kernel), List.mem_of_getElem? (i := 828) (by decide +kernel)⟩
theorem lw_p29 : lw_okq (⟨"OneReaderModel", "wordFrom", "(II)I"⟩, 51) := ⟨⟨by decide +kernel, by decide +kernel⟩, List.mem_of_getElem? (i := 817) (by decide +kernel), List.mem_of_getElem? (i := 834) (by decide +kernel), List.mem_of_getElem? (i := 835) (by decide +kernel)⟩
theorem lw_p30 : lw_okq (⟨"OneReaderModel", "eRead", "()Z"⟩, 51) := ⟨⟨by decide +kernel, by decide +kernel⟩, List.mem_of_getElem? (i := 817) (by decide +kernel), List.mem_of_getElem? (i := 838) (by decide +kernel), List.mem_of_getElem? (i := 839) (by decide +kernel)⟩
theorem lw_p31 : lw_okq (⟨"OneReaderModel", "puts", "(I)V"⟩, 51) := ⟨⟨by decide +kernel, by decide +kernel⟩, List.mem_of_getElem? (i := 817) (by decide +kernel), List.mem_of_getElem? (i := 843) (by decide +kernel), List.mem_of_getElem? (i := 844) (by decide +kernel)⟩
def lw_privs_2 : List (MethodName × Nat) := [(⟨"OneReader$Book", "chainOf", "(I)I"⟩, 19), (⟨"OneReader$Book", "entryOn", "(I)I"⟩, 19), (⟨"OneReader$Book", "readPages", "(III)V"⟩, 19), (⟨"OneReader$Book", "liesIn", "(III)Z"⟩, 19), (⟨"OneReader$Book", "behindOf", "(I)I"⟩, 19), (⟨"OneReader", "think", "(III)V"⟩, 9), (⟨"OneReader", "passDays", "(IIII)I"⟩, 9), (⟨"OneReader", "best", "(IIIIII)I"⟩, 9), (⟨"OneReader", "worthIf", "(IIII)I"⟩, 9), (⟨"OneReader", "refusalOf", "(I)I"⟩, 9), (⟨"OneReader", "firstOtherwise", "(LOneReader$Sheet;)I"⟩, 9), (⟨"OneReader", "fitting", "(LOneReader$Sheet;IIII)I"⟩, 9), (⟨"OneReaderModel", "next", "()V"⟩, 51), (⟨"OneReaderModel", "wordFrom", "(II)I"⟩, 51), (⟨"OneReaderModel", "eRead", "()Z"⟩, 51), (⟨"OneReaderModel", "puts", "(I)V"⟩, 51)]
theorem lw_r2 : ∀ q ∈ lw_privs_2, lw_okq q := List.forall_mem_cons.mpr ⟨lw_p16, List.forall_mem_cons.mpr ⟨lw_p17, List.forall_mem_cons.mpr ⟨lw_p18, List.forall_mem_cons.mpr ⟨lw_p19, List.forall_mem_cons.mpr ⟨lw_p20, List.forall_mem_cons.mpr ⟨lw_p21, List.forall_mem_cons.mpr ⟨lw_p22, List.forall_mem_cons.mpr ⟨lw_p23, List.forall_mem_cons.mpr ⟨lw_p24, List.forall_mem_cons.mpr ⟨lw_p25, List.forall_mem_cons.mpr ⟨lw_p26, List.forall_mem_cons.mpr ⟨lw_p27, List.forall_mem_cons.mpr ⟨lw_p28, List.forall_mem_cons.mpr ⟨lw_p29, List.forall_mem_cons.mpr ⟨lw_p30, List.forall_mem_cons.mpr ⟨lw_p31, fun _ h => absurd h List.not_mem_nil⟩⟩⟩⟩⟩⟩⟩⟩⟩⟩⟩⟩⟩⟩⟩⟩
theorem lw_p32 : lw_okq (⟨"OneReaderModel", "unwinds", "(I)V"⟩, 51) := ⟨⟨by decide +kernel, by decide +kernel⟩, List.mem_of_getElem? (i := 817) (by decide +kernel), List.mem_of_getElem? (i := 847) (by decide +kernel), List.mem_of_getElem? (i := 848) (by decide +kernel)⟩
theorem lw_p33 : lw_okq (⟨"OneReaderModel", "opensOne", "(I)Z"⟩, 51) := ⟨⟨by decide +kernel, by decide +kernel⟩, List.mem_of_getElem? (i := 817) (by decide +kernel), List.mem_of_getElem? (i := 854) (by decide +kernel), List.mem_of_getElem? (i := 855) (by decide +kernel)⟩
theorem lw_p34 : lw_okq (⟨"OneReaderModel", "holds", "(I)V"⟩, 51) := ⟨⟨by decide +kernel, by decide +kernel⟩, List.mem_of_getElem? (i := 817) (by decide +kernel), List.mem_of_getElem? (i := 858) (by decide +kernel), List.mem_of_getElem? (i := 859) (by decide +kernel)⟩
theorem lw_p35 : lw_okq (⟨"OneReaderModel", "signOf", "()I"⟩, 51) := ⟨⟨by decide +kernel, by decide +kernel⟩, List.mem_of_getElem? (i := 817) (by decide +kernel), List.mem_of_getElem? (i := 862) (by decide +kernel), List.mem_of_getElem? (i := 863) (by decide +kernel)⟩
theorem lw_p36 : lw_okq (⟨"OneReaderModel", "between", "(I)Z"⟩, 51) := ⟨⟨by decide +kernel, by decide +kernel⟩, List.mem_of_getElem? (i := 817) (by decide +kernel), List.mem_of_getElem? (i := 866) (by decide +kernel), List.mem_of_getElem? (i := 867) (by decide +kernel)⟩
theorem lw_p37 : lw_okq (⟨"OneReaderModel", "isSo", "(II)Z"⟩, 51) := ⟨⟨by decide +kernel, by decide +kernel⟩, List.mem_of_getElem? (i := 817) (by decide +kernel), List.mem_of_getElem? (i := 1032) (by decide +kernel), List.mem_of_getElem? (i := 1033) (by decide +kernel)⟩
theorem lw_p38 : lw_okq (⟨"OneReaderModel", "pagesAll", "()I"⟩, 51) := ⟨⟨by decide +kernel, by decide +kernel⟩, List.mem_of_getElem? (i := 817) (by decide +kernel), List.mem_of_getElem? (i := 1036) (by decide +kernel), List.mem_of_getElem? (i := 1037) (by decide +kernel)⟩
theorem lw_p39 : lw_okq (⟨"OneReaderModel", "firstPage", "(I)I"⟩, 51) := ⟨⟨by decide +kernel, by decide +kernel⟩, List.mem_of_getElem? (i := 817) (by decide +kernel), List.mem_of_getElem? (i := 1040) (by decide +kernel), List.mem_of_getElem? (i := 1041) (by decide +kernel)⟩
theorem lw_p40 : lw_okq (⟨"OneReaderModel", "takesOf", "(I)I"⟩, 51) := ⟨⟨by decide +kernel, by decide +kernel⟩, List.mem_of_getElem? (i := 817) (by decide +kernel), List.mem_of_getElem? (i := 1044) (by decide +kernel), List.mem_of_getElem? (i := 1045) (by decide +kernel)⟩
theorem lw_p41 : lw_okq (⟨"OneReaderModel", "all", "()I"⟩, 51) := ⟨⟨by decide +kernel, by decide +kernel⟩, List.mem_of_getElem? (i := 817) (by decide +kernel), List.mem_of_getElem? (i := 1051) (by decide +kernel), List.mem_of_getElem? (i := 1052) (by decide +kernel)⟩
theorem lw_p42 : lw_okq (⟨"OneReaderModel", "isEntry", "(I)Z"⟩, 51) := ⟨⟨by decide +kernel, by decide +kernel⟩, List.mem_of_getElem? (i := 817) (by decide +kernel), List.mem_of_getElem? (i := 1072) (by decide +kernel), List.mem_of_getElem? (i := 1073) (by decide +kernel)⟩
theorem lw_p43 : lw_okq (⟨"OneReaderModel", "asksOf", "(IIII)I"⟩, 51) := ⟨⟨by decide +kernel, by decide +kernel⟩, List.mem_of_getElem? (i := 817) (by decide +kernel), List.mem_of_getElem? (i := 1076) (by decide +kernel), List.mem_of_getElem? (i := 1077) (by decide +kernel)⟩
theorem lw_p44 : lw_okq (⟨"OneReaderModel", "says", "(I)I"⟩, 51) := ⟨⟨by decide +kernel, by decide +kernel⟩, List.mem_of_getElem? (i := 817) (by decide +kernel), List.mem_of_getElem? (i := 1080) (by decide +kernel), List.mem_of_getElem? (i := 1081) (by decide +kernel)⟩
theorem lw_p45 : lw_okq (⟨"OneReaderModel", "needsOn", "(I)Z"⟩, 51) := ⟨⟨by decide +kernel, by decide +kernel⟩, List.mem_of_getElem? (i := 817) (by decide +kernel), List.mem_of_getElem? (i := 1095) (by decide +kernel), List.mem_of_getElem? (i := 1096) (by decide +kernel)⟩
theorem lw_p46 : lw_okq (⟨"OneReaderModel", "holding", "()I"⟩, 51) := ⟨⟨by decide +kernel, by decide +kernel⟩, List.mem_of_getElem? (i := 817) (by decide +kernel), List.mem_of_getElem? (i := 1107) (by decide +kernel), List.mem_of_getElem? (i := 1108) (by decide +kernel)⟩
theorem lw_p47 : lw_okq (⟨"OneReaderModel", "byThemselves", "()I"⟩, 51) := ⟨⟨by decide +kernel, by decide +kernel⟩, List.mem_of_getElem? (i := 817) (by decide +kernel), List.mem_of_getElem? (i := 1111) (by decide +kernel), List.mem_of_getElem? (i := 1112) (by decide +kernel)⟩
def lw_privs_3 : List (MethodName × Nat) := [(⟨"OneReaderModel", "unwinds", "(I)V"⟩, 51), (⟨"OneReaderModel", "opensOne", "(I)Z"⟩, 51), (⟨"OneReaderModel", "holds", "(I)V"⟩, 51), (⟨"OneReaderModel", "signOf", "()I"⟩, 51), (⟨"OneReaderModel", "between", "(I)Z"⟩, 51), (⟨"OneReaderModel", "isSo", "(II)Z"⟩, 51), (⟨"OneReaderModel", "pagesAll", "()I"⟩, 51), (⟨"OneReaderModel", "firstPage", "(I)I"⟩, 51), (⟨"OneReaderModel", "takesOf", "(I)I"⟩, 51), (⟨"OneReaderModel", "all", "()I"⟩, 51), (⟨"OneReaderModel", "isEntry", "(I)Z"⟩, 51), (⟨"OneReaderModel", "asksOf", "(IIII)I"⟩, 51), (⟨"OneReaderModel", "says", "(I)I"⟩, 51), (⟨"OneReaderModel", "needsOn", "(I)Z"⟩, 51), (⟨"OneReaderModel", "holding", "()I"⟩, 51), (⟨"OneReaderModel", "byThemselves", "()I"⟩, 51)]
theorem lw_r3 : ∀ q ∈ lw_privs_3, lw_okq q := List.forall_mem_cons.mpr ⟨lw_p32, List.forall_mem_cons.mpr ⟨lw_p33, List.forall_mem_cons.mpr ⟨lw_p34, List.forall_mem_cons.mpr ⟨lw_p35, List.forall_mem_cons.mpr ⟨lw_p36, List.forall_mem_cons.mpr ⟨lw_p37, List.forall_mem_cons.mpr ⟨lw_p38, List.forall_mem_cons.mpr ⟨lw_p39, List.forall_mem_cons.mpr ⟨lw_p40, List.forall_mem_cons.mpr ⟨lw_p41, List.forall_mem_cons.mpr ⟨lw_p42, List.forall_mem_cons.mpr ⟨lw_p43, List.forall_mem_cons.mpr ⟨lw_p44, List.forall_mem_cons.mpr ⟨lw_p45, List.forall_mem_cons.mpr ⟨lw_p46, List.forall_mem_cons.mpr ⟨lw_p47, fun _ h => absurd h List.not_mem_nil⟩⟩⟩⟩⟩⟩⟩⟩⟩⟩⟩⟩⟩⟩⟩⟩
theorem lw_p48 : lw_okq (⟨"OneReaderModel", "holdsItself", "(I)Z"⟩, 51) := ⟨⟨by decide +kernel, by decide +kernel⟩, List.mem_of_getElem? (i := 817) (by decide +kernel), List.mem_of_getElem? (i := 1115) (by decide +kernel), List.mem_of_getElem? (i := 1116) (by decide +kernel)⟩
theorem lw_p49 : lw_okq (⟨"OneReaderModel", "behindOf", "(I)I"⟩, 51) := ⟨⟨by decide +kernel, by decide +kernel⟩, List.mem_of_getElem? (i := 817) (by decide +kernel), List.mem_of_getElem? (i := 1119) (by decide +kernel), List.mem_of_getElem? (i := 1120) (by decide +kernel)⟩
theorem lw_p50 : lw_okq (⟨"OneReaderModel", "chainOf", "(I)I"⟩, 51) := ⟨⟨by decide +kernel, by decide +kernel⟩, List.mem_of_getElem? (i := 817) (by decide +kernel), List.mem_of_getElem? (i := 1127) (by decide +kernel), List.mem_of_getElem? (i := 1128) (by decide +kernel)⟩
theorem lw_p51 : lw_okq (⟨"OneReaderModel", "isDeed", "(I)Z"⟩, 51) := ⟨⟨by decide +kernel, by decide +kernel⟩, List.mem_of_getElem? (i := 817) (by decide +kernel), List.mem_of_getElem? (i := 1139) (by decide +kernel), List.mem_of_getElem? (i := 1140) (by decide +kernel)⟩
theorem lw_p52 : lw_okq (⟨"OneReaderModel", "doneBy", "(I)I"⟩, 51) := ⟨⟨by decide +kernel, by decide +kernel⟩, List.mem_of_getElem? (i := 817) (by decide +kernel), List.mem_of_getElem? (i := 1147) (by decide +kernel), List.mem_of_getElem? (i := 1148) (by decide +kernel)⟩
theorem lw_p53 : lw_okq (⟨"OneReaderModel", "worthOf", "(I)I"⟩, 51) := ⟨⟨by decide +kernel, by decide +kernel⟩, List.mem_of_getElem? (i := 817) (by decide +kernel), List.mem_of_getElem? (i := 1151) (by decide +kernel), List.mem_of_getElem? (i := 1152) (by decide +kernel)⟩
theorem lw_p54 : lw_okq (⟨"OneReaderModel", "dayOf", "()V"⟩, 51) := ⟨⟨by decide +kernel, by decide +kernel⟩, List.mem_of_getElem? (i := 817) (by decide +kernel), List.mem_of_getElem? (i := 1162) (by decide +kernel), List.mem_of_getElem? (i := 1163) (by decide +kernel)⟩
theorem lw_p55 : lw_okq (⟨"OneReaderModel", "entryOn", "(I)I"⟩, 51) := ⟨⟨by decide +kernel, by decide +kernel⟩, List.mem_of_getElem? (i := 817) (by decide +kernel), List.mem_of_getElem? (i := 1166) (by decide +kernel), List.mem_of_getElem? (i := 1167) (by decide +kernel)⟩
theorem lw_p56 : lw_okq (⟨"OneReaderModel", "goes", "(I)I"⟩, 51) := ⟨⟨by decide +kernel, by decide +kernel⟩, List.mem_of_getElem? (i := 817) (by decide +kernel), List.mem_of_getElem? (i := 1174) (by decide +kernel), List.mem_of_getElem? (i := 1175) (by decide +kernel)⟩
theorem lw_p57 : lw_okq (⟨"OneReaderModel", "keeps", "()V"⟩, 51) := ⟨⟨by decide +kernel, by decide +kernel⟩, List.mem_of_getElem? (i := 817) (by decide +kernel), List.mem_of_getElem? (i := 1178) (by decide +kernel), List.mem_of_getElem? (i := 1179) (by decide +kernel)⟩
theorem lw_p58 : lw_okq (⟨"OneReaderModel", "lives", "(I)V"⟩, 51) := ⟨⟨by decide +kernel, by decide +kernel⟩, List.mem_of_getElem? (i := 817) (by decide +kernel), List.mem_of_getElem? (i := 1182) (by decide +kernel), List.mem_of_getElem? (i := 1183) (by decide +kernel)⟩
theorem lw_p59 : lw_okq (⟨"OneReaderModel", "laysBack", "()V"⟩, 51) := ⟨⟨by decide +kernel, by decide +kernel⟩, List.mem_of_getElem? (i := 817) (by decide +kernel), List.mem_of_getElem? (i := 1186) (by decide +kernel), List.mem_of_getElem? (i := 1187) (by decide +kernel)⟩
theorem lw_p60 : lw_okq (⟨"OneReaderModel", "toldRun", "(I)I"⟩, 51) := ⟨⟨by decide +kernel, by decide +kernel⟩, List.mem_of_getElem? (i := 817) (by decide +kernel), List.mem_of_getElem? (i := 1190) (by decide +kernel), List.mem_of_getElem? (i := 1191) (by decide +kernel)⟩
theorem lw_p61 : lw_okq (⟨"OneReaderModel", "goesFrom", "(III)I"⟩, 51) := ⟨⟨by decide +kernel, by decide +kernel⟩, List.mem_of_getElem? (i := 817) (by decide +kernel), List.mem_of_getElem? (i := 1202) (by decide +kernel), List.mem_of_getElem? (i := 1203) (by decide +kernel)⟩
theorem lw_p62 : lw_okq (⟨"OneReaderModel", "goesTo", "(III)I"⟩, 51) := ⟨⟨by decide +kernel, by decide +kernel⟩, List.mem_of_getElem? (i := 817) (by decide +kernel), List.mem_of_getElem? (i := 1218) (by decide +kernel), List.mem_of_getElem? (i := 1219) (by decide +kernel)⟩
theorem lw_p63 : lw_okq (⟨"OneReaderModel", "comesToItself", "(I)Z"⟩, 51) := ⟨⟨by decide +kernel, by decide +kernel⟩, List.mem_of_getElem? (i := 817) (by decide +kernel), List.mem_of_getElem? (i := 1230) (by decide +kernel), List.mem_of_getElem? (i := 1231) (by decide +kernel)⟩
def lw_privs_4 : List (MethodName × Nat) := [(⟨"OneReaderModel", "holdsItself", "(I)Z"⟩, 51), (⟨"OneReaderModel", "behindOf", "(I)I"⟩, 51), (⟨"OneReaderModel", "chainOf", "(I)I"⟩, 51), (⟨"OneReaderModel", "isDeed", "(I)Z"⟩, 51), (⟨"OneReaderModel", "doneBy", "(I)I"⟩, 51), (⟨"OneReaderModel", "worthOf", "(I)I"⟩, 51), (⟨"OneReaderModel", "dayOf", "()V"⟩, 51), (⟨"OneReaderModel", "entryOn", "(I)I"⟩, 51), (⟨"OneReaderModel", "goes", "(I)I"⟩, 51), (⟨"OneReaderModel", "keeps", "()V"⟩, 51), (⟨"OneReaderModel", "lives", "(I)V"⟩, 51), (⟨"OneReaderModel", "laysBack", "()V"⟩, 51), (⟨"OneReaderModel", "toldRun", "(I)I"⟩, 51), (⟨"OneReaderModel", "goesFrom", "(III)I"⟩, 51), (⟨"OneReaderModel", "goesTo", "(III)I"⟩, 51), (⟨"OneReaderModel", "comesToItself", "(I)Z"⟩, 51)]
theorem lw_r4 : ∀ q ∈ lw_privs_4, lw_okq q := List.forall_mem_cons.mpr ⟨lw_p48, List.forall_mem_cons.mpr ⟨lw_p49, List.forall_mem_cons.mpr ⟨lw_p50, List.forall_mem_cons.mpr ⟨lw_p51, List.forall_mem_cons.mpr ⟨lw_p52, List.forall_mem_cons.mpr ⟨lw_p53, List.forall_mem_cons.mpr ⟨lw_p54, List.forall_mem_cons.mpr ⟨lw_p55, List.forall_mem_cons.mpr ⟨lw_p56, List.forall_mem_cons.mpr ⟨lw_p57, List.forall_mem_cons.mpr ⟨lw_p58, List.forall_mem_cons.mpr ⟨lw_p59, List.forall_mem_cons.mpr ⟨lw_p60, List.forall_mem_cons.mpr ⟨lw_p61, List.forall_mem_cons.mpr ⟨lw_p62, List.forall_mem_cons.mpr ⟨lw_p63, fun _ h => absurd h List.not_mem_nil⟩⟩⟩⟩⟩⟩⟩⟩⟩⟩⟩⟩⟩⟩⟩⟩
theorem lw_p64 : lw_okq (⟨"OneReaderModel", "sheetWrong", "(I)I"⟩, 51) := ⟨⟨by decide +kernel, by decide +kernel⟩, List.mem_of_getElem? (i := 817) (by decide +kernel), List.mem_of_getElem? (i := 1242) (by decide +kernel), List.mem_of_getElem? (i := 1243) (by decide +kernel)⟩
theorem lw_p65 : lw_okq (⟨"OneReaderModel", "unlike", "(I)I"⟩, 51) := ⟨⟨by decide +kernel, by decide +kernel⟩, List.mem_of_getElem? (i := 817) (by decide +kernel), List.mem_of_getElem? (i := 1246) (by decide +kernel), List.mem_of_getElem? (i := 1247) (by decide +kernel)⟩
theorem lw_p66 : lw_okq (⟨"OneReaderModel", "goesByLots", "(III)I"⟩, 51) := ⟨⟨by decide +kernel, by decide +kernel⟩, List.mem_of_getElem? (i := 817) (by decide +kernel), List.mem_of_getElem? (i := 1275) (by decide +kernel), List.mem_of_getElem? (i := 1276) (by decide +kernel)⟩
def lw_privs_5 : List (MethodName × Nat) := [(⟨"OneReaderModel", "sheetWrong", "(I)I"⟩, 51), (⟨"OneReaderModel", "unlike", "(I)I"⟩, 51), (⟨"OneReaderModel", "goesByLots", "(III)I"⟩, 51)]
theorem lw_r5 : ∀ q ∈ lw_privs_5, lw_okq q := List.forall_mem_cons.mpr ⟨lw_p64, List.forall_mem_cons.mpr ⟨lw_p65, List.forall_mem_cons.mpr ⟨lw_p66, fun _ h => absurd h List.not_mem_nil⟩⟩⟩
def lw_privs : List (MethodName × Nat) := lw_privs_1 ++ (lw_privs_2 ++ (lw_privs_3 ++ (lw_privs_4 ++ (lw_privs_5))))
def lw_tbl : List Cond := k2_sels lw_privs ++ tables_1
theorem lw_privs_ok : ∀ q ∈ lw_privs, lw_okq q := by
  show ∀ q ∈ lw_privs_1 ++ (lw_privs_2 ++ (lw_privs_3 ++ (lw_privs_4 ++ (lw_privs_5)))), lw_okq q
  exact List.forall_mem_append.mpr ⟨lw_r1, List.forall_mem_append.mpr ⟨lw_r2, List.forall_mem_append.mpr ⟨lw_r3, List.forall_mem_append.mpr ⟨lw_r4, lw_r5⟩⟩⟩⟩
theorem goodIn_r {big : List Cond} (ws : List Cond) (ps : List Nat) (hp : ws = ps.filterMap (fun i => big[i]?)) (h : ws.all goodWord = true) : GoodIn big ws := by
  intro w hw
  have h1 := List.all_eq_true.mp h w hw
  rw [hp] at hw
  obtain ⟨i, -, hi⟩ := List.mem_filterMap.mp hw
  have hm : w ∈ big := by first | exact List.mem_of_getElem? hi | exact List.getElem?_mem hi
  exact ⟨hm, good_of_word h1⟩
theorem goodIn_app {big a b : List Cond} (ha : GoodIn big a) (hb : GoodIn big b) : GoodIn big (a ++ b) := fun w h => (List.mem_append.mp h).elim (ha w) (hb w)
theorem goodIn_ca {big a b : List Cond} {c : Cond} (ha : GoodIn big (c :: a)) (hb : GoodIn big b) : GoodIn big (c :: (a ++ b)) := fun w h => (List.mem_cons.mp h).elim (fun e => ha w (List.mem_cons.mpr (Or.inl e))) (fun h => (List.mem_append.mp h).elim (fun h => ha w (List.mem_cons.mpr (Or.inr h))) (hb w))
theorem goodIn_sub {big ws : List Cond} (hm : ∀ w ∈ ws, w ∈ big) (h : ws.all goodWord = true) : GoodIn big ws := fun w hw => ⟨hm w hw, good_of_word (List.all_eq_true.mp h w hw)⟩
def RX0 : String := "OneReader$Book"
def TX0 : u_T := fun k => match k with
  | 0 => ("OneReader$Book", "kind", "[I", true)
  | 1 => ("OneReader$Book", "more", "[I", true)
  | 2 => ("OneReader$Book", "size", "[I", true)
  | 3 => ("OneReader$Book", "to", "[I", true)
  | 4 => ("OneReader$Book", "readOn", "[I", true)
  | 5 => ("OneReader$Book", "first", "[I", true)
  | 6 => ("OneReader$Book", "chain", "[I", true)
  | 7 => ("OneReader$Book", "deeds", "[I", true)
  | 8 => ("OneReader$Book", "entries", "I", false)
  | 9 => ("OneReader$Book", "deedCount", "I", false)
  | 10 => ("OneReader$Book", "page", "I", false)
  | 11 => ("OneReader$Book", "day", "I", false)
  | 12 => ("OneReader$Book", "bookmark", "I", false)
  | 13 => ("OneReader$Book", "skips", "I", false)
  | 14 => ("OneReader$Book", "came", "I", false)
  | 15 => ("OneReader$Book", "law", "I", false)
  | 16 => ("OneReader$Book", "began", "I", false)
  | 17 => ("OneReader$Book", "texts", "[LOneReader$Law;", true)
  | _ => ("OneReader$Book", "reckoner", "LOneReader$Reckoner;", true)
def tyX0 : Nat → FieldType := fun k => match k with
  | 0 => .array .int
  | 1 => .array .int
  | 2 => .array .int
  | 3 => .array .int
  | 4 => .array .int
  | 5 => .array .int
  | 6 => .array .int
  | 7 => .array .int
  | 8 => .int
  | 9 => .int
  | 10 => .int
  | 11 => .int
  | 12 => .int
  | 13 => .int
  | 14 => .int
  | 15 => .int
  | 16 => .int
  | 17 => .array (.object "OneReader$Law")
  | _ => .object "OneReader$Reckoner"
abbrev wsX00 : List Cond := u_ws RX0 TX0 19
theorem nmX0 : ∀ a, a < 19 → ∀ b, b < 19 → a ≠ b → (TX0 a).2.1 ≠ (TX0 b).2.1 := by decide +kernel
theorem tyX0_ok : ∀ k, k < 19 → parseFieldDescriptor (TX0 k).2.2.1 = some (tyX0 k) := by decide +kernel
abbrev cX0_init : ByteArray := prog_2_method_1_code
def yX0_init : MethodName := ⟨RX0, "<init>", "([LOneReader$Law;LOneReader$Reckoner;)V"⟩
abbrev cX0_takeFrom : ByteArray := prog_2_method_2_code
def yX0_takeFrom : MethodName := ⟨RX0, "takeFrom", "(LOneReader$Book;)V"⟩
abbrev cX0_has : ByteArray := prog_2_method_3_code
def yX0_has : MethodName := ⟨RX0, "has", "(I)Z"⟩
abbrev cX0_hasDeed : ByteArray := prog_2_method_4_code
def yX0_hasDeed : MethodName := ⟨RX0, "hasDeed", "(I)Z"⟩
abbrev cX0_allEntries : ByteArray := prog_2_method_5_code
def yX0_allEntries : MethodName := ⟨RX0, "allEntries", "()I"⟩
abbrev cX0_pages : ByteArray := prog_2_method_6_code
def yX0_pages : MethodName := ⟨RX0, "pages", "()I"⟩
abbrev cX0_firstOf : ByteArray := prog_2_method_7_code
def yX0_firstOf : MethodName := ⟨RX0, "firstOf", "(I)I"⟩
abbrev cX0_takesOf : ByteArray := prog_2_method_8_code
def yX0_takesOf : MethodName := ⟨RX0, "takesOf", "(I)I"⟩
abbrev cX0_add : ByteArray := prog_2_method_9_code
def yX0_add : MethodName := ⟨RX0, "add", "(III)Z"⟩
abbrev cX0_addDeed : ByteArray := prog_2_method_10_code
def yX0_addDeed : MethodName := ⟨RX0, "addDeed", "(I)Z"⟩
abbrev cX0_settle : ByteArray := prog_2_method_11_code
def yX0_settle : MethodName := ⟨RX0, "settle", "()V"⟩
abbrev cX0_chainOf : ByteArray := prog_2_method_12_code
def yX0_chainOf : MethodName := ⟨RX0, "chainOf", "(I)I"⟩
abbrev cX0_sendsToItself : ByteArray := prog_2_method_13_code
def yX0_sendsToItself : MethodName := ⟨RX0, "sendsToItself", "(I)Z"⟩
abbrev cX0_passDay : ByteArray := prog_2_method_14_code
def yX0_passDay : MethodName := ⟨RX0, "passDay", "()V"⟩
abbrev cX0_entryOn : ByteArray := prog_2_method_15_code
def yX0_entryOn : MethodName := ⟨RX0, "entryOn", "(I)I"⟩
abbrev cX0_readPages : ByteArray := prog_2_method_16_code
def yX0_readPages : MethodName := ⟨RX0, "readPages", "(III)V"⟩
abbrev cX0_liesIn : ByteArray := prog_2_method_17_code
def yX0_liesIn : MethodName := ⟨RX0, "liesIn", "(III)Z"⟩
abbrev cX0_says : ByteArray := prog_2_method_18_code
def yX0_says : MethodName := ⟨RX0, "says", "(IIII)I"⟩
abbrev cX0_behindOf : ByteArray := prog_2_method_19_code
def yX0_behindOf : MethodName := ⟨RX0, "behindOf", "(I)I"⟩
abbrev cX0_itself : ByteArray := prog_2_method_20_code
def yX0_itself : MethodName := ⟨RX0, "itself", "()I"⟩
abbrev cX0_held : ByteArray := prog_2_method_21_code
def yX0_held : MethodName := ⟨RX0, "held", "(I)I"⟩
abbrev cX0_canDo : ByteArray := prog_2_method_22_code
def yX0_canDo : MethodName := ⟨RX0, "canDo", "(I)I"⟩
abbrev cX0_worthOf : ByteArray := prog_2_method_23_code
def yX0_worthOf : MethodName := ⟨RX0, "worthOf", "(I)I"⟩
abbrev cX0_lowest : ByteArray := prog_2_method_24_code
def yX0_lowest : MethodName := ⟨RX0, "lowest", "(I)I"⟩
def RX1 : String := "OneReader$Grammar"
def TX1 : u_T := fun k => match k with
  | 0 => ("OneReader$Grammar", "tokens", "LOneReader$Tokens;", true)
  | 1 => ("OneReader$Grammar", "code", "[I", true)
  | 2 => ("OneReader$Grammar", "length", "I", false)
  | 3 => ("OneReader$Grammar", "at", "I", false)
  | 4 => ("OneReader$Grammar", "token", "I", false)
  | 5 => ("OneReader$Grammar", "open", "I", false)
  | _ => ("OneReader$Grammar", "fault", "I", false)
def tyX1 : Nat → FieldType := fun k => match k with
  | 0 => .object "OneReader$Tokens"
  | 1 => .array .int
  | 2 => .int
  | 3 => .int
  | 4 => .int
  | 5 => .int
  | _ => .int
abbrev wsX10 : List Cond := u_ws RX1 TX1 7
theorem nmX1 : ∀ a, a < 7 → ∀ b, b < 7 → a ≠ b → (TX1 a).2.1 ≠ (TX1 b).2.1 := by decide +kernel
theorem tyX1_ok : ∀ k, k < 7 → parseFieldDescriptor (TX1 k).2.2.1 = some (tyX1 k) := by decide +kernel
abbrev cX1_init : ByteArray := prog_3_method_1_code
def yX1_init : MethodName := ⟨RX1, "<init>", "()V"⟩
abbrev cX1_fault : ByteArray := prog_3_method_2_code
def yX1_fault : MethodName := ⟨RX1, "fault", "()I"⟩
abbrev cX1_lawOf : ByteArray := prog_3_method_3_code
def yX1_lawOf : MethodName := ⟨RX1, "lawOf", "([II)LOneReader$Law;"⟩
abbrev cX1_next : ByteArray := prog_3_method_4_code
def yX1_next : MethodName := ⟨RX1, "next", "()V"⟩
abbrev cX1_fail : ByteArray := prog_3_method_5_code
def yX1_fail : MethodName := ⟨RX1, "fail", "()V"⟩
abbrev cX1_expect : ByteArray := prog_3_method_6_code
def yX1_expect : MethodName := ⟨RX1, "expect", "(I)V"⟩
abbrev cX1_enter : ByteArray := prog_3_method_7_code
def yX1_enter : MethodName := ⟨RX1, "enter", "()Z"⟩
abbrev cX1_emit : ByteArray := prog_3_method_8_code
def yX1_emit : MethodName := ⟨RX1, "emit", "(I)V"⟩
abbrev cX1_readPart : ByteArray := prog_3_method_9_code
def yX1_readPart : MethodName := ⟨RX1, "readPart", "(I)V"⟩
abbrev cX1_readOr : ByteArray := prog_3_method_10_code
def yX1_readOr : MethodName := ⟨RX1, "readOr", "()V"⟩
abbrev cX1_readAnd : ByteArray := prog_3_method_11_code
def yX1_readAnd : MethodName := ⟨RX1, "readAnd", "()V"⟩
abbrev cX1_readNot : ByteArray := prog_3_method_12_code
def yX1_readNot : MethodName := ⟨RX1, "readNot", "()V"⟩
abbrev cX1_readSum : ByteArray := prog_3_method_13_code
def yX1_readSum : MethodName := ⟨RX1, "readSum", "()V"⟩
abbrev cX1_readTerm : ByteArray := prog_3_method_14_code
def yX1_readTerm : MethodName := ⟨RX1, "readTerm", "()V"⟩
abbrev cX1_readOne : ByteArray := prog_3_method_15_code
def yX1_readOne : MethodName := ⟨RX1, "readOne", "()V"⟩
def RX2 : String := "OneReader$Kind"
def TX2 : u_T := fun k => match k with
  | _ => ("", "", "", false)
def tyX2 : Nat → FieldType := fun k => match k with
  | _ => .int
abbrev wsX20 : List Cond := u_ws RX2 TX2 0
theorem nmX2 : ∀ a, a < 0 → ∀ b, b < 0 → a ≠ b → (TX2 a).2.1 ≠ (TX2 b).2.1 := by decide +kernel
theorem tyX2_ok : ∀ k, k < 0 → parseFieldDescriptor (TX2 k).2.2.1 = some (tyX2 k) := by decide +kernel
abbrev cX2_isA : ByteArray := prog_4_method_2_code
def yX2_isA : MethodName := ⟨RX2, "isA", "(II)Z"⟩
abbrev cX2_needsNext : ByteArray := prog_4_method_3_code
def yX2_needsNext : MethodName := ⟨RX2, "needsNext", "(I)Z"⟩
abbrev cX2_takes : ByteArray := prog_4_method_4_code
def yX2_takes : MethodName := ⟨RX2, "takes", "(III)I"⟩
abbrev cX2_holds : ByteArray := prog_4_method_5_code
def yX2_holds : MethodName := ⟨RX2, "holds", "(IIZZII)Z"⟩
abbrev cX2_asHabit : ByteArray := prog_4_method_6_code
def yX2_asHabit : MethodName := ⟨RX2, "asHabit", "(IZZI)Z"⟩
def RX3 : String := "OneReader$Law"
def TX3 : u_T := fun k => match k with
  | 0 => ("OneReader$Law", "code", "[I", true)
  | 1 => ("OneReader$Law", "holdsAt", "I", true)
  | _ => ("OneReader$Law", "worthAt", "I", true)
def tyX3 : Nat → FieldType := fun k => match k with
  | 0 => .array .int
  | 1 => .int
  | _ => .int
abbrev wsX30 : List Cond := u_ws RX3 TX3 3
theorem nmX3 : ∀ a, a < 3 → ∀ b, b < 3 → a ≠ b → (TX3 a).2.1 ≠ (TX3 b).2.1 := by decide +kernel
theorem tyX3_ok : ∀ k, k < 3 → parseFieldDescriptor (TX3 k).2.2.1 = some (tyX3 k) := by decide +kernel
abbrev cX3_init : ByteArray := prog_5_method_1_code
def yX3_init : MethodName := ⟨RX3, "<init>", "([III)V"⟩
abbrev cX3_startOf : ByteArray := prog_5_method_2_code
def yX3_startOf : MethodName := ⟨RX3, "startOf", "(I)I"⟩
abbrev cX3_endOf : ByteArray := prog_5_method_3_code
def yX3_endOf : MethodName := ⟨RX3, "endOf", "(I)I"⟩
abbrev cX3_codeAt : ByteArray := prog_5_method_4_code
def yX3_codeAt : MethodName := ⟨RX3, "codeAt", "(I)I"⟩
def RX4 : String := "OneReader$Reckoner"
def TX4 : u_T := fun k => match k with
  | 0 => ("OneReader$Reckoner", "stack", "[I", true)
  | _ => ("OneReader$Reckoner", "names", "[I", true)
def tyX4 : Nat → FieldType := fun k => match k with
  | 0 => .array .int
  | _ => .array .int
abbrev wsX40 : List Cond := u_ws RX4 TX4 2
theorem nmX4 : ∀ a, a < 2 → ∀ b, b < 2 → a ≠ b → (TX4 a).2.1 ≠ (TX4 b).2.1 := by decide +kernel
theorem tyX4_ok : ∀ k, k < 2 → parseFieldDescriptor (TX4 k).2.2.1 = some (tyX4 k) := by decide +kernel
abbrev cX4_init : ByteArray := prog_6_method_1_code
def yX4_init : MethodName := ⟨RX4, "<init>", "()V"⟩
abbrev cX4_about : ByteArray := prog_6_method_2_code
def yX4_about : MethodName := ⟨RX4, "about", "(IIIIII)V"⟩
abbrev cX4_value : ByteArray := prog_6_method_3_code
def yX4_value : MethodName := ⟨RX4, "value", "(LOneReader$Law;I)I"⟩
abbrev cX4_act : ByteArray := prog_6_method_4_code
def yX4_act : MethodName := ⟨RX4, "act", "(II)I"⟩
def RX5 : String := "OneReader$Sheet"
def TX5 : u_T := fun k => match k with
  | 0 => ("OneReader$Sheet", "cells", "[I", true)
  | 1 => ("OneReader$Sheet", "sort", "I", false)
  | _ => ("OneReader$Sheet", "size", "I", false)
def tyX5 : Nat → FieldType := fun k => match k with
  | 0 => .array .int
  | 1 => .int
  | _ => .int
abbrev wsX50 : List Cond := u_ws RX5 TX5 3
theorem nmX5 : ∀ a, a < 3 → ∀ b, b < 3 → a ≠ b → (TX5 a).2.1 ≠ (TX5 b).2.1 := by decide +kernel
theorem tyX5_ok : ∀ k, k < 3 → parseFieldDescriptor (TX5 k).2.2.1 = some (tyX5 k) := by decide +kernel
abbrev cX5_init : ByteArray := prog_7_method_1_code
def yX5_init : MethodName := ⟨RX5, "<init>", "()V"⟩
abbrev cX5_isMissing : ByteArray := prog_7_method_2_code
def yX5_isMissing : MethodName := ⟨RX5, "isMissing", "()Z"⟩
abbrev cX5_become : ByteArray := prog_7_method_3_code
def yX5_become : MethodName := ⟨RX5, "become", "(II)V"⟩
abbrev cX5_hasRow : ByteArray := prog_7_method_4_code
def yX5_hasRow : MethodName := ⟨RX5, "hasRow", "(II)Z"⟩
abbrev cX5_write : ByteArray := prog_7_method_5_code
def yX5_write : MethodName := ⟨RX5, "write", "(II)V"⟩
def RX6 : String := "OneReader$Tokens"
def TX6 : u_T := fun k => match k with
  | 0 => ("OneReader$Tokens", "tokens", "[I", true)
  | 1 => ("OneReader$Tokens", "places", "[I", true)
  | 2 => ("OneReader$Tokens", "numbers", "[I", true)
  | _ => ("OneReader$Tokens", "many", "I", false)
def tyX6 : Nat → FieldType := fun k => match k with
  | 0 => .array .int
  | 1 => .array .int
  | 2 => .array .int
  | _ => .int
abbrev wsX60 : List Cond := u_ws RX6 TX6 4
theorem nmX6 : ∀ a, a < 4 → ∀ b, b < 4 → a ≠ b → (TX6 a).2.1 ≠ (TX6 b).2.1 := by decide +kernel
theorem tyX6_ok : ∀ k, k < 4 → parseFieldDescriptor (TX6 k).2.2.1 = some (tyX6 k) := by decide +kernel
abbrev cX6_init : ByteArray := prog_8_method_1_code
def yX6_init : MethodName := ⟨RX6, "<init>", "()V"⟩
abbrev cX6_tokenAt : ByteArray := prog_8_method_2_code
def yX6_tokenAt : MethodName := ⟨RX6, "tokenAt", "(I)I"⟩
abbrev cX6_placeAt : ByteArray := prog_8_method_3_code
def yX6_placeAt : MethodName := ⟨RX6, "placeAt", "(I)I"⟩
abbrev cX6_numberAt : ByteArray := prog_8_method_4_code
def yX6_numberAt : MethodName := ⟨RX6, "numberAt", "(I)I"⟩
abbrev cX6_scan : ByteArray := prog_8_method_5_code
def yX6_scan : MethodName := ⟨RX6, "scan", "([II)V"⟩
abbrev cX6_append : ByteArray := prog_8_method_6_code
def yX6_append : MethodName := ⟨RX6, "append", "(III)V"⟩
abbrev cX6_endOfToken : ByteArray := prog_8_method_7_code
def yX6_endOfToken : MethodName := ⟨RX6, "endOfToken", "([III)I"⟩
abbrev cX6_tokenOf : ByteArray := prog_8_method_8_code
def yX6_tokenOf : MethodName := ⟨RX6, "tokenOf", "([III)I"⟩
abbrev cX6_numberOf : ByteArray := prog_8_method_9_code
def yX6_numberOf : MethodName := ⟨RX6, "numberOf", "([III)I"⟩
abbrev cX6_wordOf : ByteArray := prog_8_method_10_code
def yX6_wordOf : MethodName := ⟨RX6, "wordOf", "([III)I"⟩
abbrev cX6_isSpelled : ByteArray := prog_8_method_11_code
def yX6_isSpelled : MethodName := ⟨RX6, "isSpelled", "(Ljava/lang/String;[III)Z"⟩
abbrev cX6_spelling : ByteArray := prog_8_method_12_code
def yX6_spelling : MethodName := ⟨RX6, "spelling", "(I)Ljava/lang/String;"⟩
abbrev cX6_isBlank : ByteArray := prog_8_method_13_code
def yX6_isBlank : MethodName := ⟨RX6, "isBlank", "(I)Z"⟩
abbrev cX6_isLetter : ByteArray := prog_8_method_14_code
def yX6_isLetter : MethodName := ⟨RX6, "isLetter", "(I)Z"⟩
abbrev cX6_isDigit : ByteArray := prog_8_method_15_code
def yX6_isDigit : MethodName := ⟨RX6, "isDigit", "(I)Z"⟩
abbrev cX6_isSign : ByteArray := prog_8_method_16_code
def yX6_isSign : MethodName := ⟨RX6, "isSign", "(I)Z"⟩
def RX7 : String := "OneReader"
def TX7 : u_T := fun k => match k with
  | 0 => ("OneReader", "book", "LOneReader$Book;", true)
  | 1 => ("OneReader", "kept", "LOneReader$Book;", true)
  | 2 => ("OneReader", "thought", "LOneReader$Book;", true)
  | 3 => ("OneReader", "grammar", "LOneReader$Grammar;", true)
  | 4 => ("OneReader", "sheets", "[LOneReader$Sheet;", true)
  | 5 => ("OneReader", "tape", "[I", true)
  | 6 => ("OneReader", "tapeSize", "I", false)
  | 7 => ("OneReader", "textCount", "I", false)
  | _ => ("OneReader", "hasImage", "Z", false)
def tyX7 : Nat → FieldType := fun k => match k with
  | 0 => .object "OneReader$Book"
  | 1 => .object "OneReader$Book"
  | 2 => .object "OneReader$Book"
  | 3 => .object "OneReader$Grammar"
  | 4 => .array (.object "OneReader$Sheet")
  | 5 => .array .int
  | 6 => .int
  | 7 => .int
  | _ => .boolean
abbrev wsX70 : List Cond := u_ws RX7 TX7 9
theorem nmX7 : ∀ a, a < 9 → ∀ b, b < 9 → a ≠ b → (TX7 a).2.1 ≠ (TX7 b).2.1 := by decide +kernel
theorem tyX7_ok : ∀ k, k < 9 → parseFieldDescriptor (TX7 k).2.2.1 = some (tyX7 k) := by decide +kernel
abbrev cX7_init : ByteArray := prog_1_method_1_code
def yX7_init : MethodName := ⟨RX7, "<init>", "()V"⟩
abbrev cX7_count : ByteArray := prog_1_method_2_code
def yX7_count : MethodName := ⟨RX7, "count", "(I)I"⟩
abbrev cX7_set : ByteArray := prog_1_method_3_code
def yX7_set : MethodName := ⟨RX7, "set", "(II)I"⟩
abbrev cX7_mostToSet : ByteArray := prog_1_method_4_code
def yX7_mostToSet : MethodName := ⟨RX7, "mostToSet", "(I)I"⟩
abbrev cX7_feed : ByteArray := prog_1_method_5_code
def yX7_feed : MethodName := ⟨RX7, "feed", "(IIIIII)I"⟩
abbrev cX7_isByte : ByteArray := prog_1_method_6_code
def yX7_isByte : MethodName := ⟨RX7, "isByte", "(I)Z"⟩
abbrev cX7_appendByte : ByteArray := prog_1_method_7_code
def yX7_appendByte : MethodName := ⟨RX7, "appendByte", "(IZ)V"⟩
abbrev cX7_text : ByteArray := prog_1_method_8_code
def yX7_text : MethodName := ⟨RX7, "text", "()I"⟩
abbrev cX7_force : ByteArray := prog_1_method_9_code
def yX7_force : MethodName := ⟨RX7, "force", "(I)I"⟩
abbrev cX7_asks : ByteArray := prog_1_method_10_code
def yX7_asks : MethodName := ⟨RX7, "asks", "(IIII)I"⟩
abbrev cX7_word : ByteArray := prog_1_method_11_code
def yX7_word : MethodName := ⟨RX7, "word", "(III)I"⟩
abbrev cX7_told : ByteArray := prog_1_method_12_code
def yX7_told : MethodName := ⟨RX7, "told", "(II)I"⟩
abbrev cX7_put : ByteArray := prog_1_method_13_code
def yX7_put : MethodName := ⟨RX7, "put", "(III)I"⟩
abbrev cX7_live : ByteArray := prog_1_method_14_code
def yX7_live : MethodName := ⟨RX7, "live", "()I"⟩
abbrev cX7_now : ByteArray := prog_1_method_15_code
def yX7_now : MethodName := ⟨RX7, "now", "(I)I"⟩
abbrev cX7_deed : ByteArray := prog_1_method_16_code
def yX7_deed : MethodName := ⟨RX7, "deed", "(I)I"⟩
abbrev cX7_needs : ByteArray := prog_1_method_17_code
def yX7_needs : MethodName := ⟨RX7, "needs", "(I)I"⟩
abbrev cX7_done : ByteArray := prog_1_method_18_code
def yX7_done : MethodName := ⟨RX7, "done", "(I)I"⟩
abbrev cX7_run : ByteArray := prog_1_method_19_code
def yX7_run : MethodName := ⟨RX7, "run", "(II)I"⟩
abbrev cX7_when : ByteArray := prog_1_method_20_code
def yX7_when : MethodName := ⟨RX7, "when", "(III)I"⟩
abbrev cX7_begin : ByteArray := prog_1_method_21_code
def yX7_begin : MethodName := ⟨RX7, "begin", "(II)I"⟩
abbrev cX7_lobby : ByteArray := prog_1_method_22_code
def yX7_lobby : MethodName := ⟨RX7, "lobby", "(II)I"⟩
abbrev cX7_soup : ByteArray := prog_1_method_23_code
def yX7_soup : MethodName := ⟨RX7, "soup", "(II)I"⟩
abbrev cX7_road : ByteArray := prog_1_method_24_code
def yX7_road : MethodName := ⟨RX7, "road", "(III)I"⟩
abbrev cX7_best : ByteArray := prog_1_method_25_code
def yX7_best : MethodName := ⟨RX7, "best", "(IIIIII)I"⟩
abbrev cX7_worthIf : ByteArray := prog_1_method_26_code
def yX7_worthIf : MethodName := ⟨RX7, "worthIf", "(IIII)I"⟩
abbrev cX7_chain : ByteArray := prog_1_method_27_code
def yX7_chain : MethodName := ⟨RX7, "chain", "(I)I"⟩
abbrev cX7_rings : ByteArray := prog_1_method_28_code
def yX7_rings : MethodName := ⟨RX7, "rings", "()I"⟩
abbrev cX7_longest : ByteArray := prog_1_method_29_code
def yX7_longest : MethodName := ⟨RX7, "longest", "(I)I"⟩
abbrev cX7_judge : ByteArray := prog_1_method_30_code
def yX7_judge : MethodName := ⟨RX7, "judge", "(I)I"⟩
abbrev cX7_begins : ByteArray := prog_1_method_31_code
def yX7_begins : MethodName := ⟨RX7, "begins", "(I)I"⟩
abbrev cX7_kinds : ByteArray := prog_1_method_32_code
def yX7_kinds : MethodName := ⟨RX7, "kinds", "(III)I"⟩
abbrev cX7_skipped : ByteArray := prog_1_method_33_code
def yX7_skipped : MethodName := ⟨RX7, "skipped", "(I)I"⟩
abbrev cX7_laws : ByteArray := prog_1_method_34_code
def yX7_laws : MethodName := ⟨RX7, "laws", "(I)I"⟩
abbrev cX7_film : ByteArray := prog_1_method_35_code
def yX7_film : MethodName := ⟨RX7, "film", "(II)I"⟩
abbrev cX7_refusalOf : ByteArray := prog_1_method_36_code
def yX7_refusalOf : MethodName := ⟨RX7, "refusalOf", "(I)I"⟩
abbrev cX7_firstOtherwise : ByteArray := prog_1_method_37_code
def yX7_firstOtherwise : MethodName := ⟨RX7, "firstOtherwise", "(LOneReader$Sheet;)I"⟩
abbrev cX7_fitting : ByteArray := prog_1_method_38_code
def yX7_fitting : MethodName := ⟨RX7, "fitting", "(LOneReader$Sheet;IIII)I"⟩
abbrev cX7_drawn : ByteArray := prog_1_method_39_code
def yX7_drawn : MethodName := ⟨RX7, "drawn", "(III)I"⟩
abbrev cX7_odds : ByteArray := prog_1_method_40_code
def yX7_odds : MethodName := ⟨RX7, "odds", "(IIIII)J"⟩
abbrev cX7_inLowestTerms : ByteArray := prog_1_method_41_code
def yX7_inLowestTerms : MethodName := ⟨RX7, "inLowestTerms", "(III)I"⟩
abbrev cX7_image : ByteArray := prog_1_method_42_code
def yX7_image : MethodName := ⟨RX7, "image", "()I"⟩
abbrev cX7_back : ByteArray := prog_1_method_43_code
def yX7_back : MethodName := ⟨RX7, "back", "()I"⟩
abbrev cX7_sheet : ByteArray := prog_1_method_44_code
def yX7_sheet : MethodName := ⟨RX7, "sheet", "(III)I"⟩
abbrev cX7_cell : ByteArray := prog_1_method_45_code
def yX7_cell : MethodName := ⟨RX7, "cell", "(III)I"⟩
abbrev cX7_copy : ByteArray := prog_1_method_46_code
def yX7_copy : MethodName := ⟨RX7, "copy", "(IIIII)I"⟩
abbrev cX7_wordsBy : ByteArray := prog_1_method_47_code
def yX7_wordsBy : MethodName := ⟨RX7, "wordsBy", "(IIII)I"⟩
abbrev cX7_taken : ByteArray := prog_1_method_48_code
def yX7_taken : MethodName := ⟨RX7, "taken", "(II)J"⟩
abbrev cX7_isZeroOrOne : ByteArray := prog_1_method_49_code
def yX7_isZeroOrOne : MethodName := ⟨RX7, "isZeroOrOne", "(I)Z"⟩
abbrev cX7_isDays : ByteArray := prog_1_method_50_code
def yX7_isDays : MethodName := ⟨RX7, "isDays", "(I)Z"⟩
abbrev cX7_isSeed : ByteArray := prog_1_method_51_code
def yX7_isSeed : MethodName := ⟨RX7, "isSeed", "(I)Z"⟩
abbrev cX7_isSheet : ByteArray := prog_1_method_52_code
def yX7_isSheet : MethodName := ⟨RX7, "isSheet", "(I)Z"⟩
abbrev cX7_firstText : ByteArray := prog_1_method_53_code
def yX7_firstText : MethodName := ⟨RX7, "firstText", "()LOneReader$Law;"⟩
abbrev cX7_think : ByteArray := prog_1_method_54_code
def yX7_think : MethodName := ⟨RX7, "think", "(III)V"⟩
abbrev cX7_passDays : ByteArray := prog_1_method_55_code
def yX7_passDays : MethodName := ⟨RX7, "passDays", "(IIII)I"⟩
def RX8 : String := "OneReaderModel"
def TX8 : u_T := fun k => match k with
  | 0 => ("OneReaderModel", "entries", "I", false)
  | 1 => ("OneReaderModel", "kind", "[I", true)
  | 2 => ("OneReaderModel", "moreOf", "[I", true)
  | 3 => ("OneReaderModel", "rows", "[I", true)
  | 4 => ("OneReaderModel", "deeds", "I", false)
  | 5 => ("OneReaderModel", "deedSets", "[I", true)
  | 6 => ("OneReaderModel", "page", "I", false)
  | 7 => ("OneReaderModel", "day0", "I", false)
  | 8 => ("OneReaderModel", "bookmark", "I", false)
  | 9 => ("OneReaderModel", "skippedSet", "I", false)
  | 10 => ("OneReaderModel", "came", "I", false)
  | 11 => ("OneReaderModel", "tape", "[I", true)
  | 12 => ("OneReaderModel", "taped", "I", false)
  | 13 => ("OneReaderModel", "codes", "[I", true)
  | 14 => ("OneReaderModel", "starts", "[I", true)
  | 15 => ("OneReaderModel", "texts", "I", false)
  | 16 => ("OneReaderModel", "rule", "I", false)
  | 17 => ("OneReaderModel", "hasImage", "Z", false)
  | 18 => ("OneReaderModel", "imageEntries", "I", false)
  | 19 => ("OneReaderModel", "imageDeeds", "I", false)
  | 20 => ("OneReaderModel", "imageRule", "I", false)
  | 21 => ("OneReaderModel", "imageRows", "[I", true)
  | 22 => ("OneReaderModel", "imageSets", "[I", true)
  | 23 => ("OneReaderModel", "imageHeld", "[I", true)
  | 24 => ("OneReaderModel", "sheetSort", "[I", true)
  | 25 => ("OneReaderModel", "sheetSize", "[I", true)
  | 26 => ("OneReaderModel", "cells", "[I", true)
  | 27 => ("OneReaderModel", "law", "[I", true)
  | 28 => ("OneReaderModel", "at", "I", false)
  | 29 => ("OneReaderModel", "begun", "I", false)
  | 30 => ("OneReaderModel", "token", "I", false)
  | 31 => ("OneReaderModel", "value", "I", false)
  | 32 => ("OneReaderModel", "words", "[I", true)
  | 33 => ("OneReaderModel", "held", "[I", true)
  | 34 => ("OneReaderModel", "heldMany", "I", false)
  | 35 => ("OneReaderModel", "opens", "I", false)
  | 36 => ("OneReaderModel", "out", "I", false)
  | 37 => ("OneReaderModel", "stack", "[I", true)
  | 38 => ("OneReaderModel", "named", "[I", true)
  | 39 => ("OneReaderModel", "began", "I", false)
  | 40 => ("OneReaderModel", "keptRead", "[I", true)
  | 41 => ("OneReaderModel", "keptHeld", "[I", true)
  | 42 => ("OneReaderModel", "worthSum", "I", false)
  | 43 => ("OneReaderModel", "doneAny", "I", false)
  | 44 => ("OneReaderModel", "holdAny", "I", false)
  | 45 => ("OneReaderModel", "cameAny", "I", false)
  | 46 => ("OneReaderModel", "pageLast", "I", false)
  | 47 => ("OneReaderModel", "firstDone", "I", false)
  | 48 => ("OneReaderModel", "firstHolds", "I", false)
  | 49 => ("OneReaderModel", "watchedDeed", "I", false)
  | _ => ("OneReaderModel", "watchedEntry", "I", false)
def tyX8 : Nat → FieldType := fun k => match k with
  | 0 => .int
  | 1 => .array .int
  | 2 => .array .int
  | 3 => .array .int
  | 4 => .int
  | 5 => .array .int
  | 6 => .int
  | 7 => .int
  | 8 => .int
  | 9 => .int
  | 10 => .int
  | 11 => .array .int
  | 12 => .int
  | 13 => .array .int
  | 14 => .array .int
  | 15 => .int
  | 16 => .int
  | 17 => .boolean
  | 18 => .int
  | 19 => .int
  | 20 => .int
  | 21 => .array .int
  | 22 => .array .int
  | 23 => .array .int
  | 24 => .array .int
  | 25 => .array .int
  | 26 => .array .int
  | 27 => .array .int
  | 28 => .int
  | 29 => .int
  | 30 => .int
  | 31 => .int
  | 32 => .array .int
  | 33 => .array .int
  | 34 => .int
  | 35 => .int
  | 36 => .int
  | 37 => .array .int
  | 38 => .array .int
  | 39 => .int
  | 40 => .array .int
  | 41 => .array .int
  | 42 => .int
  | 43 => .int
  | 44 => .int
  | 45 => .int
  | 46 => .int
  | 47 => .int
  | 48 => .int
  | 49 => .int
  | _ => .int
abbrev wsX80 : List Cond := u_ws RX8 TX8 51
theorem nmX8 : ∀ a, a < 51 → ∀ b, b < 51 → a ≠ b → (TX8 a).2.1 ≠ (TX8 b).2.1 := by decide +kernel
theorem tyX8_ok : ∀ k, k < 51 → parseFieldDescriptor (TX8 k).2.2.1 = some (tyX8 k) := by decide +kernel
abbrev cX8_init : ByteArray := prog_10_method_1_code
def yX8_init : MethodName := ⟨RX8, "<init>", "()V"⟩
abbrev cX8_in : ByteArray := prog_10_method_3_code
def yX8_in : MethodName := ⟨RX8, "in", "(III)Z"⟩
abbrev cX8_within : ByteArray := prog_10_method_4_code
def yX8_within : MethodName := ⟨RX8, "within", "(III)I"⟩
abbrev cX8_ones : ByteArray := prog_10_method_5_code
def yX8_ones : MethodName := ⟨RX8, "ones", "(I)I"⟩
abbrev cX8_isEntry : ByteArray := prog_10_method_6_code
def yX8_isEntry : MethodName := ⟨RX8, "isEntry", "(I)Z"⟩
abbrev cX8_isDeed : ByteArray := prog_10_method_7_code
def yX8_isDeed : MethodName := ⟨RX8, "isDeed", "(I)Z"⟩
abbrev cX8_all : ByteArray := prog_10_method_8_code
def yX8_all : MethodName := ⟨RX8, "all", "()I"⟩
abbrev cX8_takesOf : ByteArray := prog_10_method_9_code
def yX8_takesOf : MethodName := ⟨RX8, "takesOf", "(I)I"⟩
abbrev cX8_firstPage : ByteArray := prog_10_method_10_code
def yX8_firstPage : MethodName := ⟨RX8, "firstPage", "(I)I"⟩
abbrev cX8_pagesAll : ByteArray := prog_10_method_11_code
def yX8_pagesAll : MethodName := ⟨RX8, "pagesAll", "()I"⟩
abbrev cX8_entryOn : ByteArray := prog_10_method_12_code
def yX8_entryOn : MethodName := ⟨RX8, "entryOn", "(I)I"⟩
abbrev cX8_count : ByteArray := prog_10_method_13_code
def yX8_count : MethodName := ⟨RX8, "count", "(I)I"⟩
abbrev cX8_isSo : ByteArray := prog_10_method_14_code
def yX8_isSo : MethodName := ⟨RX8, "isSo", "(II)Z"⟩
abbrev cX8_set : ByteArray := prog_10_method_15_code
def yX8_set : MethodName := ⟨RX8, "set", "(II)I"⟩
abbrev cX8_isByte : ByteArray := prog_10_method_16_code
def yX8_isByte : MethodName := ⟨RX8, "isByte", "(I)Z"⟩
abbrev cX8_feed : ByteArray := prog_10_method_17_code
def yX8_feed : MethodName := ⟨RX8, "feed", "(IIIIII)I"⟩
abbrev cX8_wordFrom : ByteArray := prog_10_method_18_code
def yX8_wordFrom : MethodName := ⟨RX8, "wordFrom", "(II)I"⟩
abbrev cX8_next : ByteArray := prog_10_method_19_code
def yX8_next : MethodName := ⟨RX8, "next", "()V"⟩
abbrev cX8_rank : ByteArray := prog_10_method_20_code
def yX8_rank : MethodName := ⟨RX8, "rank", "(I)I"⟩
abbrev cX8_puts : ByteArray := prog_10_method_21_code
def yX8_puts : MethodName := ⟨RX8, "puts", "(I)V"⟩
abbrev cX8_unwinds : ByteArray := prog_10_method_22_code
def yX8_unwinds : MethodName := ⟨RX8, "unwinds", "(I)V"⟩
abbrev cX8_holds : ByteArray := prog_10_method_23_code
def yX8_holds : MethodName := ⟨RX8, "holds", "(I)V"⟩
abbrev cX8_opensOne : ByteArray := prog_10_method_24_code
def yX8_opensOne : MethodName := ⟨RX8, "opensOne", "(I)Z"⟩
abbrev cX8_between : ByteArray := prog_10_method_25_code
def yX8_between : MethodName := ⟨RX8, "between", "(I)Z"⟩
abbrev cX8_signOf : ByteArray := prog_10_method_26_code
def yX8_signOf : MethodName := ⟨RX8, "signOf", "()I"⟩
abbrev cX8_eRead : ByteArray := prog_10_method_27_code
def yX8_eRead : MethodName := ⟨RX8, "eRead", "()Z"⟩
abbrev cX8_text : ByteArray := prog_10_method_28_code
def yX8_text : MethodName := ⟨RX8, "text", "()I"⟩
abbrev cX8_two : ByteArray := prog_10_method_29_code
def yX8_two : MethodName := ⟨RX8, "two", "(III)I"⟩
abbrev cX8_says : ByteArray := prog_10_method_30_code
def yX8_says : MethodName := ⟨RX8, "says", "(I)I"⟩
abbrev cX8_force : ByteArray := prog_10_method_31_code
def yX8_force : MethodName := ⟨RX8, "force", "(I)I"⟩
abbrev cX8_asksOf : ByteArray := prog_10_method_32_code
def yX8_asksOf : MethodName := ⟨RX8, "asksOf", "(IIII)I"⟩
abbrev cX8_asks : ByteArray := prog_10_method_33_code
def yX8_asks : MethodName := ⟨RX8, "asks", "(IIII)I"⟩
abbrev cX8_word : ByteArray := prog_10_method_34_code
def yX8_word : MethodName := ⟨RX8, "word", "(III)I"⟩
abbrev cX8_needsOn : ByteArray := prog_10_method_35_code
def yX8_needsOn : MethodName := ⟨RX8, "needsOn", "(I)Z"⟩
abbrev cX8_told : ByteArray := prog_10_method_36_code
def yX8_told : MethodName := ⟨RX8, "told", "(II)I"⟩
abbrev cX8_put : ByteArray := prog_10_method_37_code
def yX8_put : MethodName := ⟨RX8, "put", "(III)I"⟩
abbrev cX8_behindOf : ByteArray := prog_10_method_38_code
def yX8_behindOf : MethodName := ⟨RX8, "behindOf", "(I)I"⟩
abbrev cX8_holdsItself : ByteArray := prog_10_method_39_code
def yX8_holdsItself : MethodName := ⟨RX8, "holdsItself", "(I)Z"⟩
abbrev cX8_chainOf : ByteArray := prog_10_method_40_code
def yX8_chainOf : MethodName := ⟨RX8, "chainOf", "(I)I"⟩
abbrev cX8_byThemselves : ByteArray := prog_10_method_41_code
def yX8_byThemselves : MethodName := ⟨RX8, "byThemselves", "()I"⟩
abbrev cX8_holding : ByteArray := prog_10_method_42_code
def yX8_holding : MethodName := ⟨RX8, "holding", "()I"⟩
abbrev cX8_now : ByteArray := prog_10_method_43_code
def yX8_now : MethodName := ⟨RX8, "now", "(I)I"⟩
abbrev cX8_deed : ByteArray := prog_10_method_44_code
def yX8_deed : MethodName := ⟨RX8, "deed", "(I)I"⟩
abbrev cX8_needs : ByteArray := prog_10_method_45_code
def yX8_needs : MethodName := ⟨RX8, "needs", "(I)I"⟩
abbrev cX8_doneBy : ByteArray := prog_10_method_46_code
def yX8_doneBy : MethodName := ⟨RX8, "doneBy", "(I)I"⟩
abbrev cX8_lowestIn : ByteArray := prog_10_method_47_code
def yX8_lowestIn : MethodName := ⟨RX8, "lowestIn", "(I)I"⟩
abbrev cX8_worthOf : ByteArray := prog_10_method_48_code
def yX8_worthOf : MethodName := ⟨RX8, "worthOf", "(I)I"⟩
abbrev cX8_done : ByteArray := prog_10_method_49_code
def yX8_done : MethodName := ⟨RX8, "done", "(I)I"⟩
abbrev cX8_dayOf : ByteArray := prog_10_method_50_code
def yX8_dayOf : MethodName := ⟨RX8, "dayOf", "()V"⟩
abbrev cX8_live : ByteArray := prog_10_method_51_code
def yX8_live : MethodName := ⟨RX8, "live", "()I"⟩
abbrev cX8_keeps : ByteArray := prog_10_method_52_code
def yX8_keeps : MethodName := ⟨RX8, "keeps", "()V"⟩
abbrev cX8_laysBack : ByteArray := prog_10_method_53_code
def yX8_laysBack : MethodName := ⟨RX8, "laysBack", "()V"⟩
abbrev cX8_lives : ByteArray := prog_10_method_54_code
def yX8_lives : MethodName := ⟨RX8, "lives", "(I)V"⟩
abbrev cX8_goes : ByteArray := prog_10_method_55_code
def yX8_goes : MethodName := ⟨RX8, "goes", "(I)I"⟩
abbrev cX8_toldRun : ByteArray := prog_10_method_56_code
def yX8_toldRun : MethodName := ⟨RX8, "toldRun", "(I)I"⟩
abbrev cX8_run : ByteArray := prog_10_method_57_code
def yX8_run : MethodName := ⟨RX8, "run", "(II)I"⟩
abbrev cX8_when : ByteArray := prog_10_method_58_code
def yX8_when : MethodName := ⟨RX8, "when", "(III)I"⟩
abbrev cX8_goesFrom : ByteArray := prog_10_method_59_code
def yX8_goesFrom : MethodName := ⟨RX8, "goesFrom", "(III)I"⟩
abbrev cX8_begin : ByteArray := prog_10_method_60_code
def yX8_begin : MethodName := ⟨RX8, "begin", "(II)I"⟩
abbrev cX8_lobby : ByteArray := prog_10_method_61_code
def yX8_lobby : MethodName := ⟨RX8, "lobby", "(II)I"⟩
abbrev cX8_soup : ByteArray := prog_10_method_62_code
def yX8_soup : MethodName := ⟨RX8, "soup", "(II)I"⟩
abbrev cX8_goesTo : ByteArray := prog_10_method_63_code
def yX8_goesTo : MethodName := ⟨RX8, "goesTo", "(III)I"⟩
abbrev cX8_road : ByteArray := prog_10_method_64_code
def yX8_road : MethodName := ⟨RX8, "road", "(III)I"⟩
abbrev cX8_chain : ByteArray := prog_10_method_65_code
def yX8_chain : MethodName := ⟨RX8, "chain", "(I)I"⟩
abbrev cX8_comesToItself : ByteArray := prog_10_method_66_code
def yX8_comesToItself : MethodName := ⟨RX8, "comesToItself", "(I)Z"⟩
abbrev cX8_rings : ByteArray := prog_10_method_67_code
def yX8_rings : MethodName := ⟨RX8, "rings", "()I"⟩
abbrev cX8_longest : ByteArray := prog_10_method_68_code
def yX8_longest : MethodName := ⟨RX8, "longest", "(I)I"⟩
abbrev cX8_sheetWrong : ByteArray := prog_10_method_69_code
def yX8_sheetWrong : MethodName := ⟨RX8, "sheetWrong", "(I)I"⟩
abbrev cX8_unlike : ByteArray := prog_10_method_70_code
def yX8_unlike : MethodName := ⟨RX8, "unlike", "(I)I"⟩
abbrev cX8_judge : ByteArray := prog_10_method_71_code
def yX8_judge : MethodName := ⟨RX8, "judge", "(I)I"⟩
abbrev cX8_begins : ByteArray := prog_10_method_72_code
def yX8_begins : MethodName := ⟨RX8, "begins", "(I)I"⟩
abbrev cX8_kinds : ByteArray := prog_10_method_73_code
def yX8_kinds : MethodName := ⟨RX8, "kinds", "(III)I"⟩
abbrev cX8_skipped : ByteArray := prog_10_method_74_code
def yX8_skipped : MethodName := ⟨RX8, "skipped", "(I)I"⟩
abbrev cX8_laws : ByteArray := prog_10_method_75_code
def yX8_laws : MethodName := ⟨RX8, "laws", "(I)I"⟩
abbrev cX8_film : ByteArray := prog_10_method_76_code
def yX8_film : MethodName := ⟨RX8, "film", "(II)I"⟩
abbrev cX8_goesByLots : ByteArray := prog_10_method_77_code
def yX8_goesByLots : MethodName := ⟨RX8, "goesByLots", "(III)I"⟩
abbrev cX8_drawn : ByteArray := prog_10_method_78_code
def yX8_drawn : MethodName := ⟨RX8, "drawn", "(III)I"⟩
abbrev cX8_lowest : ByteArray := prog_10_method_79_code
def yX8_lowest : MethodName := ⟨RX8, "lowest", "(JJI)J"⟩
abbrev cX8_odds : ByteArray := prog_10_method_80_code
def yX8_odds : MethodName := ⟨RX8, "odds", "(IIIII)J"⟩
abbrev cX8_image : ByteArray := prog_10_method_81_code
def yX8_image : MethodName := ⟨RX8, "image", "()I"⟩
abbrev cX8_back : ByteArray := prog_10_method_82_code
def yX8_back : MethodName := ⟨RX8, "back", "()I"⟩
abbrev cX8_sheet : ByteArray := prog_10_method_83_code
def yX8_sheet : MethodName := ⟨RX8, "sheet", "(III)I"⟩
abbrev cX8_cell : ByteArray := prog_10_method_84_code
def yX8_cell : MethodName := ⟨RX8, "cell", "(III)I"⟩
abbrev cX8_copy : ByteArray := prog_10_method_85_code
def yX8_copy : MethodName := ⟨RX8, "copy", "(IIIII)I"⟩
abbrev cX8_wordsBy : ByteArray := prog_10_method_86_code
def yX8_wordsBy : MethodName := ⟨RX8, "wordsBy", "(IIII)I"⟩
abbrev cX8_isUnder : ByteArray := prog_10_method_87_code
def yX8_isUnder : MethodName := ⟨RX8, "isUnder", "(II)Z"⟩
abbrev cX8_taken : ByteArray := prog_10_method_88_code
def yX8_taken : MethodName := ⟨RX8, "taken", "(II)J"⟩
def RJx145de : String := "java/io/Serializable"
def TJx145de : u_T := fun k => match k with
  | _ => ("", "", "", false)
def tyJx145de : Nat → FieldType := fun k => match k with
  | _ => .int
theorem nmJx145de : ∀ a, a < 0 → ∀ b, b < 0 → a ≠ b → (TJx145de a).2.1 ≠ (TJx145de b).2.1 := by decide +kernel
theorem tyJx145de_ok : ∀ k, k < 0 → parseFieldDescriptor (TJx145de k).2.2.1 = some (tyJx145de k) := by decide +kernel
def RJx9f9b0 : String := "java/lang/CharSequence"
def TJx9f9b0 : u_T := fun k => match k with
  | _ => ("", "", "", false)
def tyJx9f9b0 : Nat → FieldType := fun k => match k with
  | _ => .int
theorem nmJx9f9b0 : ∀ a, a < 0 → ∀ b, b < 0 → a ≠ b → (TJx9f9b0 a).2.1 ≠ (TJx9f9b0 b).2.1 := by decide +kernel
theorem tyJx9f9b0_ok : ∀ k, k < 0 → parseFieldDescriptor (TJx9f9b0 k).2.2.1 = some (tyJx9f9b0 k) := by decide +kernel
def RJx8e188 : String := "java/lang/Cloneable"
def TJx8e188 : u_T := fun k => match k with
  | _ => ("", "", "", false)
def tyJx8e188 : Nat → FieldType := fun k => match k with
  | _ => .int
theorem nmJx8e188 : ∀ a, a < 0 → ∀ b, b < 0 → a ≠ b → (TJx8e188 a).2.1 ≠ (TJx8e188 b).2.1 := by decide +kernel
theorem tyJx8e188_ok : ∀ k, k < 0 → parseFieldDescriptor (TJx8e188 k).2.2.1 = some (tyJx8e188 k) := by decide +kernel
def RJxb160c : String := "java/lang/Comparable"
def TJxb160c : u_T := fun k => match k with
  | _ => ("", "", "", false)
def tyJxb160c : Nat → FieldType := fun k => match k with
  | _ => .int
theorem nmJxb160c : ∀ a, a < 0 → ∀ b, b < 0 → a ≠ b → (TJxb160c a).2.1 ≠ (TJxb160c b).2.1 := by decide +kernel
theorem tyJxb160c_ok : ∀ k, k < 0 → parseFieldDescriptor (TJxb160c k).2.2.1 = some (tyJxb160c k) := by decide +kernel
def RJ6 : String := "java/lang/Integer"
def TJ6 : u_T := fun k => match k with
  | _ => ("", "", "", false)
def tyJ6 : Nat → FieldType := fun k => match k with
  | _ => .int
abbrev wsJ60 : List Cond := u_ws RJ6 TJ6 0
theorem nmJ6 : ∀ a, a < 0 → ∀ b, b < 0 → a ≠ b → (TJ6 a).2.1 ≠ (TJ6 b).2.1 := by decide +kernel
theorem tyJ6_ok : ∀ k, k < 0 → parseFieldDescriptor (TJ6 k).2.2.1 = some (tyJ6 k) := by decide +kernel
abbrev cJ6_bitCount_0f7a4 : ByteArray := prog_12_method_49_code
def yJ6_bitCount_0f7a4 : MethodName := ⟨RJ6, "bitCount", "(I)I"⟩
def RJ9 : String := "java/lang/Math"
def TJ9 : u_T := fun k => match k with
  | _ => ("", "", "", false)
def tyJ9 : Nat → FieldType := fun k => match k with
  | _ => .int
abbrev wsJ90 : List Cond := u_ws RJ9 TJ9 0
theorem nmJ9 : ∀ a, a < 0 → ∀ b, b < 0 → a ≠ b → (TJ9 a).2.1 ≠ (TJ9 b).2.1 := by decide +kernel
theorem tyJ9_ok : ∀ k, k < 0 → parseFieldDescriptor (TJ9 k).2.2.1 = some (tyJ9 k) := by decide +kernel
abbrev cJ9_max_7cf53 : ByteArray := prog_13_method_65_code
def yJ9_max_7cf53 : MethodName := ⟨RJ9, "max", "(II)I"⟩
abbrev cJ9_min_7cf53 : ByteArray := prog_13_method_69_code
def yJ9_min_7cf53 : MethodName := ⟨RJ9, "min", "(II)I"⟩
def RJ0 : String := "java/lang/String"
def TJ0 : u_T := fun k => match k with
  | _ => ("", "", "", false)
def tyJ0 : Nat → FieldType := fun k => match k with
  | _ => .int
abbrev wsJ00 : List Cond := u_ws RJ0 TJ0 0
theorem nmJ0 : ∀ a, a < 0 → ∀ b, b < 0 → a ≠ b → (TJ0 a).2.1 ≠ (TJ0 b).2.1 := by decide +kernel
theorem tyJ0_ok : ∀ k, k < 0 → parseFieldDescriptor (TJ0 k).2.2.1 = some (tyJ0 k) := by decide +kernel
abbrev cJ0_length_8abf5 : ByteArray := prog_14_method_54_code
def yJ0_length_8abf5 : MethodName := ⟨RJ0, "length", "()I"⟩
abbrev cJ0_charAt_5068e : ByteArray := prog_14_method_56_code
def yJ0_charAt_5068e : MethodName := ⟨RJ0, "charAt", "(I)C"⟩
abbrev cJ0_coder_7d493 : ByteArray := prog_14_method_152_code
def yJ0_coder_7d493 : MethodName := ⟨RJ0, "coder", "()B"⟩
abbrev cJ0_isLatin1_aae02 : ByteArray := prog_14_method_154_code
def yJ0_isLatin1_aae02 : MethodName := ⟨RJ0, "isLatin1", "()Z"⟩
abbrev cJ0_checkIndex_df160 : ByteArray := prog_14_method_155_code
def yJ0_checkIndex_df160 : MethodName := ⟨RJ0, "checkIndex", "(II)V"⟩
def RJ1 : String := "java/lang/StringLatin1"
def TJ1 : u_T := fun k => match k with
  | _ => ("", "", "", false)
def tyJ1 : Nat → FieldType := fun k => match k with
  | _ => .int
abbrev wsJ10 : List Cond := u_ws RJ1 TJ1 0
theorem nmJ1 : ∀ a, a < 0 → ∀ b, b < 0 → a ≠ b → (TJ1 a).2.1 ≠ (TJ1 b).2.1 := by decide +kernel
theorem tyJ1_ok : ∀ k, k < 0 → parseFieldDescriptor (TJ1 k).2.2.1 = some (tyJ1 k) := by decide +kernel
abbrev cJ1_charAt_3b067 : ByteArray := prog_15_method_2_code
def yJ1_charAt_3b067 : MethodName := ⟨RJ1, "charAt", "([BI)C"⟩
def RJ2 : String := "java/lang/StringUTF16"
def TJ2 : u_T := fun k => match k with
  | _ => ("", "", "", false)
def tyJ2 : Nat → FieldType := fun k => match k with
  | _ => .int
abbrev wsJ20 : List Cond := u_ws RJ2 TJ2 0
theorem nmJ2 : ∀ a, a < 0 → ∀ b, b < 0 → a ≠ b → (TJ2 a).2.1 ≠ (TJ2 b).2.1 := by decide +kernel
theorem tyJ2_ok : ∀ k, k < 0 → parseFieldDescriptor (TJ2 k).2.2.1 = some (tyJ2 k) := by decide +kernel
abbrev cJ2_getChar_3b067 : ByteArray := prog_16_method_5_code
def yJ2_getChar_3b067 : MethodName := ⟨RJ2, "getChar", "([BI)C"⟩
abbrev cJ2_length_9d52b : ByteArray := prog_16_method_6_code
def yJ2_length_9d52b : MethodName := ⟨RJ2, "length", "([B)I"⟩
abbrev cJ2_charAt_3b067 : ByteArray := prog_16_method_83_code
def yJ2_charAt_3b067 : MethodName := ⟨RJ2, "charAt", "([BI)C"⟩
abbrev cJ2_checkIndex_2214a : ByteArray := prog_16_method_91_code
def yJ2_checkIndex_2214a : MethodName := ⟨RJ2, "checkIndex", "(I[B)V"⟩
def RJ10 : String := "java/lang/System"
def TJ10 : u_T := fun k => match k with
  | _ => ("", "", "", false)
def tyJ10 : Nat → FieldType := fun k => match k with
  | _ => .int
theorem nmJ10 : ∀ a, a < 0 → ∀ b, b < 0 → a ≠ b → (TJ10 a).2.1 ≠ (TJ10 b).2.1 := by decide +kernel
theorem tyJ10_ok : ∀ k, k < 0 → parseFieldDescriptor (TJ10 k).2.2.1 = some (tyJ10 k) := by decide +kernel
def RJxfd54e : String := "java/lang/constant/Constable"
def TJxfd54e : u_T := fun k => match k with
  | _ => ("", "", "", false)
def tyJxfd54e : Nat → FieldType := fun k => match k with
  | _ => .int
theorem nmJxfd54e : ∀ a, a < 0 → ∀ b, b < 0 → a ≠ b → (TJxfd54e a).2.1 ≠ (TJxfd54e b).2.1 := by decide +kernel
theorem tyJxfd54e_ok : ∀ k, k < 0 → parseFieldDescriptor (TJxfd54e k).2.2.1 = some (tyJxfd54e k) := by decide +kernel
def RJx3cf43 : String := "java/lang/constant/ConstantDesc"
def TJx3cf43 : u_T := fun k => match k with
  | _ => ("", "", "", false)
def tyJx3cf43 : Nat → FieldType := fun k => match k with
  | _ => .int
theorem nmJx3cf43 : ∀ a, a < 0 → ∀ b, b < 0 → a ≠ b → (TJx3cf43 a).2.1 ≠ (TJx3cf43 b).2.1 := by decide +kernel
theorem tyJx3cf43_ok : ∀ k, k < 0 → parseFieldDescriptor (TJx3cf43 k).2.2.1 = some (tyJx3cf43 k) := by decide +kernel
def RJ7 : String := "java/util/Arrays"
def TJ7 : u_T := fun k => match k with
  | _ => ("", "", "", false)
def tyJ7 : Nat → FieldType := fun k => match k with
  | _ => .int
abbrev wsJ70 : List Cond := u_ws RJ7 TJ7 0
theorem nmJ7 : ∀ a, a < 0 → ∀ b, b < 0 → a ≠ b → (TJ7 a).2.1 ≠ (TJ7 b).2.1 := by decide +kernel
theorem tyJ7_ok : ∀ k, k < 0 → parseFieldDescriptor (TJ7 k).2.2.1 = some (tyJ7 k) := by decide +kernel
abbrev cJ7_fill_53178 : ByteArray := prog_18_method_103_code
def yJ7_fill_53178 : MethodName := ⟨RJ7, "fill", "([II)V"⟩
abbrev cJ7_copyOf_59c91 : ByteArray := prog_18_method_123_code
def yJ7_copyOf_59c91 : MethodName := ⟨RJ7, "copyOf", "([II)[I"⟩
def RJ3 : String := "jdk/internal/util/Preconditions"
def TJ3 : u_T := fun k => match k with
  | _ => ("", "", "", false)
def tyJ3 : Nat → FieldType := fun k => match k with
  | _ => .int
abbrev wsJ30 : List Cond := u_ws RJ3 TJ3 0
theorem nmJ3 : ∀ a, a < 0 → ∀ b, b < 0 → a ≠ b → (TJ3 a).2.1 ≠ (TJ3 b).2.1 := by decide +kernel
theorem tyJ3_ok : ∀ k, k < 0 → parseFieldDescriptor (TJ3 k).2.2.1 = some (tyJ3 k) := by decide +kernel
abbrev cJ3_checkIndex_8e157 : ByteArray := prog_19_method_11_code
def yJ3_checkIndex_8e157 : MethodName := ⟨RJ3, "checkIndex", "(IILjava/util/function/BiFunction;)I"⟩
def RL : String := "OneReaderLaw"
abbrev cL_law : ByteArray := code
def yL_law : MethodName := ⟨RL, "law", "([I)Z"⟩
abbrev vwCl : List vw_C := [(RX0, TX0, 19), (RX1, TX1, 7), (RX3, TX3, 3), (RX4, TX4, 2), (RX5, TX5, 3), (RX6, TX6, 4), (RX7, TX7, 9), (RX8, TX8, 51)]
