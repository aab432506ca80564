-- ===== PART A: goes FIRST, ahead of the names: the tables' words, and 'selects' of the private methods out of them =====
/-- a private method of a class that the tables say can be made, by its rows of tables_1 -/
def lw_okq (q : MethodName × Nat) : Prop := (q.1.cls ≠ "java/lang/invoke/MethodHandle" ∧ q.1.cls ≠ "java/lang/invoke/VarHandle") ∧ Cond.instantiable q.1.cls q.2 ∈ tables_1 ∧ Cond.privateMethod q.1 ∈ tables_1 ∧ Cond.instanceMethod q.1 ∈ tables_1
theorem lw_p0 : lw_okq (⟨"WideWholes$Tape", "signs", "()I"⟩, 2) := ⟨⟨by decide +kernel, by decide +kernel⟩, List.mem_of_getElem? (i := 92) (by decide +kernel), List.mem_of_getElem? (i := 340) (by decide +kernel), List.mem_of_getElem? (i := 341) (by decide +kernel)⟩
theorem lw_p1 : lw_okq (⟨"WideWholes$Tape", "valueAt", "(I)I"⟩, 2) := ⟨⟨by decide +kernel, by decide +kernel⟩, List.mem_of_getElem? (i := 92) (by decide +kernel), List.mem_of_getElem? (i := 344) (by decide +kernel), List.mem_of_getElem? (i := 345) (by decide +kernel)⟩
theorem lw_p2 : lw_okq (⟨"WideWholes", "keep", "(LWideWholes$Whole;I)I"⟩, 12) := ⟨⟨by decide +kernel, by decide +kernel⟩, List.mem_of_getElem? (i := 22) (by decide +kernel), List.mem_of_getElem? (i := 365) (by decide +kernel), List.mem_of_getElem? (i := 366) (by decide +kernel)⟩
theorem lw_p3 : lw_okq (⟨"WideWholes$Text", "add", "(I)V"⟩, 3) := ⟨⟨by decide +kernel, by decide +kernel⟩, List.mem_of_getElem? (i := 107) (by decide +kernel), List.mem_of_getElem? (i := 396) (by decide +kernel), List.mem_of_getElem? (i := 397) (by decide +kernel)⟩
theorem lw_p4 : lw_okq (⟨"WideWholes$Text", "turnRound", "()V"⟩, 3) := ⟨⟨by decide +kernel, by decide +kernel⟩, List.mem_of_getElem? (i := 107) (by decide +kernel), List.mem_of_getElem? (i := 404) (by decide +kernel), List.mem_of_getElem? (i := 405) (by decide +kernel)⟩
theorem lw_p5 : lw_okq (⟨"WideWholes$Division", "divideLong", "(LWideWholes$Whole;LWideWholes$Whole;)V"⟩, 5) := ⟨⟨by decide +kernel, by decide +kernel⟩, List.mem_of_getElem? (i := 127) (by decide +kernel), List.mem_of_getElem? (i := 493) (by decide +kernel), List.mem_of_getElem? (i := 494) (by decide +kernel)⟩
theorem lw_p6 : lw_okq (⟨"WideWholes$Division", "guess", "(II)J"⟩, 5) := ⟨⟨by decide +kernel, by decide +kernel⟩, List.mem_of_getElem? (i := 127) (by decide +kernel), List.mem_of_getElem? (i := 510) (by decide +kernel), List.mem_of_getElem? (i := 511) (by decide +kernel)⟩
theorem lw_p7 : lw_okq (⟨"WideWholes$Division", "takeAway", "(IIJ)J"⟩, 5) := ⟨⟨by decide +kernel, by decide +kernel⟩, List.mem_of_getElem? (i := 127) (by decide +kernel), List.mem_of_getElem? (i := 517) (by decide +kernel), List.mem_of_getElem? (i := 518) (by decide +kernel)⟩
theorem lw_p8 : lw_okq (⟨"WideWholes$Division", "giveBack", "(II)V"⟩, 5) := ⟨⟨by decide +kernel, by decide +kernel⟩, List.mem_of_getElem? (i := 127) (by decide +kernel), List.mem_of_getElem? (i := 521) (by decide +kernel), List.mem_of_getElem? (i := 522) (by decide +kernel)⟩
theorem lw_p9 : lw_okq (⟨"WideWholes$Powers", "multiplyBy", "(LWideWholes$Whole;)Z"⟩, 8) := ⟨⟨by decide +kernel, by decide +kernel⟩, List.mem_of_getElem? (i := 160) (by decide +kernel), List.mem_of_getElem? (i := 551) (by decide +kernel), List.mem_of_getElem? (i := 552) (by decide +kernel)⟩
theorem lw_p10 : lw_okq (⟨"WideWholes$Powers", "multiplyLeft", "(LWideWholes$Whole;LWideWholes$Whole;)V"⟩, 8) := ⟨⟨by decide +kernel, by decide +kernel⟩, List.mem_of_getElem? (i := 160) (by decide +kernel), List.mem_of_getElem? (i := 590) (by decide +kernel), List.mem_of_getElem? (i := 591) (by decide +kernel)⟩
theorem lw_p11 : lw_okq (⟨"WideWholes$TwosForm", "negate", "()V"⟩, 1) := ⟨⟨by decide +kernel, by decide +kernel⟩, List.mem_of_getElem? (i := 265) (by decide +kernel), List.mem_of_getElem? (i := 616) (by decide +kernel), List.mem_of_getElem? (i := 617) (by decide +kernel)⟩
theorem lw_p12 : lw_okq (⟨"WideWholes$TwosForm", "isBelow", "()Z"⟩, 1) := ⟨⟨by decide +kernel, by decide +kernel⟩, List.mem_of_getElem? (i := 265) (by decide +kernel), List.mem_of_getElem? (i := 630) (by decide +kernel), List.mem_of_getElem? (i := 631) (by decide +kernel)⟩
theorem lw_p13 : lw_okq (⟨"WideWholes", "moveDown", "(LWideWholes$Whole;I)V"⟩, 12) := ⟨⟨by decide +kernel, by decide +kernel⟩, List.mem_of_getElem? (i := 22) (by decide +kernel), List.mem_of_getElem? (i := 640) (by decide +kernel), List.mem_of_getElem? (i := 641) (by decide +kernel)⟩
theorem lw_p14 : lw_okq (⟨"WideWholes$Fractions", "cut", "(LWideWholes$Whole;LWideWholes$Whole;LWideWholes$Whole;)V"⟩, 8) := ⟨⟨by decide +kernel, by decide +kernel⟩, List.mem_of_getElem? (i := 194) (by decide +kernel), List.mem_of_getElem? (i := 683) (by decide +kernel), List.mem_of_getElem? (i := 684) (by decide +kernel)⟩
theorem lw_p15 : lw_okq (⟨"WideWholes$Fractions", "raiseBottom", "()V"⟩, 8) := ⟨⟨by decide +kernel, by decide +kernel⟩, List.mem_of_getElem? (i := 194) (by decide +kernel), List.mem_of_getElem? (i := 690) (by decide +kernel), List.mem_of_getElem? (i := 691) (by decide +kernel)⟩
def lw_privs_1 : List (MethodName × Nat) := [(⟨"WideWholes$Tape", "signs", "()I"⟩, 2), (⟨"WideWholes$Tape", "valueAt", "(I)I"⟩, 2), (⟨"WideWholes", "keep", "(LWideWholes$Whole;I)I"⟩, 12), (⟨"WideWholes$Text", "add", "(I)V"⟩, 3), (⟨"WideWholes$Text", "turnRound", "()V"⟩, 3), (⟨"WideWholes$Division", "divideLong", "(LWideWholes$Whole;LWideWholes$Whole;)V"⟩, 5), (⟨"WideWholes$Division", "guess", "(II)J"⟩, 5), (⟨"WideWholes$Division", "takeAway", "(IIJ)J"⟩, 5), (⟨"WideWholes$Division", "giveBack", "(II)V"⟩, 5), (⟨"WideWholes$Powers", "multiplyBy", "(LWideWholes$Whole;)Z"⟩, 8), (⟨"WideWholes$Powers", "multiplyLeft", "(LWideWholes$Whole;LWideWholes$Whole;)V"⟩, 8), (⟨"WideWholes$TwosForm", "negate", "()V"⟩, 1), (⟨"WideWholes$TwosForm", "isBelow", "()Z"⟩, 1), (⟨"WideWholes", "moveDown", "(LWideWholes$Whole;I)V"⟩, 12), (⟨"WideWholes$Fractions", "cut", "(LWideWholes$Whole;LWideWholes$Whole;LWideWholes$Whole;)V"⟩, 8), (⟨"WideWholes$Fractions", "raiseBottom", "()V"⟩, 8)]
theorem lw_r1 : ∀ q ∈ lw_privs_1, lw_okq q := List.forall_mem_cons.mpr ⟨lw_p0, List.forall_mem_cons.mpr ⟨lw_p1, List.forall_mem_cons.mpr ⟨lw_p2, List.forall_mem_cons.mpr ⟨lw_p3, List.forall_mem_cons.mpr ⟨lw_p4, List.forall_mem_cons.mpr ⟨lw_p5, List.forall_mem_cons.mpr ⟨lw_p6, List.forall_mem_cons.mpr ⟨lw_p7, List.forall_mem_cons.mpr ⟨lw_p8, List.forall_mem_cons.mpr ⟨lw_p9, List.forall_mem_cons.mpr ⟨lw_p10, List.forall_mem_cons.mpr ⟨lw_p11, List.forall_mem_cons.mpr ⟨lw_p12, List.forall_mem_cons.mpr ⟨lw_p13, List.forall_mem_cons.mpr ⟨lw_p14, List.forall_mem_cons.mpr ⟨lw_p15, fun _ h => absurd h List.not_mem_nil⟩⟩⟩⟩⟩⟩⟩⟩⟩⟩⟩⟩⟩⟩⟩⟩
theorem lw_p16 : lw_okq (⟨"WideWholes", "keepRatio", "(I)I"⟩, 12) := ⟨⟨by decide +kernel, by decide +kernel⟩, List.mem_of_getElem? (i := 22) (by decide +kernel), List.mem_of_getElem? (i := 694) (by decide +kernel), List.mem_of_getElem? (i := 695) (by decide +kernel)⟩
theorem lw_p17 : lw_okq (⟨"WideWholes$Expansion", "countAhead", "(LWideWholes$Whole;I)I"⟩, 8) := ⟨⟨by decide +kernel, by decide +kernel⟩, List.mem_of_getElem? (i := 229) (by decide +kernel), List.mem_of_getElem? (i := 742) (by decide +kernel), List.mem_of_getElem? (i := 743) (by decide +kernel)⟩
theorem lw_p18 : lw_okq (⟨"WideWholes$Expansion", "nextDigit", "(LWideWholes$Whole;I)I"⟩, 8) := ⟨⟨by decide +kernel, by decide +kernel⟩, List.mem_of_getElem? (i := 229) (by decide +kernel), List.mem_of_getElem? (i := 756) (by decide +kernel), List.mem_of_getElem? (i := 757) (by decide +kernel)⟩
theorem lw_p19 : lw_okq (⟨"WideWholes$Expansion", "keepFresh", "(II)V"⟩, 8) := ⟨⟨by decide +kernel, by decide +kernel⟩, List.mem_of_getElem? (i := 229) (by decide +kernel), List.mem_of_getElem? (i := 764) (by decide +kernel), List.mem_of_getElem? (i := 765) (by decide +kernel)⟩
theorem lw_p20 : lw_okq (⟨"java/lang/Throwable", "fillInStackTrace", "(I)Ljava/lang/Throwable;"⟩, 6) := ⟨⟨by decide +kernel, by decide +kernel⟩, List.mem_of_getElem? (i := 816) (by decide +kernel), List.mem_of_getElem? (i := 814) (by decide +kernel), List.mem_of_getElem? (i := 815) (by decide +kernel)⟩
theorem lw_p21 : lw_okq (⟨"WideWholesModel", "isSlot", "(I)Z"⟩, 23) := ⟨⟨by decide +kernel, by decide +kernel⟩, List.mem_of_getElem? (i := 850) (by decide +kernel), List.mem_of_getElem? (i := 957) (by decide +kernel), List.mem_of_getElem? (i := 958) (by decide +kernel)⟩
theorem lw_p22 : lw_okq (⟨"WideWholesModel", "of", "(J)LWideWholesModel$Whole;"⟩, 23) := ⟨⟨by decide +kernel, by decide +kernel⟩, List.mem_of_getElem? (i := 850) (by decide +kernel), List.mem_of_getElem? (i := 961) (by decide +kernel), List.mem_of_getElem? (i := 962) (by decide +kernel)⟩
theorem lw_p23 : lw_okq (⟨"WideWholesModel", "take", "()LWideWholesModel$Whole;"⟩, 23) := ⟨⟨by decide +kernel, by decide +kernel⟩, List.mem_of_getElem? (i := 850) (by decide +kernel), List.mem_of_getElem? (i := 965) (by decide +kernel), List.mem_of_getElem? (i := 966) (by decide +kernel)⟩
theorem lw_p24 : lw_okq (⟨"WideWholesModel", "keep", "(ILWideWholesModel$Whole;)I"⟩, 23) := ⟨⟨by decide +kernel, by decide +kernel⟩, List.mem_of_getElem? (i := 850) (by decide +kernel), List.mem_of_getElem? (i := 974) (by decide +kernel), List.mem_of_getElem? (i := 975) (by decide +kernel)⟩
theorem lw_p25 : lw_okq (⟨"WideWholesModel", "copy", "(LWideWholesModel$Whole;)LWideWholesModel$Whole;"⟩, 23) := ⟨⟨by decide +kernel, by decide +kernel⟩, List.mem_of_getElem? (i := 850) (by decide +kernel), List.mem_of_getElem? (i := 997) (by decide +kernel), List.mem_of_getElem? (i := 998) (by decide +kernel)⟩
theorem lw_p26 : lw_okq (⟨"WideWholesModel", "times", "(LWideWholesModel$Whole;LWideWholesModel$Whole;)LWideWholesModel$Whole;"⟩, 23) := ⟨⟨by decide +kernel, by decide +kernel⟩, List.mem_of_getElem? (i := 850) (by decide +kernel), List.mem_of_getElem? (i := 1004) (by decide +kernel), List.mem_of_getElem? (i := 1005) (by decide +kernel)⟩
theorem lw_p27 : lw_okq (⟨"WideWholesModel", "sum", "(LWideWholesModel$Whole;LWideWholesModel$Whole;)LWideWholesModel$Whole;"⟩, 23) := ⟨⟨by decide +kernel, by decide +kernel⟩, List.mem_of_getElem? (i := 850) (by decide +kernel), List.mem_of_getElem? (i := 1008) (by decide +kernel), List.mem_of_getElem? (i := 1009) (by decide +kernel)⟩
theorem lw_p28 : lw_okq (⟨"WideWholesModel", "sum", "(LWideWholesModel$Whole;LWideWholesModel$Whole;Z)LWideWholesModel$Whole;"⟩, 23) := ⟨⟨by decide +kernel, by decide +kernel⟩, List.mem_of_getElem? (i := 850) (by decide +kernel), List.mem_of_getElem? (i := 1016) (by decide +kernel), List.mem_of_getElem? (i := 1017) (by decide +kernel)⟩
theorem lw_p29 : lw_okq (⟨"WideWholesModel", "lessSize", "(LWideWholesModel$Whole;LWideWholesModel$Whole;Z)LWideWholesModel$Whole;"⟩, 23) := ⟨⟨by decide +kernel, by decide +kernel⟩, List.mem_of_getElem? (i := 850) (by decide +kernel), List.mem_of_getElem? (i := 1023) (by decide +kernel), List.mem_of_getElem? (i := 1024) (by decide +kernel)⟩
theorem lw_p30 : lw_okq (⟨"WideWholesModel", "negative", "(LWideWholesModel$Whole;)LWideWholesModel$Whole;"⟩, 23) := ⟨⟨by decide +kernel, by decide +kernel⟩, List.mem_of_getElem? (i := 850) (by decide +kernel), List.mem_of_getElem? (i := 1029) (by decide +kernel), List.mem_of_getElem? (i := 1030) (by decide +kernel)⟩
theorem lw_p31 : lw_okq (⟨"WideWholesModel", "sized", "(LWideWholesModel$Whole;)LWideWholesModel$Whole;"⟩, 23) := ⟨⟨by decide +kernel, by decide +kernel⟩, List.mem_of_getElem? (i := 850) (by decide +kernel), List.mem_of_getElem? (i := 1037) (by decide +kernel), List.mem_of_getElem? (i := 1038) (by decide +kernel)⟩
def lw_privs_2 : List (MethodName × Nat) := [(⟨"WideWholes", "keepRatio", "(I)I"⟩, 12), (⟨"WideWholes$Expansion", "countAhead", "(LWideWholes$Whole;I)I"⟩, 8), (⟨"WideWholes$Expansion", "nextDigit", "(LWideWholes$Whole;I)I"⟩, 8), (⟨"WideWholes$Expansion", "keepFresh", "(II)V"⟩, 8), (⟨"java/lang/Throwable", "fillInStackTrace", "(I)Ljava/lang/Throwable;"⟩, 6), (⟨"WideWholesModel", "isSlot", "(I)Z"⟩, 23), (⟨"WideWholesModel", "of", "(J)LWideWholesModel$Whole;"⟩, 23), (⟨"WideWholesModel", "take", "()LWideWholesModel$Whole;"⟩, 23), (⟨"WideWholesModel", "keep", "(ILWideWholesModel$Whole;)I"⟩, 23), (⟨"WideWholesModel", "copy", "(LWideWholesModel$Whole;)LWideWholesModel$Whole;"⟩, 23), (⟨"WideWholesModel", "times", "(LWideWholesModel$Whole;LWideWholesModel$Whole;)LWideWholesModel$Whole;"⟩, 23), (⟨"WideWholesModel", "sum", "(LWideWholesModel$Whole;LWideWholesModel$Whole;)LWideWholesModel$Whole;"⟩, 23), (⟨"WideWholesModel", "sum", "(LWideWholesModel$Whole;LWideWholesModel$Whole;Z)LWideWholesModel$Whole;"⟩, 23), (⟨"WideWholesModel", "lessSize", "(LWideWholesModel$Whole;LWideWholesModel$Whole;Z)LWideWholesModel$Whole;"⟩, 23), (⟨"WideWholesModel", "negative", "(LWideWholesModel$Whole;)LWideWholesModel$Whole;"⟩, 23), (⟨"WideWholesModel", "sized", "(LWideWholesModel$Whole;)LWideWholesModel$Whole;"⟩, 23)]
theorem lw_r2 : ∀ q ∈ lw_privs_2, lw_okq q := List.forall_mem_cons.mpr ⟨lw_p16, List.forall_mem_cons.mpr ⟨lw_p17, List.forall_mem_cons.mpr ⟨lw_p18, List.forall_mem_cons.mpr ⟨lw_p19, List.forall_mem_cons.mpr ⟨lw_p20, List.forall_mem_cons.mpr ⟨lw_p21, List.forall_mem_cons.mpr ⟨lw_p22, List.forall_mem_cons.mpr ⟨lw_p23, List.forall_mem_cons.mpr ⟨lw_p24, List.forall_mem_cons.mpr ⟨lw_p25, List.forall_mem_cons.mpr ⟨lw_p26, List.forall_mem_cons.mpr ⟨lw_p27, List.forall_mem_cons.mpr ⟨lw_p28, List.forall_mem_cons.mpr ⟨lw_p29, List.forall_mem_cons.mpr ⟨lw_p30, List.forall_mem_cons.mpr ⟨lw_p31, fun _ h => absurd h List.not_mem_nil⟩⟩⟩⟩⟩⟩⟩⟩⟩⟩⟩⟩⟩⟩⟩⟩
theorem lw_p32 : lw_okq (⟨"WideWholesModel", "divide", "(LWideWholesModel$Whole;LWideWholesModel$Whole;)V"⟩, 23) := ⟨⟨by decide +kernel, by decide +kernel⟩, List.mem_of_getElem? (i := 850) (by decide +kernel), List.mem_of_getElem? (i := 1041) (by decide +kernel), List.mem_of_getElem? (i := 1042) (by decide +kernel)⟩
theorem lw_p33 : lw_okq (⟨"WideWholesModel", "divideLong", "(LWideWholesModel$Whole;LWideWholesModel$Whole;)V"⟩, 23) := ⟨⟨by decide +kernel, by decide +kernel⟩, List.mem_of_getElem? (i := 850) (by decide +kernel), List.mem_of_getElem? (i := 1045) (by decide +kernel), List.mem_of_getElem? (i := 1046) (by decide +kernel)⟩
theorem lw_p34 : lw_okq (⟨"WideWholesModel", "moved", "(LWideWholesModel$Whole;I)LWideWholesModel$Whole;"⟩, 23) := ⟨⟨by decide +kernel, by decide +kernel⟩, List.mem_of_getElem? (i := 850) (by decide +kernel), List.mem_of_getElem? (i := 1050) (by decide +kernel), List.mem_of_getElem? (i := 1051) (by decide +kernel)⟩
theorem lw_p35 : lw_okq (⟨"WideWholesModel", "isShort", "(LWideWholesModel$Whole;)Z"⟩, 23) := ⟨⟨by decide +kernel, by decide +kernel⟩, List.mem_of_getElem? (i := 850) (by decide +kernel), List.mem_of_getElem? (i := 1077) (by decide +kernel), List.mem_of_getElem? (i := 1078) (by decide +kernel)⟩
theorem lw_p36 : lw_okq (⟨"WideWholesModel", "acted", "(ILWideWholesModel$Whole;LWideWholesModel$Whole;)LWideWholesModel$Whole;"⟩, 23) := ⟨⟨by decide +kernel, by decide +kernel⟩, List.mem_of_getElem? (i := 850) (by decide +kernel), List.mem_of_getElem? (i := 1096) (by decide +kernel), List.mem_of_getElem? (i := 1097) (by decide +kernel)⟩
theorem lw_p37 : lw_okq (⟨"WideWholesModel", "less", "(LWideWholesModel$Whole;LWideWholesModel$Whole;)LWideWholesModel$Whole;"⟩, 23) := ⟨⟨by decide +kernel, by decide +kernel⟩, List.mem_of_getElem? (i := 850) (by decide +kernel), List.mem_of_getElem? (i := 1100) (by decide +kernel), List.mem_of_getElem? (i := 1101) (by decide +kernel)⟩
theorem lw_p38 : lw_okq (⟨"WideWholesModel", "over", "(ILWideWholesModel$Whole;LWideWholesModel$Whole;)V"⟩, 23) := ⟨⟨by decide +kernel, by decide +kernel⟩, List.mem_of_getElem? (i := 850) (by decide +kernel), List.mem_of_getElem? (i := 1108) (by decide +kernel), List.mem_of_getElem? (i := 1109) (by decide +kernel)⟩
theorem lw_p39 : lw_okq (⟨"WideWholesModel", "gcd", "(LWideWholesModel$Whole;LWideWholesModel$Whole;)LWideWholesModel$Whole;"⟩, 23) := ⟨⟨by decide +kernel, by decide +kernel⟩, List.mem_of_getElem? (i := 850) (by decide +kernel), List.mem_of_getElem? (i := 1116) (by decide +kernel), List.mem_of_getElem? (i := 1117) (by decide +kernel)⟩
theorem lw_p40 : lw_okq (⟨"WideWholesModel", "powered", "(LWideWholesModel$Whole;I)LWideWholesModel$Whole;"⟩, 23) := ⟨⟨by decide +kernel, by decide +kernel⟩, List.mem_of_getElem? (i := 850) (by decide +kernel), List.mem_of_getElem? (i := 1128) (by decide +kernel), List.mem_of_getElem? (i := 1129) (by decide +kernel)⟩
theorem lw_p41 : lw_okq (⟨"WideWholesModel", "wrongRest", "(LWideWholesModel$Whole;)I"⟩, 23) := ⟨⟨by decide +kernel, by decide +kernel⟩, List.mem_of_getElem? (i := 850) (by decide +kernel), List.mem_of_getElem? (i := 1137) (by decide +kernel), List.mem_of_getElem? (i := 1138) (by decide +kernel)⟩
theorem lw_p42 : lw_okq (⟨"WideWholesModel", "twos", "(LWideWholesModel$Whole;[I)[I"⟩, 23) := ⟨⟨by decide +kernel, by decide +kernel⟩, List.mem_of_getElem? (i := 850) (by decide +kernel), List.mem_of_getElem? (i := 1149) (by decide +kernel), List.mem_of_getElem? (i := 1150) (by decide +kernel)⟩
theorem lw_p43 : lw_okq (⟨"WideWholesModel", "fromTwos", "([I)LWideWholesModel$Whole;"⟩, 23) := ⟨⟨by decide +kernel, by decide +kernel⟩, List.mem_of_getElem? (i := 850) (by decide +kernel), List.mem_of_getElem? (i := 1153) (by decide +kernel), List.mem_of_getElem? (i := 1154) (by decide +kernel)⟩
theorem lw_p44 : lw_okq (⟨"WideWholesModel", "isRatio", "(I)Z"⟩, 23) := ⟨⟨by decide +kernel, by decide +kernel⟩, List.mem_of_getElem? (i := 850) (by decide +kernel), List.mem_of_getElem? (i := 1185) (by decide +kernel), List.mem_of_getElem? (i := 1186) (by decide +kernel)⟩
theorem lw_p45 : lw_okq (⟨"WideWholesModel", "keepRatio", "(ILWideWholesModel$Whole;LWideWholesModel$Whole;)I"⟩, 23) := ⟨⟨by decide +kernel, by decide +kernel⟩, List.mem_of_getElem? (i := 850) (by decide +kernel), List.mem_of_getElem? (i := 1189) (by decide +kernel), List.mem_of_getElem? (i := 1190) (by decide +kernel)⟩
theorem lw_p46 : lw_okq (⟨"WideWholesModel", "told", "(II)I"⟩, 23) := ⟨⟨by decide +kernel, by decide +kernel⟩, List.mem_of_getElem? (i := 850) (by decide +kernel), List.mem_of_getElem? (i := 1209) (by decide +kernel), List.mem_of_getElem? (i := 1210) (by decide +kernel)⟩
def lw_privs_3 : List (MethodName × Nat) := [(⟨"WideWholesModel", "divide", "(LWideWholesModel$Whole;LWideWholesModel$Whole;)V"⟩, 23), (⟨"WideWholesModel", "divideLong", "(LWideWholesModel$Whole;LWideWholesModel$Whole;)V"⟩, 23), (⟨"WideWholesModel", "moved", "(LWideWholesModel$Whole;I)LWideWholesModel$Whole;"⟩, 23), (⟨"WideWholesModel", "isShort", "(LWideWholesModel$Whole;)Z"⟩, 23), (⟨"WideWholesModel", "acted", "(ILWideWholesModel$Whole;LWideWholesModel$Whole;)LWideWholesModel$Whole;"⟩, 23), (⟨"WideWholesModel", "less", "(LWideWholesModel$Whole;LWideWholesModel$Whole;)LWideWholesModel$Whole;"⟩, 23), (⟨"WideWholesModel", "over", "(ILWideWholesModel$Whole;LWideWholesModel$Whole;)V"⟩, 23), (⟨"WideWholesModel", "gcd", "(LWideWholesModel$Whole;LWideWholesModel$Whole;)LWideWholesModel$Whole;"⟩, 23), (⟨"WideWholesModel", "powered", "(LWideWholesModel$Whole;I)LWideWholesModel$Whole;"⟩, 23), (⟨"WideWholesModel", "wrongRest", "(LWideWholesModel$Whole;)I"⟩, 23), (⟨"WideWholesModel", "twos", "(LWideWholesModel$Whole;[I)[I"⟩, 23), (⟨"WideWholesModel", "fromTwos", "([I)LWideWholesModel$Whole;"⟩, 23), (⟨"WideWholesModel", "isRatio", "(I)Z"⟩, 23), (⟨"WideWholesModel", "keepRatio", "(ILWideWholesModel$Whole;LWideWholesModel$Whole;)I"⟩, 23), (⟨"WideWholesModel", "told", "(II)I"⟩, 23)]
theorem lw_r3 : ∀ q ∈ lw_privs_3, lw_okq q := List.forall_mem_cons.mpr ⟨lw_p32, List.forall_mem_cons.mpr ⟨lw_p33, List.forall_mem_cons.mpr ⟨lw_p34, List.forall_mem_cons.mpr ⟨lw_p35, List.forall_mem_cons.mpr ⟨lw_p36, List.forall_mem_cons.mpr ⟨lw_p37, List.forall_mem_cons.mpr ⟨lw_p38, List.forall_mem_cons.mpr ⟨lw_p39, List.forall_mem_cons.mpr ⟨lw_p40, List.forall_mem_cons.mpr ⟨lw_p41, List.forall_mem_cons.mpr ⟨lw_p42, List.forall_mem_cons.mpr ⟨lw_p43, List.forall_mem_cons.mpr ⟨lw_p44, List.forall_mem_cons.mpr ⟨lw_p45, List.forall_mem_cons.mpr ⟨lw_p46, fun _ h => absurd h List.not_mem_nil⟩⟩⟩⟩⟩⟩⟩⟩⟩⟩⟩⟩⟩⟩⟩
def lw_privs : List (MethodName × Nat) := lw_privs_1 ++ (lw_privs_2 ++ (lw_privs_3))
def lw_tbl : List Cond := k2_sels lw_privs ++ tables_1
theorem lw_privs_ok : ∀ q ∈ lw_privs, lw_okq q := by
  show ∀ q ∈ lw_privs_1 ++ (lw_privs_2 ++ (lw_privs_3)), lw_okq q
  exact List.forall_mem_append.mpr ⟨lw_r1, List.forall_mem_append.mpr ⟨lw_r2, lw_r3⟩⟩

def RX0 : String := "WideWholes$Division"
def TX0 : u_T := fun k => match k with
  | 0 => ("WideWholes$Division", "quotient", "LWideWholes$Whole;", true)
  | 1 => ("WideWholes$Division", "left", "LWideWholes$Whole;", true)
  | 2 => ("WideWholes$Division", "one", "LWideWholes$Whole;", true)
  | 3 => ("WideWholes$Division", "dividend", "[J", true)
  | _ => ("WideWholes$Division", "divisor", "[J", true)
def tyX0 : Nat → FieldType := fun k => match k with
  | 0 => .object "WideWholes$Whole"
  | 1 => .object "WideWholes$Whole"
  | 2 => .object "WideWholes$Whole"
  | 3 => .array .long
  | _ => .array .long
abbrev wsX00 : List Cond := u_ws RX0 TX0 5
theorem nmX0 : ∀ a, a < 5 → ∀ b, b < 5 → a ≠ b → (TX0 a).2.1 ≠ (TX0 b).2.1 := by decide +kernel
theorem tyX0_ok : ∀ k, k < 5 → parseFieldDescriptor (TX0 k).2.2.1 = some (tyX0 k) := by decide +kernel
abbrev cX0_init : ByteArray := prog_2_method_1_code
def yX0_init : MethodName := ⟨RX0, "<init>", "()V"⟩
abbrev cX0_divide : ByteArray := prog_2_method_2_code
def yX0_divide : MethodName := ⟨RX0, "divide", "(ILWideWholes$Whole;LWideWholes$Whole;)V"⟩
abbrev cX0_divideSizes : ByteArray := prog_2_method_3_code
def yX0_divideSizes : MethodName := ⟨RX0, "divideSizes", "(LWideWholes$Whole;LWideWholes$Whole;)V"⟩
abbrev cX0_divideLong : ByteArray := prog_2_method_4_code
def yX0_divideLong : MethodName := ⟨RX0, "divideLong", "(LWideWholes$Whole;LWideWholes$Whole;)V"⟩
abbrev cX0_guess : ByteArray := prog_2_method_5_code
def yX0_guess : MethodName := ⟨RX0, "guess", "(II)J"⟩
abbrev cX0_takeAway : ByteArray := prog_2_method_6_code
def yX0_takeAway : MethodName := ⟨RX0, "takeAway", "(IIJ)J"⟩
abbrev cX0_giveBack : ByteArray := prog_2_method_7_code
def yX0_giveBack : MethodName := ⟨RX0, "giveBack", "(II)V"⟩
def RX1 : String := "WideWholes$Expansion"
def TX1 : u_T := fun k => match k with
  | 0 => ("WideWholes$Expansion", "head", "I", false)
  | 1 => ("WideWholes$Expansion", "round", "I", false)
  | 2 => ("WideWholes$Expansion", "kept", "[I", false)
  | 3 => ("WideWholes$Expansion", "fresh", "[I", false)
  | 4 => ("WideWholes$Expansion", "division", "LWideWholes$Division;", true)
  | 5 => ("WideWholes$Expansion", "left", "LWideWholes$Whole;", true)
  | 6 => ("WideWholes$Expansion", "start", "LWideWholes$Whole;", true)
  | _ => ("WideWholes$Expansion", "uncut", "LWideWholes$Whole;", true)
def tyX1 : Nat → FieldType := fun k => match k with
  | 0 => .int
  | 1 => .int
  | 2 => .array .int
  | 3 => .array .int
  | 4 => .object "WideWholes$Division"
  | 5 => .object "WideWholes$Whole"
  | 6 => .object "WideWholes$Whole"
  | _ => .object "WideWholes$Whole"
abbrev wsX10 : List Cond := u_ws RX1 TX1 8
theorem nmX1 : ∀ a, a < 8 → ∀ b, b < 8 → a ≠ b → (TX1 a).2.1 ≠ (TX1 b).2.1 := by decide +kernel
theorem tyX1_ok : ∀ k, k < 8 → parseFieldDescriptor (TX1 k).2.2.1 = some (tyX1 k) := by decide +kernel
abbrev cX1_init : ByteArray := prog_3_method_1_code
def yX1_init : MethodName := ⟨RX1, "<init>", "(LWideWholes$Division;)V"⟩
abbrev cX1_reckon : ByteArray := prog_3_method_2_code
def yX1_reckon : MethodName := ⟨RX1, "reckon", "(LWideWholes$Ratio;I)Z"⟩
abbrev cX1_countAhead : ByteArray := prog_3_method_3_code
def yX1_countAhead : MethodName := ⟨RX1, "countAhead", "(LWideWholes$Whole;I)I"⟩
abbrev cX1_smallDivisor : ByteArray := prog_3_method_4_code
def yX1_smallDivisor : MethodName := ⟨RX1, "smallDivisor", "(JJ)J"⟩
abbrev cX1_nextDigit : ByteArray := prog_3_method_5_code
def yX1_nextDigit : MethodName := ⟨RX1, "nextDigit", "(LWideWholes$Whole;I)I"⟩
abbrev cX1_keepFresh : ByteArray := prog_3_method_6_code
def yX1_keepFresh : MethodName := ⟨RX1, "keepFresh", "(II)V"⟩
def RX2 : String := "WideWholes$Fractions"
def TX2 : u_T := fun k => match k with
  | 0 => ("WideWholes$Fractions", "top", "LWideWholes$Whole;", true)
  | 1 => ("WideWholes$Fractions", "bottom", "LWideWholes$Whole;", true)
  | 2 => ("WideWholes$Fractions", "division", "LWideWholes$Division;", true)
  | 3 => ("WideWholes$Fractions", "powers", "LWideWholes$Powers;", true)
  | 4 => ("WideWholes$Fractions", "common", "LWideWholes$Whole;", true)
  | 5 => ("WideWholes$Fractions", "firstCut", "LWideWholes$Whole;", true)
  | 6 => ("WideWholes$Fractions", "secondCut", "LWideWholes$Whole;", true)
  | _ => ("WideWholes$Fractions", "product", "LWideWholes$Whole;", true)
def tyX2 : Nat → FieldType := fun k => match k with
  | 0 => .object "WideWholes$Whole"
  | 1 => .object "WideWholes$Whole"
  | 2 => .object "WideWholes$Division"
  | 3 => .object "WideWholes$Powers"
  | 4 => .object "WideWholes$Whole"
  | 5 => .object "WideWholes$Whole"
  | 6 => .object "WideWholes$Whole"
  | _ => .object "WideWholes$Whole"
abbrev wsX20 : List Cond := u_ws RX2 TX2 8
theorem nmX2 : ∀ a, a < 8 → ∀ b, b < 8 → a ≠ b → (TX2 a).2.1 ≠ (TX2 b).2.1 := by decide +kernel
theorem tyX2_ok : ∀ k, k < 8 → parseFieldDescriptor (TX2 k).2.2.1 = some (tyX2 k) := by decide +kernel
abbrev cX2_init : ByteArray := prog_4_method_1_code
def yX2_init : MethodName := ⟨RX2, "<init>", "(LWideWholes$Division;LWideWholes$Powers;)V"⟩
abbrev cX2_reduce : ByteArray := prog_4_method_2_code
def yX2_reduce : MethodName := ⟨RX2, "reduce", "(LWideWholes$Whole;LWideWholes$Whole;)V"⟩
abbrev cX2_addUp : ByteArray := prog_4_method_3_code
def yX2_addUp : MethodName := ⟨RX2, "addUp", "(LWideWholes$Ratio;LWideWholes$Ratio;Z)V"⟩
abbrev cX2_multiply : ByteArray := prog_4_method_4_code
def yX2_multiply : MethodName := ⟨RX2, "multiply", "(LWideWholes$Ratio;LWideWholes$Whole;LWideWholes$Whole;)V"⟩
abbrev cX2_order : ByteArray := prog_4_method_5_code
def yX2_order : MethodName := ⟨RX2, "order", "(LWideWholes$Ratio;LWideWholes$Ratio;)I"⟩
abbrev cX2_nearerAbove : ByteArray := prog_4_method_6_code
def yX2_nearerAbove : MethodName := ⟨RX2, "nearerAbove", "(LWideWholes$Whole;)Z"⟩
abbrev cX2_cut : ByteArray := prog_4_method_7_code
def yX2_cut : MethodName := ⟨RX2, "cut", "(LWideWholes$Whole;LWideWholes$Whole;LWideWholes$Whole;)V"⟩
abbrev cX2_raiseBottom : ByteArray := prog_4_method_8_code
def yX2_raiseBottom : MethodName := ⟨RX2, "raiseBottom", "()V"⟩
def RX3 : String := "WideWholes$Powers"
def TX3 : u_T := fun k => match k with
  | 0 => ("WideWholes$Powers", "result", "LWideWholes$Whole;", true)
  | 1 => ("WideWholes$Powers", "division", "LWideWholes$Division;", true)
  | 2 => ("WideWholes$Powers", "product", "LWideWholes$Whole;", true)
  | 3 => ("WideWholes$Powers", "base", "LWideWholes$Whole;", true)
  | 4 => ("WideWholes$Powers", "first", "LWideWholes$Whole;", true)
  | 5 => ("WideWholes$Powers", "second", "LWideWholes$Whole;", true)
  | 6 => ("WideWholes$Powers", "firstShare", "LWideWholes$Whole;", true)
  | _ => ("WideWholes$Powers", "secondShare", "LWideWholes$Whole;", true)
def tyX3 : Nat → FieldType := fun k => match k with
  | 0 => .object "WideWholes$Whole"
  | 1 => .object "WideWholes$Division"
  | 2 => .object "WideWholes$Whole"
  | 3 => .object "WideWholes$Whole"
  | 4 => .object "WideWholes$Whole"
  | 5 => .object "WideWholes$Whole"
  | 6 => .object "WideWholes$Whole"
  | _ => .object "WideWholes$Whole"
abbrev wsX30 : List Cond := u_ws RX3 TX3 8
theorem nmX3 : ∀ a, a < 8 → ∀ b, b < 8 → a ≠ b → (TX3 a).2.1 ≠ (TX3 b).2.1 := by decide +kernel
theorem tyX3_ok : ∀ k, k < 8 → parseFieldDescriptor (TX3 k).2.2.1 = some (tyX3 k) := by decide +kernel
abbrev cX3_init : ByteArray := prog_5_method_1_code
def yX3_init : MethodName := ⟨RX3, "<init>", "(LWideWholes$Division;)V"⟩
abbrev cX3_raise : ByteArray := prog_5_method_2_code
def yX3_raise : MethodName := ⟨RX3, "raise", "(LWideWholes$Whole;I)Z"⟩
abbrev cX3_multiplyBy : ByteArray := prog_5_method_3_code
def yX3_multiplyBy : MethodName := ⟨RX3, "multiplyBy", "(LWideWholes$Whole;)Z"⟩
abbrev cX3_extract : ByteArray := prog_5_method_4_code
def yX3_extract : MethodName := ⟨RX3, "extract", "(LWideWholes$Whole;ILWideWholes$Whole;)Z"⟩
abbrev cX3_raiseBy : ByteArray := prog_5_method_5_code
def yX3_raiseBy : MethodName := ⟨RX3, "raiseBy", "(LWideWholes$Whole;ILWideWholes$Whole;)V"⟩
abbrev cX3_multiplyLeft : ByteArray := prog_5_method_6_code
def yX3_multiplyLeft : MethodName := ⟨RX3, "multiplyLeft", "(LWideWholes$Whole;LWideWholes$Whole;)V"⟩
abbrev cX3_commonDivisor : ByteArray := prog_5_method_7_code
def yX3_commonDivisor : MethodName := ⟨RX3, "commonDivisor", "(LWideWholes$Whole;LWideWholes$Whole;LWideWholes$Whole;)V"⟩
abbrev cX3_invert : ByteArray := prog_5_method_8_code
def yX3_invert : MethodName := ⟨RX3, "invert", "(LWideWholes$Whole;LWideWholes$Whole;)Z"⟩
def RX4 : String := "WideWholes$Ratio"
def TX4 : u_T := fun k => match k with
  | 0 => ("WideWholes$Ratio", "top", "LWideWholes$Whole;", true)
  | _ => ("WideWholes$Ratio", "bottom", "LWideWholes$Whole;", true)
def tyX4 : Nat → FieldType := fun k => match k with
  | 0 => .object "WideWholes$Whole"
  | _ => .object "WideWholes$Whole"
abbrev wsX40 : List Cond := u_ws RX4 TX4 2
theorem nmX4 : ∀ a, a < 2 → ∀ b, b < 2 → a ≠ b → (TX4 a).2.1 ≠ (TX4 b).2.1 := by decide +kernel
theorem tyX4_ok : ∀ k, k < 2 → parseFieldDescriptor (TX4 k).2.2.1 = some (tyX4 k) := by decide +kernel
abbrev cX4_init : ByteArray := prog_6_method_1_code
def yX4_init : MethodName := ⟨RX4, "<init>", "()V"⟩
def RX5 : String := "WideWholes$Tape"
def TX5 : u_T := fun k => match k with
  | 0 => ("WideWholes$Tape", "count", "I", false)
  | _ => ("WideWholes$Tape", "bytes", "[I", true)
def tyX5 : Nat → FieldType := fun k => match k with
  | 0 => .int
  | _ => .array .int
abbrev wsX50 : List Cond := u_ws RX5 TX5 2
theorem nmX5 : ∀ a, a < 2 → ∀ b, b < 2 → a ≠ b → (TX5 a).2.1 ≠ (TX5 b).2.1 := by decide +kernel
theorem tyX5_ok : ∀ k, k < 2 → parseFieldDescriptor (TX5 k).2.2.1 = some (tyX5 k) := by decide +kernel
abbrev cX5_init : ByteArray := prog_7_method_1_code
def yX5_init : MethodName := ⟨RX5, "<init>", "()V"⟩
abbrev cX5_clear : ByteArray := prog_7_method_2_code
def yX5_clear : MethodName := ⟨RX5, "clear", "()V"⟩
abbrev cX5_takeBytes : ByteArray := prog_7_method_3_code
def yX5_takeBytes : MethodName := ⟨RX5, "takeBytes", "(JI)Z"⟩
abbrev cX5_wrongPlace : ByteArray := prog_7_method_4_code
def yX5_wrongPlace : MethodName := ⟨RX5, "wrongPlace", "(I)I"⟩
abbrev cX5_spellInto : ByteArray := prog_7_method_5_code
def yX5_spellInto : MethodName := ⟨RX5, "spellInto", "(LWideWholes$Whole;I)V"⟩
abbrev cX5_signs : ByteArray := prog_7_method_6_code
def yX5_signs : MethodName := ⟨RX5, "signs", "()I"⟩
abbrev cX5_valueAt : ByteArray := prog_7_method_7_code
def yX5_valueAt : MethodName := ⟨RX5, "valueAt", "(I)I"⟩
abbrev cX5_isDigit : ByteArray := prog_7_method_8_code
def yX5_isDigit : MethodName := ⟨RX5, "isDigit", "(II)Z"⟩
def RX6 : String := "WideWholes$Text"
def TX6 : u_T := fun k => match k with
  | 0 => ("WideWholes$Text", "count", "I", false)
  | 1 => ("WideWholes$Text", "bytes", "[I", true)
  | _ => ("WideWholes$Text", "left", "LWideWholes$Whole;", true)
def tyX6 : Nat → FieldType := fun k => match k with
  | 0 => .int
  | 1 => .array .int
  | _ => .object "WideWholes$Whole"
abbrev wsX60 : List Cond := u_ws RX6 TX6 3
theorem nmX6 : ∀ a, a < 3 → ∀ b, b < 3 → a ≠ b → (TX6 a).2.1 ≠ (TX6 b).2.1 := by decide +kernel
theorem tyX6_ok : ∀ k, k < 3 → parseFieldDescriptor (TX6 k).2.2.1 = some (tyX6 k) := by decide +kernel
abbrev cX6_init : ByteArray := prog_8_method_1_code
def yX6_init : MethodName := ⟨RX6, "<init>", "()V"⟩
abbrev cX6_spell : ByteArray := prog_8_method_2_code
def yX6_spell : MethodName := ⟨RX6, "spell", "(LWideWholes$Whole;I)V"⟩
abbrev cX6_add : ByteArray := prog_8_method_3_code
def yX6_add : MethodName := ⟨RX6, "add", "(I)V"⟩
abbrev cX6_turnRound : ByteArray := prog_8_method_4_code
def yX6_turnRound : MethodName := ⟨RX6, "turnRound", "()V"⟩
abbrev cX6_letter : ByteArray := prog_8_method_5_code
def yX6_letter : MethodName := ⟨RX6, "letter", "(I)I"⟩
def RX7 : String := "WideWholes$TwosForm"
def TX7 : u_T := fun k => match k with
  | _ => ("WideWholes$TwosForm", "row", "[J", true)
def tyX7 : Nat → FieldType := fun k => match k with
  | _ => .array .long
abbrev wsX70 : List Cond := u_ws RX7 TX7 1
theorem nmX7 : ∀ a, a < 1 → ∀ b, b < 1 → a ≠ b → (TX7 a).2.1 ≠ (TX7 b).2.1 := by decide +kernel
theorem tyX7_ok : ∀ k, k < 1 → parseFieldDescriptor (TX7 k).2.2.1 = some (tyX7 k) := by decide +kernel
abbrev cX7_init : ByteArray := prog_9_method_1_code
def yX7_init : MethodName := ⟨RX7, "<init>", "()V"⟩
abbrev cX7_load : ByteArray := prog_9_method_2_code
def yX7_load : MethodName := ⟨RX7, "load", "(LWideWholes$Whole;)V"⟩
abbrev cX7_join : ByteArray := prog_9_method_3_code
def yX7_join : MethodName := ⟨RX7, "join", "(ILWideWholes$TwosForm;)V"⟩
abbrev cX7_store : ByteArray := prog_9_method_4_code
def yX7_store : MethodName := ⟨RX7, "store", "(LWideWholes$Whole;)V"⟩
abbrev cX7_bitAt : ByteArray := prog_9_method_5_code
def yX7_bitAt : MethodName := ⟨RX7, "bitAt", "(I)I"⟩
abbrev cX7_unlikeSign : ByteArray := prog_9_method_6_code
def yX7_unlikeSign : MethodName := ⟨RX7, "unlikeSign", "()I"⟩
abbrev cX7_isBelow : ByteArray := prog_9_method_7_code
def yX7_isBelow : MethodName := ⟨RX7, "isBelow", "()Z"⟩
abbrev cX7_negate : ByteArray := prog_9_method_8_code
def yX7_negate : MethodName := ⟨RX7, "negate", "()V"⟩
def RX8 : String := "WideWholes$Whole"
def TX8 : u_T := fun k => match k with
  | 0 => ("WideWholes$Whole", "parts", "[J", true)
  | 1 => ("WideWholes$Whole", "size", "I", false)
  | _ => ("WideWholes$Whole", "below", "Z", false)
def tyX8 : Nat → FieldType := fun k => match k with
  | 0 => .array .long
  | 1 => .int
  | _ => .boolean
abbrev wsX80 : List Cond := u_ws RX8 TX8 3
theorem nmX8 : ∀ a, a < 3 → ∀ b, b < 3 → a ≠ b → (TX8 a).2.1 ≠ (TX8 b).2.1 := by decide +kernel
theorem tyX8_ok : ∀ k, k < 3 → parseFieldDescriptor (TX8 k).2.2.1 = some (tyX8 k) := by decide +kernel
abbrev cX8_init : ByteArray := prog_10_method_1_code
def yX8_init : MethodName := ⟨RX8, "<init>", "()V"⟩
abbrev cX8_become : ByteArray := prog_10_method_2_code
def yX8_become : MethodName := ⟨RX8, "become", "(J)V"⟩
abbrev cX8_copy : ByteArray := prog_10_method_3_code
def yX8_copy : MethodName := ⟨RX8, "copy", "(LWideWholes$Whole;)V"⟩
abbrev cX8_trim : ByteArray := prog_10_method_4_code
def yX8_trim : MethodName := ⟨RX8, "trim", "(I)V"⟩
abbrev cX8_takeSign : ByteArray := prog_10_method_5_code
def yX8_takeSign : MethodName := ⟨RX8, "takeSign", "(Z)V"⟩
abbrev cX8_isZero : ByteArray := prog_10_method_6_code
def yX8_isZero : MethodName := ⟨RX8, "isZero", "()Z"⟩
abbrev cX8_isOne : ByteArray := prog_10_method_7_code
def yX8_isOne : MethodName := ⟨RX8, "isOne", "()Z"⟩
abbrev cX8_isOdd : ByteArray := prog_10_method_8_code
def yX8_isOdd : MethodName := ⟨RX8, "isOdd", "()Z"⟩
abbrev cX8_isWithin : ByteArray := prog_10_method_9_code
def yX8_isWithin : MethodName := ⟨RX8, "isWithin", "()Z"⟩
abbrev cX8_isShort : ByteArray := prog_10_method_10_code
def yX8_isShort : MethodName := ⟨RX8, "isShort", "()Z"⟩
abbrev cX8_partAt : ByteArray := prog_10_method_11_code
def yX8_partAt : MethodName := ⟨RX8, "partAt", "(I)J"⟩
abbrev cX8_lowest64 : ByteArray := prog_10_method_12_code
def yX8_lowest64 : MethodName := ⟨RX8, "lowest64", "()J"⟩
abbrev cX8_sizeBits : ByteArray := prog_10_method_13_code
def yX8_sizeBits : MethodName := ⟨RX8, "sizeBits", "()I"⟩
abbrev cX8_movedPart : ByteArray := prog_10_method_14_code
def yX8_movedPart : MethodName := ⟨RX8, "movedPart", "(II)J"⟩
abbrev cX8_raiseBit : ByteArray := prog_10_method_15_code
def yX8_raiseBit : MethodName := ⟨RX8, "raiseBit", "(I)V"⟩
abbrev cX8_grow : ByteArray := prog_10_method_16_code
def yX8_grow : MethodName := ⟨RX8, "grow", "(JJ)V"⟩
abbrev cX8_shrink : ByteArray := prog_10_method_17_code
def yX8_shrink : MethodName := ⟨RX8, "shrink", "(J)J"⟩
abbrev cX8_leftBy : ByteArray := prog_10_method_18_code
def yX8_leftBy : MethodName := ⟨RX8, "leftBy", "(J)J"⟩
abbrev cX8_bitsOf : ByteArray := prog_10_method_19_code
def yX8_bitsOf : MethodName := ⟨RX8, "bitsOf", "(J)I"⟩
abbrev cX8_quotientOfBits : ByteArray := prog_10_method_20_code
def yX8_quotientOfBits : MethodName := ⟨RX8, "quotientOfBits", "(JJ)J"⟩
abbrev cX8_orderSizes : ByteArray := prog_10_method_21_code
def yX8_orderSizes : MethodName := ⟨RX8, "orderSizes", "(LWideWholes$Whole;LWideWholes$Whole;)I"⟩
abbrev cX8_order : ByteArray := prog_10_method_22_code
def yX8_order : MethodName := ⟨RX8, "order", "(LWideWholes$Whole;LWideWholes$Whole;)I"⟩
abbrev cX8_sum : ByteArray := prog_10_method_23_code
def yX8_sum : MethodName := ⟨RX8, "sum", "(LWideWholes$Whole;LWideWholes$Whole;LWideWholes$Whole;)V"⟩
abbrev cX8_difference : ByteArray := prog_10_method_24_code
def yX8_difference : MethodName := ⟨RX8, "difference", "(LWideWholes$Whole;LWideWholes$Whole;LWideWholes$Whole;)V"⟩
abbrev cX8_combine : ByteArray := prog_10_method_25_code
def yX8_combine : MethodName := ⟨RX8, "combine", "(LWideWholes$Whole;LWideWholes$Whole;ZLWideWholes$Whole;)V"⟩
abbrev cX8_addSizes : ByteArray := prog_10_method_26_code
def yX8_addSizes : MethodName := ⟨RX8, "addSizes", "(LWideWholes$Whole;LWideWholes$Whole;LWideWholes$Whole;)V"⟩
abbrev cX8_subtractSizes : ByteArray := prog_10_method_27_code
def yX8_subtractSizes : MethodName := ⟨RX8, "subtractSizes", "(LWideWholes$Whole;LWideWholes$Whole;LWideWholes$Whole;)V"⟩
abbrev cX8_product : ByteArray := prog_10_method_28_code
def yX8_product : MethodName := ⟨RX8, "product", "(LWideWholes$Whole;LWideWholes$Whole;LWideWholes$Whole;)V"⟩
abbrev cX8_move : ByteArray := prog_10_method_29_code
def yX8_move : MethodName := ⟨RX8, "move", "(LWideWholes$Whole;ILWideWholes$Whole;)V"⟩
def RX9 : String := "WideWholes"
def TX9 : u_T := fun k => match k with
  | 0 => ("WideWholes", "slots", "[LWideWholes$Whole;", true)
  | 1 => ("WideWholes", "ratios", "[LWideWholes$Ratio;", true)
  | 2 => ("WideWholes", "tape", "LWideWholes$Tape;", true)
  | 3 => ("WideWholes", "text", "LWideWholes$Text;", true)
  | 4 => ("WideWholes", "division", "LWideWholes$Division;", true)
  | 5 => ("WideWholes", "powers", "LWideWholes$Powers;", true)
  | 6 => ("WideWholes", "fractions", "LWideWholes$Fractions;", true)
  | 7 => ("WideWholes", "expansion", "LWideWholes$Expansion;", true)
  | 8 => ("WideWholes", "firstTwos", "LWideWholes$TwosForm;", true)
  | 9 => ("WideWholes", "secondTwos", "LWideWholes$TwosForm;", true)
  | 10 => ("WideWholes", "result", "LWideWholes$Whole;", true)
  | _ => ("WideWholes", "one", "LWideWholes$Whole;", true)
def tyX9 : Nat → FieldType := fun k => match k with
  | 0 => .array (.object "WideWholes$Whole")
  | 1 => .array (.object "WideWholes$Ratio")
  | 2 => .object "WideWholes$Tape"
  | 3 => .object "WideWholes$Text"
  | 4 => .object "WideWholes$Division"
  | 5 => .object "WideWholes$Powers"
  | 6 => .object "WideWholes$Fractions"
  | 7 => .object "WideWholes$Expansion"
  | 8 => .object "WideWholes$TwosForm"
  | 9 => .object "WideWholes$TwosForm"
  | 10 => .object "WideWholes$Whole"
  | _ => .object "WideWholes$Whole"
abbrev wsX90 : List Cond := u_ws RX9 TX9 12
theorem nmX9 : ∀ a, a < 12 → ∀ b, b < 12 → a ≠ b → (TX9 a).2.1 ≠ (TX9 b).2.1 := by decide +kernel
theorem tyX9_ok : ∀ k, k < 12 → parseFieldDescriptor (TX9 k).2.2.1 = some (tyX9 k) := by decide +kernel
abbrev cX9_init : ByteArray := prog_1_method_1_code
def yX9_init : MethodName := ⟨RX9, "<init>", "()V"⟩
abbrev cX9_set : ByteArray := prog_1_method_2_code
def yX9_set : MethodName := ⟨RX9, "set", "(IJ)I"⟩
abbrev cX9_feed : ByteArray := prog_1_method_3_code
def yX9_feed : MethodName := ⟨RX9, "feed", "(JI)I"⟩
abbrev cX9_read : ByteArray := prog_1_method_4_code
def yX9_read : MethodName := ⟨RX9, "read", "(II)I"⟩
abbrev cX9_write : ByteArray := prog_1_method_5_code
def yX9_write : MethodName := ⟨RX9, "write", "(II)I"⟩
abbrev cX9_out : ByteArray := prog_1_method_6_code
def yX9_out : MethodName := ⟨RX9, "out", "(I)I"⟩
abbrev cX9_low : ByteArray := prog_1_method_7_code
def yX9_low : MethodName := ⟨RX9, "low", "(I)J"⟩
abbrev cX9_limbs : ByteArray := prog_1_method_8_code
def yX9_limbs : MethodName := ⟨RX9, "limbs", "(I)I"⟩
abbrev cX9_limb : ByteArray := prog_1_method_9_code
def yX9_limb : MethodName := ⟨RX9, "limb", "(II)J"⟩
abbrev cX9_compare : ByteArray := prog_1_method_10_code
def yX9_compare : MethodName := ⟨RX9, "compare", "(II)I"⟩
abbrev cX9_act : ByteArray := prog_1_method_11_code
def yX9_act : MethodName := ⟨RX9, "act", "(IIII)I"⟩
abbrev cX9_over : ByteArray := prog_1_method_12_code
def yX9_over : MethodName := ⟨RX9, "over", "(IIIII)I"⟩
abbrev cX9_divisor : ByteArray := prog_1_method_13_code
def yX9_divisor : MethodName := ⟨RX9, "divisor", "(III)I"⟩
abbrev cX9_power : ByteArray := prog_1_method_14_code
def yX9_power : MethodName := ⟨RX9, "power", "(III)I"⟩
abbrev cX9_root : ByteArray := prog_1_method_15_code
def yX9_root : MethodName := ⟨RX9, "root", "(III)I"⟩
abbrev cX9_rest : ByteArray := prog_1_method_16_code
def yX9_rest : MethodName := ⟨RX9, "rest", "(IIII)I"⟩
abbrev cX9_inverse : ByteArray := prog_1_method_17_code
def yX9_inverse : MethodName := ⟨RX9, "inverse", "(III)I"⟩
abbrev cX9_bits : ByteArray := prog_1_method_18_code
def yX9_bits : MethodName := ⟨RX9, "bits", "(IIII)I"⟩
abbrev cX9_shift : ByteArray := prog_1_method_19_code
def yX9_shift : MethodName := ⟨RX9, "shift", "(III)I"⟩
abbrev cX9_bit : ByteArray := prog_1_method_20_code
def yX9_bit : MethodName := ⟨RX9, "bit", "(II)I"⟩
abbrev cX9_length : ByteArray := prog_1_method_21_code
def yX9_length : MethodName := ⟨RX9, "length", "(I)I"⟩
abbrev cX9_ones : ByteArray := prog_1_method_22_code
def yX9_ones : MethodName := ⟨RX9, "ones", "(I)I"⟩
abbrev cX9_ratio : ByteArray := prog_1_method_23_code
def yX9_ratio : MethodName := ⟨RX9, "ratio", "(III)I"⟩
abbrev cX9_actRatio : ByteArray := prog_1_method_24_code
def yX9_actRatio : MethodName := ⟨RX9, "actRatio", "(IIII)I"⟩
abbrev cX9_compareRatio : ByteArray := prog_1_method_25_code
def yX9_compareRatio : MethodName := ⟨RX9, "compareRatio", "(II)I"⟩
abbrev cX9_part : ByteArray := prog_1_method_26_code
def yX9_part : MethodName := ⟨RX9, "part", "(III)I"⟩
abbrev cX9_digits : ByteArray := prog_1_method_27_code
def yX9_digits : MethodName := ⟨RX9, "digits", "(II)I"⟩
abbrev cX9_digit : ByteArray := prog_1_method_28_code
def yX9_digit : MethodName := ⟨RX9, "digit", "(I)I"⟩
abbrev cX9_isSlot : ByteArray := prog_1_method_29_code
def yX9_isSlot : MethodName := ⟨RX9, "isSlot", "(I)Z"⟩
abbrev cX9_areSlots : ByteArray := prog_1_method_30_code
def yX9_areSlots : MethodName := ⟨RX9, "areSlots", "(III)Z"⟩
abbrev cX9_isRatio : ByteArray := prog_1_method_31_code
def yX9_isRatio : MethodName := ⟨RX9, "isRatio", "(I)Z"⟩
abbrev cX9_isBase : ByteArray := prog_1_method_32_code
def yX9_isBase : MethodName := ⟨RX9, "isBase", "(I)Z"⟩
abbrev cX9_isModulus : ByteArray := prog_1_method_33_code
def yX9_isModulus : MethodName := ⟨RX9, "isModulus", "(LWideWholes$Whole;)Z"⟩
abbrev cX9_keep : ByteArray := prog_1_method_34_code
def yX9_keep : MethodName := ⟨RX9, "keep", "(LWideWholes$Whole;I)I"⟩
abbrev cX9_keepRatio : ByteArray := prog_1_method_35_code
def yX9_keepRatio : MethodName := ⟨RX9, "keepRatio", "(I)I"⟩
abbrev cX9_moveDown : ByteArray := prog_1_method_36_code
def yX9_moveDown : MethodName := ⟨RX9, "moveDown", "(LWideWholes$Whole;I)V"⟩
def RX10 : String := "WideWholesModel$Whole"
def TX10 : u_T := fun k => match k with
  | 0 => ("WideWholesModel$Whole", "minus", "Z", false)
  | 1 => ("WideWholesModel$Whole", "n", "I", false)
  | _ => ("WideWholesModel$Whole", "d", "[I", true)
def tyX10 : Nat → FieldType := fun k => match k with
  | 0 => .boolean
  | 1 => .int
  | _ => .array .int
abbrev wsX100 : List Cond := u_ws RX10 TX10 3
theorem nmX10 : ∀ a, a < 3 → ∀ b, b < 3 → a ≠ b → (TX10 a).2.1 ≠ (TX10 b).2.1 := by decide +kernel
theorem tyX10_ok : ∀ k, k < 3 → parseFieldDescriptor (TX10 k).2.2.1 = some (tyX10 k) := by decide +kernel
abbrev cX10_init : ByteArray := prog_13_method_1_code
def yX10_init : MethodName := ⟨RX10, "<init>", "()V"⟩
abbrev cX10_isZero : ByteArray := prog_13_method_2_code
def yX10_isZero : MethodName := ⟨RX10, "isZero", "()Z"⟩
abbrev cX10_bits : ByteArray := prog_13_method_3_code
def yX10_bits : MethodName := ⟨RX10, "bits", "()I"⟩
abbrev cX10_bit : ByteArray := prog_13_method_4_code
def yX10_bit : MethodName := ⟨RX10, "bit", "(I)Z"⟩
abbrev cX10_become : ByteArray := prog_13_method_5_code
def yX10_become : MethodName := ⟨RX10, "become", "(LWideWholesModel$Whole;)V"⟩
abbrev cX10_of : ByteArray := prog_13_method_6_code
def yX10_of : MethodName := ⟨RX10, "of", "(ZI)LWideWholesModel$Whole;"⟩
def RX11 : String := "WideWholesModel"
def TX11 : u_T := fun k => match k with
  | 0 => ("WideWholesModel", "code", "I", false)
  | 1 => ("WideWholesModel", "pool", "[LWideWholesModel$Whole;", true)
  | 2 => ("WideWholesModel", "top", "I", false)
  | 3 => ("WideWholesModel", "zero", "LWideWholesModel$Whole;", true)
  | 4 => ("WideWholesModel", "one", "LWideWholesModel$Whole;", true)
  | 5 => ("WideWholesModel", "quotient", "LWideWholesModel$Whole;", false)
  | 6 => ("WideWholesModel", "rest", "LWideWholesModel$Whole;", false)
  | 7 => ("WideWholesModel", "gcdX", "LWideWholesModel$Whole;", true)
  | 8 => ("WideWholesModel", "gcdY", "LWideWholesModel$Whole;", true)
  | 9 => ("WideWholesModel", "slots", "[LWideWholesModel$Whole;", true)
  | 10 => ("WideWholesModel", "above", "[LWideWholesModel$Whole;", true)
  | 11 => ("WideWholesModel", "below", "[LWideWholesModel$Whole;", true)
  | 12 => ("WideWholesModel", "tape", "[B", true)
  | 13 => ("WideWholesModel", "taped", "I", false)
  | 14 => ("WideWholesModel", "out", "[B", true)
  | 15 => ("WideWholesModel", "outSize", "I", false)
  | 16 => ("WideWholesModel", "twosX", "[I", true)
  | 17 => ("WideWholesModel", "twosY", "[I", true)
  | 18 => ("WideWholesModel", "digits", "[I", true)
  | 19 => ("WideWholesModel", "found", "[I", true)
  | 20 => ("WideWholesModel", "rests", "[LWideWholesModel$Whole;", true)
  | 21 => ("WideWholesModel", "head", "I", false)
  | _ => ("WideWholesModel", "round", "I", false)
def tyX11 : Nat → FieldType := fun k => match k with
  | 0 => .int
  | 1 => .array (.object "WideWholesModel$Whole")
  | 2 => .int
  | 3 => .object "WideWholesModel$Whole"
  | 4 => .object "WideWholesModel$Whole"
  | 5 => .object "WideWholesModel$Whole"
  | 6 => .object "WideWholesModel$Whole"
  | 7 => .object "WideWholesModel$Whole"
  | 8 => .object "WideWholesModel$Whole"
  | 9 => .array (.object "WideWholesModel$Whole")
  | 10 => .array (.object "WideWholesModel$Whole")
  | 11 => .array (.object "WideWholesModel$Whole")
  | 12 => .array .byte
  | 13 => .int
  | 14 => .array .byte
  | 15 => .int
  | 16 => .array .int
  | 17 => .array .int
  | 18 => .array .int
  | 19 => .array .int
  | 20 => .array (.object "WideWholesModel$Whole")
  | 21 => .int
  | _ => .int
abbrev wsX110 : List Cond := u_ws RX11 TX11 23
theorem nmX11 : ∀ a, a < 23 → ∀ b, b < 23 → a ≠ b → (TX11 a).2.1 ≠ (TX11 b).2.1 := by decide +kernel
theorem tyX11_ok : ∀ k, k < 23 → parseFieldDescriptor (TX11 k).2.2.1 = some (tyX11 k) := by decide +kernel
abbrev cX11_thrown : ByteArray := prog_12_method_1_code
def yX11_thrown : MethodName := ⟨RX11, "thrown", "()I"⟩
abbrev cX11_take : ByteArray := prog_12_method_2_code
def yX11_take : MethodName := ⟨RX11, "take", "()LWideWholesModel$Whole;"⟩
abbrev cX11_of : ByteArray := prog_12_method_3_code
def yX11_of : MethodName := ⟨RX11, "of", "(J)LWideWholesModel$Whole;"⟩
abbrev cX11_copy : ByteArray := prog_12_method_4_code
def yX11_copy : MethodName := ⟨RX11, "copy", "(LWideWholesModel$Whole;)LWideWholesModel$Whole;"⟩
abbrev cX11_sized : ByteArray := prog_12_method_5_code
def yX11_sized : MethodName := ⟨RX11, "sized", "(LWideWholesModel$Whole;)LWideWholesModel$Whole;"⟩
abbrev cX11_negative : ByteArray := prog_12_method_6_code
def yX11_negative : MethodName := ⟨RX11, "negative", "(LWideWholesModel$Whole;)LWideWholesModel$Whole;"⟩
abbrev cX11_compareSizes : ByteArray := prog_12_method_7_code
def yX11_compareSizes : MethodName := ⟨RX11, "compareSizes", "(LWideWholesModel$Whole;LWideWholesModel$Whole;)I"⟩
abbrev cX11_compare : ByteArray := prog_12_method_8_code
def yX11_compare : MethodName := ⟨RX11, "compare", "(LWideWholesModel$Whole;LWideWholesModel$Whole;)I"⟩
abbrev cX11_sum : ByteArray := prog_12_method_9_code
def yX11_sum : MethodName := ⟨RX11, "sum", "(LWideWholesModel$Whole;LWideWholesModel$Whole;Z)LWideWholesModel$Whole;"⟩
abbrev cX11_sum_ : ByteArray := prog_12_method_10_code
def yX11_sum_ : MethodName := ⟨RX11, "sum", "(LWideWholesModel$Whole;LWideWholesModel$Whole;)LWideWholesModel$Whole;"⟩
abbrev cX11_less : ByteArray := prog_12_method_11_code
def yX11_less : MethodName := ⟨RX11, "less", "(LWideWholesModel$Whole;LWideWholesModel$Whole;)LWideWholesModel$Whole;"⟩
abbrev cX11_lessSize : ByteArray := prog_12_method_12_code
def yX11_lessSize : MethodName := ⟨RX11, "lessSize", "(LWideWholesModel$Whole;LWideWholesModel$Whole;Z)LWideWholesModel$Whole;"⟩
abbrev cX11_times : ByteArray := prog_12_method_13_code
def yX11_times : MethodName := ⟨RX11, "times", "(LWideWholesModel$Whole;LWideWholesModel$Whole;)LWideWholesModel$Whole;"⟩
abbrev cX11_moved : ByteArray := prog_12_method_14_code
def yX11_moved : MethodName := ⟨RX11, "moved", "(LWideWholesModel$Whole;I)LWideWholesModel$Whole;"⟩
abbrev cX11_divide : ByteArray := prog_12_method_15_code
def yX11_divide : MethodName := ⟨RX11, "divide", "(LWideWholesModel$Whole;LWideWholesModel$Whole;)V"⟩
abbrev cX11_divideLong : ByteArray := prog_12_method_16_code
def yX11_divideLong : MethodName := ⟨RX11, "divideLong", "(LWideWholesModel$Whole;LWideWholesModel$Whole;)V"⟩
abbrev cX11_over : ByteArray := prog_12_method_17_code
def yX11_over : MethodName := ⟨RX11, "over", "(ILWideWholesModel$Whole;LWideWholesModel$Whole;)V"⟩
abbrev cX11_gcd : ByteArray := prog_12_method_18_code
def yX11_gcd : MethodName := ⟨RX11, "gcd", "(LWideWholesModel$Whole;LWideWholesModel$Whole;)LWideWholesModel$Whole;"⟩
abbrev cX11_fits : ByteArray := prog_12_method_19_code
def yX11_fits : MethodName := ⟨RX11, "fits", "(LWideWholesModel$Whole;)Z"⟩
abbrev cX11_init : ByteArray := prog_12_method_20_code
def yX11_init : MethodName := ⟨RX11, "<init>", "()V"⟩
abbrev cX11_isSlot : ByteArray := prog_12_method_21_code
def yX11_isSlot : MethodName := ⟨RX11, "isSlot", "(I)Z"⟩
abbrev cX11_isRatio : ByteArray := prog_12_method_22_code
def yX11_isRatio : MethodName := ⟨RX11, "isRatio", "(I)Z"⟩
abbrev cX11_keep : ByteArray := prog_12_method_23_code
def yX11_keep : MethodName := ⟨RX11, "keep", "(ILWideWholesModel$Whole;)I"⟩
abbrev cX11_set : ByteArray := prog_12_method_24_code
def yX11_set : MethodName := ⟨RX11, "set", "(IJ)I"⟩
abbrev cX11_feed : ByteArray := prog_12_method_25_code
def yX11_feed : MethodName := ⟨RX11, "feed", "(JI)I"⟩
abbrev cX11_digitOf : ByteArray := prog_12_method_26_code
def yX11_digitOf : MethodName := ⟨RX11, "digitOf", "(I)I"⟩
abbrev cX11_read : ByteArray := prog_12_method_27_code
def yX11_read : MethodName := ⟨RX11, "read", "(II)I"⟩
abbrev cX11_write : ByteArray := prog_12_method_28_code
def yX11_write : MethodName := ⟨RX11, "write", "(II)I"⟩
abbrev cX11_out : ByteArray := prog_12_method_29_code
def yX11_out : MethodName := ⟨RX11, "out", "(I)I"⟩
abbrev cX11_lowest : ByteArray := prog_12_method_30_code
def yX11_lowest : MethodName := ⟨RX11, "lowest", "(LWideWholesModel$Whole;)J"⟩
abbrev cX11_low : ByteArray := prog_12_method_31_code
def yX11_low : MethodName := ⟨RX11, "low", "(I)J"⟩
abbrev cX11_isShort : ByteArray := prog_12_method_32_code
def yX11_isShort : MethodName := ⟨RX11, "isShort", "(LWideWholesModel$Whole;)Z"⟩
abbrev cX11_limbs : ByteArray := prog_12_method_33_code
def yX11_limbs : MethodName := ⟨RX11, "limbs", "(I)I"⟩
abbrev cX11_limb : ByteArray := prog_12_method_34_code
def yX11_limb : MethodName := ⟨RX11, "limb", "(II)J"⟩
abbrev cX11_compare_ : ByteArray := prog_12_method_35_code
def yX11_compare_ : MethodName := ⟨RX11, "compare", "(II)I"⟩
abbrev cX11_acted : ByteArray := prog_12_method_36_code
def yX11_acted : MethodName := ⟨RX11, "acted", "(ILWideWholesModel$Whole;LWideWholesModel$Whole;)LWideWholesModel$Whole;"⟩
abbrev cX11_act : ByteArray := prog_12_method_37_code
def yX11_act : MethodName := ⟨RX11, "act", "(IIII)I"⟩
abbrev cX11_over_ : ByteArray := prog_12_method_38_code
def yX11_over_ : MethodName := ⟨RX11, "over", "(IIIII)I"⟩
abbrev cX11_divisor : ByteArray := prog_12_method_39_code
def yX11_divisor : MethodName := ⟨RX11, "divisor", "(III)I"⟩
abbrev cX11_power : ByteArray := prog_12_method_40_code
def yX11_power : MethodName := ⟨RX11, "power", "(III)I"⟩
abbrev cX11_powered : ByteArray := prog_12_method_41_code
def yX11_powered : MethodName := ⟨RX11, "powered", "(LWideWholesModel$Whole;I)LWideWholesModel$Whole;"⟩
abbrev cX11_root : ByteArray := prog_12_method_42_code
def yX11_root : MethodName := ⟨RX11, "root", "(III)I"⟩
abbrev cX11_wrongRest : ByteArray := prog_12_method_43_code
def yX11_wrongRest : MethodName := ⟨RX11, "wrongRest", "(LWideWholesModel$Whole;)I"⟩
abbrev cX11_rest : ByteArray := prog_12_method_44_code
def yX11_rest : MethodName := ⟨RX11, "rest", "(IIII)I"⟩
abbrev cX11_inverse : ByteArray := prog_12_method_45_code
def yX11_inverse : MethodName := ⟨RX11, "inverse", "(III)I"⟩
abbrev cX11_twos : ByteArray := prog_12_method_46_code
def yX11_twos : MethodName := ⟨RX11, "twos", "(LWideWholesModel$Whole;[I)[I"⟩
abbrev cX11_fromTwos : ByteArray := prog_12_method_47_code
def yX11_fromTwos : MethodName := ⟨RX11, "fromTwos", "([I)LWideWholesModel$Whole;"⟩
abbrev cX11_bits : ByteArray := prog_12_method_48_code
def yX11_bits : MethodName := ⟨RX11, "bits", "(IIII)I"⟩
abbrev cX11_shift : ByteArray := prog_12_method_49_code
def yX11_shift : MethodName := ⟨RX11, "shift", "(III)I"⟩
abbrev cX11_bit : ByteArray := prog_12_method_50_code
def yX11_bit : MethodName := ⟨RX11, "bit", "(II)I"⟩
abbrev cX11_length : ByteArray := prog_12_method_51_code
def yX11_length : MethodName := ⟨RX11, "length", "(I)I"⟩
abbrev cX11_ones : ByteArray := prog_12_method_52_code
def yX11_ones : MethodName := ⟨RX11, "ones", "(I)I"⟩
abbrev cX11_keepRatio : ByteArray := prog_12_method_53_code
def yX11_keepRatio : MethodName := ⟨RX11, "keepRatio", "(ILWideWholesModel$Whole;LWideWholesModel$Whole;)I"⟩
abbrev cX11_ratio : ByteArray := prog_12_method_54_code
def yX11_ratio : MethodName := ⟨RX11, "ratio", "(III)I"⟩
abbrev cX11_actRatio : ByteArray := prog_12_method_55_code
def yX11_actRatio : MethodName := ⟨RX11, "actRatio", "(IIII)I"⟩
abbrev cX11_compareRatio : ByteArray := prog_12_method_56_code
def yX11_compareRatio : MethodName := ⟨RX11, "compareRatio", "(II)I"⟩
abbrev cX11_part : ByteArray := prog_12_method_57_code
def yX11_part : MethodName := ⟨RX11, "part", "(III)I"⟩
abbrev cX11_digits : ByteArray := prog_12_method_58_code
def yX11_digits : MethodName := ⟨RX11, "digits", "(II)I"⟩
abbrev cX11_told : ByteArray := prog_12_method_59_code
def yX11_told : MethodName := ⟨RX11, "told", "(II)I"⟩
abbrev cX11_digit : ByteArray := prog_12_method_60_code
def yX11_digit : MethodName := ⟨RX11, "digit", "(I)I"⟩
def RJ6 : String := "java/lang/Integer"
def TJ6 : u_T := fun k => match k with
  | _ => ("", "", "", false)
def tyJ6 : Nat → FieldType := fun k => match k with
  | _ => .int
abbrev wsJ60 : List Cond := u_ws RJ6 TJ6 0
theorem nmJ6 : ∀ a, a < 0 → ∀ b, b < 0 → a ≠ b → (TJ6 a).2.1 ≠ (TJ6 b).2.1 := by decide +kernel
theorem tyJ6_ok : ∀ k, k < 0 → parseFieldDescriptor (TJ6 k).2.2.1 = some (tyJ6 k) := by decide +kernel
abbrev cJ6_numberOfLeadingZeros_0f7a4 : ByteArray := prog_16_method_47_code
def yJ6_numberOfLeadingZeros_0f7a4 : MethodName := ⟨RJ6, "numberOfLeadingZeros", "(I)I"⟩
abbrev cJ6_bitCount_0f7a4 : ByteArray := prog_16_method_49_code
def yJ6_bitCount_0f7a4 : MethodName := ⟨RJ6, "bitCount", "(I)I"⟩
def RJ13 : String := "java/lang/Long"
def TJ13 : u_T := fun k => match k with
  | _ => ("", "", "", false)
def tyJ13 : Nat → FieldType := fun k => match k with
  | _ => .int
abbrev wsJ130 : List Cond := u_ws RJ13 TJ13 0
theorem nmJ13 : ∀ a, a < 0 → ∀ b, b < 0 → a ≠ b → (TJ13 a).2.1 ≠ (TJ13 b).2.1 := by decide +kernel
theorem tyJ13_ok : ∀ k, k < 0 → parseFieldDescriptor (TJ13 k).2.2.1 = some (tyJ13 k) := by decide +kernel
abbrev cJ13_bitCount_95d88 : ByteArray := prog_17_method_50_code
def yJ13_bitCount_95d88 : MethodName := ⟨RJ13, "bitCount", "(J)I"⟩
def RJ9 : String := "java/lang/Math"
def TJ9 : u_T := fun k => match k with
  | _ => ("", "", "", false)
def tyJ9 : Nat → FieldType := fun k => match k with
  | _ => .int
abbrev wsJ90 : List Cond := u_ws RJ9 TJ9 0
theorem nmJ9 : ∀ a, a < 0 → ∀ b, b < 0 → a ≠ b → (TJ9 a).2.1 ≠ (TJ9 b).2.1 := by decide +kernel
theorem tyJ9_ok : ∀ k, k < 0 → parseFieldDescriptor (TJ9 k).2.2.1 = some (tyJ9 k) := by decide +kernel
abbrev cJ9_max_7cf53 : ByteArray := prog_18_method_65_code
def yJ9_max_7cf53 : MethodName := ⟨RJ9, "max", "(II)I"⟩
abbrev cJ9_min_7cf53 : ByteArray := prog_18_method_69_code
def yJ9_min_7cf53 : MethodName := ⟨RJ9, "min", "(II)I"⟩
abbrev cJ9_min_f86c9 : ByteArray := prog_18_method_70_code
def yJ9_min_f86c9 : MethodName := ⟨RJ9, "min", "(JJ)J"⟩
def RJ0 : String := "java/lang/String"
def TJ0 : u_T := fun k => match k with
  | _ => ("", "", "", false)
def tyJ0 : Nat → FieldType := fun k => match k with
  | _ => .int
abbrev wsJ00 : List Cond := u_ws RJ0 TJ0 0
theorem nmJ0 : ∀ a, a < 0 → ∀ b, b < 0 → a ≠ b → (TJ0 a).2.1 ≠ (TJ0 b).2.1 := by decide +kernel
theorem tyJ0_ok : ∀ k, k < 0 → parseFieldDescriptor (TJ0 k).2.2.1 = some (tyJ0 k) := by decide +kernel
def RJ10 : String := "java/lang/System"
def TJ10 : u_T := fun k => match k with
  | _ => ("", "", "", false)
def tyJ10 : Nat → FieldType := fun k => match k with
  | _ => .int
abbrev wsJ100 : List Cond := u_ws RJ10 TJ10 0
theorem nmJ10 : ∀ a, a < 0 → ∀ b, b < 0 → a ≠ b → (TJ10 a).2.1 ≠ (TJ10 b).2.1 := by decide +kernel
theorem tyJ10_ok : ∀ k, k < 0 → parseFieldDescriptor (TJ10 k).2.2.1 = some (tyJ10 k) := by decide +kernel
def RL : String := "WideWholesLaw"
abbrev cL_out : ByteArray := method_3_code
def yL_out : MethodName := ⟨RL, "out", "(LWideWholes;I[J)I"⟩
abbrev cL_law : ByteArray := code
def yL_law : MethodName := ⟨RL, "law", "([I)Z"⟩
abbrev vwCl : List vw_C := [(RX0, TX0, 5), (RX1, TX1, 8), (RX2, TX2, 8), (RX3, TX3, 8), (RX4, TX4, 2), (RX5, TX5, 2), (RX6, TX6, 3), (RX7, TX7, 1), (RX8, TX8, 3), (RX9, TX9, 12), (RX10, TX10, 3), (RX11, TX11, 23)]
def bg : List Cond := lw_tbl.filter goodWord
theorem tm_of {w : Cond} (h : w ∈ tables_1) (hg : goodWord w = true) : w ∈ bg := List.mem_filter.mpr ⟨List.mem_append_right _ h, hg⟩
theorem tm_1 {w : Cond} (h : w ∈ tables_1_1) (hg : goodWord w = true) : w ∈ bg := tm_of (show w ∈ tables_1 from List.mem_append_left _ h) hg
theorem tm_2 {w : Cond} (h : w ∈ tables_1_2) (hg : goodWord w = true) : w ∈ bg := tm_of (show w ∈ tables_1 from List.mem_append_right _ (List.mem_append_left _ h)) hg
theorem tm_3 {w : Cond} (h : w ∈ tables_1_3) (hg : goodWord w = true) : w ∈ bg := tm_of (show w ∈ tables_1 from List.mem_append_right _ (List.mem_append_right _ (List.mem_append_left _ h))) hg
theorem tm_4 {w : Cond} (h : w ∈ tables_1_4) (hg : goodWord w = true) : w ∈ bg := tm_of (show w ∈ tables_1 from List.mem_append_right _ (List.mem_append_right _ (List.mem_append_right _ (List.mem_append_left _ h)))) hg
theorem tm_5 {w : Cond} (h : w ∈ tables_1_5) (hg : goodWord w = true) : w ∈ bg := tm_of (show w ∈ tables_1 from List.mem_append_right _ (List.mem_append_right _ (List.mem_append_right _ (List.mem_append_right _ (List.mem_append_left _ h))))) hg
theorem tm_6 {w : Cond} (h : w ∈ tables_1_6) (hg : goodWord w = true) : w ∈ bg := tm_of (show w ∈ tables_1 from List.mem_append_right _ (List.mem_append_right _ (List.mem_append_right _ (List.mem_append_right _ (List.mem_append_right _ (h)))))) hg
def wnest : Cond := (Jvm.Cond.methodLinkNest "WideWholesModel" (141 : Nat) ({ cls := "WideWholesModel$Whole", name := "<init>", desc := "()V" } : Jvm.MethodName) "WideWholesModel")
theorem wnest_in : wnest ∈ lw_tbl := List.mem_append_right _ (by decide +kernel)
theorem tw_0 : (Jvm.Cond.initialized "WideWholesLaw") ∈ bg := tm_1 (List.mem_of_getElem? (i := 0) rfl) rfl
theorem tw_1 : (Jvm.Cond.initialized "WideWholes") ∈ bg := tm_1 (List.mem_of_getElem? (i := 1) rfl) rfl
theorem tw_2 : (Jvm.Cond.initialized "WideWholes$Whole") ∈ bg := tm_1 (List.mem_of_getElem? (i := 2) rfl) rfl
theorem tw_3 : (Jvm.Cond.initialized "WideWholes$Ratio") ∈ bg := tm_1 (List.mem_of_getElem? (i := 3) rfl) rfl
theorem tw_4 : (Jvm.Cond.initialized "WideWholes$Tape") ∈ bg := tm_1 (List.mem_of_getElem? (i := 4) rfl) rfl
theorem tw_5 : (Jvm.Cond.initialized "WideWholes$Text") ∈ bg := tm_1 (List.mem_of_getElem? (i := 5) rfl) rfl
theorem tw_6 : (Jvm.Cond.initialized "WideWholes$Division") ∈ bg := tm_1 (List.mem_of_getElem? (i := 6) rfl) rfl
theorem tw_7 : (Jvm.Cond.initialized "WideWholes$Powers") ∈ bg := tm_1 (List.mem_of_getElem? (i := 7) rfl) rfl
theorem tw_8 : (Jvm.Cond.initialized "WideWholes$Fractions") ∈ bg := tm_1 (List.mem_of_getElem? (i := 8) rfl) rfl
theorem tw_9 : (Jvm.Cond.initialized "WideWholes$Expansion") ∈ bg := tm_1 (List.mem_of_getElem? (i := 9) rfl) rfl
theorem tw_10 : (Jvm.Cond.initialized "WideWholes$TwosForm") ∈ bg := tm_1 (List.mem_of_getElem? (i := 10) rfl) rfl
theorem tw_11 : (Jvm.Cond.initialized "WideWholesModel") ∈ bg := tm_1 (List.mem_of_getElem? (i := 11) rfl) rfl
theorem tw_12 : (Jvm.Cond.initialized "WideWholesModel$Whole") ∈ bg := tm_1 (List.mem_of_getElem? (i := 12) rfl) rfl
theorem tw_13 : (Jvm.Cond.initialized "java/lang/System") ∈ bg := tm_1 (List.mem_of_getElem? (i := 13) rfl) rfl
theorem tw_14 : (Jvm.Cond.initialized "java/lang/Integer") ∈ bg := tm_1 (List.mem_of_getElem? (i := 14) rfl) rfl
theorem tw_15 : (Jvm.Cond.initialized "java/lang/Math") ∈ bg := tm_1 (List.mem_of_getElem? (i := 15) rfl) rfl
theorem tw_16 : (Jvm.Cond.initialized "java/lang/Throwable") ∈ bg := tm_1 (List.mem_of_getElem? (i := 16) rfl) rfl
theorem tw_17 : (Jvm.Cond.initialized "java/lang/Exception") ∈ bg := tm_1 (List.mem_of_getElem? (i := 17) rfl) rfl
theorem tw_18 : (Jvm.Cond.initialized "java/lang/RuntimeException") ∈ bg := tm_1 (List.mem_of_getElem? (i := 18) rfl) rfl
theorem tw_19 : (Jvm.Cond.initialized "java/lang/IndexOutOfBoundsException") ∈ bg := tm_1 (List.mem_of_getElem? (i := 19) rfl) rfl
theorem tw_20 : (Jvm.Cond.initialized "java/lang/Long") ∈ bg := tm_1 (List.mem_of_getElem? (i := 20) rfl) rfl
theorem tw_21 : (Jvm.Cond.classLink "WideWholesLaw" (8 : Nat) "WideWholes") ∈ bg := tm_1 (List.mem_of_getElem? (i := 21) rfl) rfl
theorem tw_22 : (Jvm.Cond.instantiable "WideWholes" (12 : Nat)) ∈ bg := tm_1 (List.mem_of_getElem? (i := 22) rfl) rfl
theorem tw_23 : (Jvm.Cond.methodLink "WideWholesLaw" (15 : Nat) ({ cls := "WideWholes", name := "<init>", desc := "()V" } : Jvm.MethodName)) ∈ bg := tm_1 (List.mem_of_getElem? (i := 23) rfl) rfl
theorem tw_24 : (Jvm.Cond.instanceMethod ({ cls := "WideWholes", name := "<init>", desc := "()V" } : Jvm.MethodName)) ∈ bg := tm_1 (List.mem_of_getElem? (i := 24) rfl) rfl
theorem tw_25 : (Jvm.Cond.code ({ cls := "WideWholes", name := "<init>", desc := "()V" } : Jvm.MethodName) prog_1_method_1_code (3 : Nat) (Option.none : Option Jvm.ClassFile.FieldType)) ∈ bg := tm_1 (List.mem_of_getElem? (i := 25) rfl) rfl
theorem tw_26 : (Jvm.Cond.methodLink "WideWholes" (3 : Nat) ({ cls := "java/lang/Object", name := "<init>", desc := "()V" } : Jvm.MethodName)) ∈ bg := tm_1 (List.mem_of_getElem? (i := 26) rfl) rfl
theorem tw_27 : (Jvm.Cond.instanceMethod ({ cls := "java/lang/Object", name := "<init>", desc := "()V" } : Jvm.MethodName)) ∈ bg := tm_1 (List.mem_of_getElem? (i := 27) rfl) rfl
theorem tw_28 : (Jvm.Cond.code ({ cls := "java/lang/Object", name := "<init>", desc := "()V" } : Jvm.MethodName) object_method_1_code (1 : Nat) (Option.none : Option Jvm.ClassFile.FieldType)) ∈ bg := tm_1 (List.mem_of_getElem? (i := 28) rfl) rfl
theorem tw_29 : (Jvm.Cond.classLink "WideWholes" (9 : Nat) "WideWholes$Whole") ∈ bg := tm_1 (List.mem_of_getElem? (i := 29) rfl) rfl
theorem tw_31 : (Jvm.Cond.instantiable "WideWholes$Whole" (3 : Nat)) ∈ bg := tm_1 (List.mem_of_getElem? (i := 31) rfl) rfl
theorem tw_32 : (Jvm.Cond.methodLink "WideWholes" (15 : Nat) ({ cls := "WideWholes$Whole", name := "<init>", desc := "()V" } : Jvm.MethodName)) ∈ bg := tm_1 (List.mem_of_getElem? (i := 32) rfl) rfl
theorem tw_33 : (Jvm.Cond.instanceMethod ({ cls := "WideWholes$Whole", name := "<init>", desc := "()V" } : Jvm.MethodName)) ∈ bg := tm_1 (List.mem_of_getElem? (i := 33) rfl) rfl
theorem tw_34 : (Jvm.Cond.code ({ cls := "WideWholes$Whole", name := "<init>", desc := "()V" } : Jvm.MethodName) prog_10_method_1_code (1 : Nat) (Option.none : Option Jvm.ClassFile.FieldType)) ∈ bg := tm_1 (List.mem_of_getElem? (i := 34) rfl) rfl
theorem tw_35 : (Jvm.Cond.methodLink "WideWholes$Whole" (3 : Nat) ({ cls := "java/lang/Object", name := "<init>", desc := "()V" } : Jvm.MethodName)) ∈ bg := tm_1 (List.mem_of_getElem? (i := 35) rfl) rfl
theorem tw_36 : (Jvm.Cond.fieldLink "WideWholes$Whole" (9 : Nat) "WideWholes$Whole" "parts" "[J") ∈ bg := tm_1 (List.mem_of_getElem? (i := 36) rfl) rfl
theorem tw_37 : (Jvm.Cond.fieldLink "WideWholes$TwosForm" (34 : Nat) "WideWholes$Whole" "parts" "[J") ∈ bg := tm_1 (List.mem_of_getElem? (i := 37) rfl) rfl
theorem tw_38 : (Jvm.Cond.fieldLink "WideWholes$Division" (89 : Nat) "WideWholes$Whole" "parts" "[J") ∈ bg := tm_1 (List.mem_of_getElem? (i := 38) rfl) rfl
theorem tw_39 : (Jvm.Cond.fieldLink "WideWholes$Whole" (15 : Nat) "WideWholes$Whole" "size" "I") ∈ bg := tm_1 (List.mem_of_getElem? (i := 39) rfl) rfl
theorem tw_40 : (Jvm.Cond.fieldLink "WideWholes$Division" (66 : Nat) "WideWholes$Whole" "size" "I") ∈ bg := tm_1 (List.mem_of_getElem? (i := 40) rfl) rfl
theorem tw_41 : (Jvm.Cond.fieldLink "WideWholes" (143 : Nat) "WideWholes$Whole" "size" "I") ∈ bg := tm_1 (List.mem_of_getElem? (i := 41) rfl) rfl
theorem tw_42 : (Jvm.Cond.fieldLink "WideWholes$Whole" (19 : Nat) "WideWholes$Whole" "below" "Z") ∈ bg := tm_1 (List.mem_of_getElem? (i := 42) rfl) rfl
theorem tw_43 : (Jvm.Cond.fieldLink "WideWholes$Division" (39 : Nat) "WideWholes$Whole" "below" "Z") ∈ bg := tm_1 (List.mem_of_getElem? (i := 43) rfl) rfl
theorem tw_44 : (Jvm.Cond.fieldLink "WideWholes$TwosForm" (21 : Nat) "WideWholes$Whole" "below" "Z") ∈ bg := tm_1 (List.mem_of_getElem? (i := 44) rfl) rfl
theorem tw_45 : (Jvm.Cond.fieldLink "WideWholes$Text" (46 : Nat) "WideWholes$Whole" "below" "Z") ∈ bg := tm_1 (List.mem_of_getElem? (i := 45) rfl) rfl
theorem tw_46 : (Jvm.Cond.fieldLink "WideWholes$Fractions" (79 : Nat) "WideWholes$Whole" "below" "Z") ∈ bg := tm_1 (List.mem_of_getElem? (i := 46) rfl) rfl
theorem tw_47 : (Jvm.Cond.fieldLink "WideWholes" (196 : Nat) "WideWholes$Whole" "below" "Z") ∈ bg := tm_1 (List.mem_of_getElem? (i := 47) rfl) rfl
theorem tw_48 : (Jvm.Cond.laysFinal "WideWholes$Whole" "WideWholes$Whole" "parts" "[J") ∈ bg := tm_1 (List.mem_of_getElem? (i := 48) rfl) rfl
theorem tw_50 : (Jvm.Cond.lays "WideWholes$Whole" "WideWholes$Whole" "size" "I") ∈ bg := tm_1 (List.mem_of_getElem? (i := 50) rfl) rfl
theorem tw_52 : (Jvm.Cond.lays "WideWholes$Whole" "WideWholes$Whole" "below" "Z") ∈ bg := tm_1 (List.mem_of_getElem? (i := 52) rfl) rfl
theorem tw_55 : (Jvm.Cond.arrayClass Jvm.ClassFile.FieldType.long) ∈ bg := tm_1 (List.mem_of_getElem? (i := 55) rfl) rfl
theorem tw_56 : (Jvm.Cond.classLink "WideWholes" (16 : Nat) "WideWholes$Ratio") ∈ bg := tm_1 (List.mem_of_getElem? (i := 56) rfl) rfl
theorem tw_58 : (Jvm.Cond.instantiable "WideWholes$Ratio" (2 : Nat)) ∈ bg := tm_1 (List.mem_of_getElem? (i := 58) rfl) rfl
theorem tw_59 : (Jvm.Cond.methodLink "WideWholes" (22 : Nat) ({ cls := "WideWholes$Ratio", name := "<init>", desc := "()V" } : Jvm.MethodName)) ∈ bg := tm_1 (List.mem_of_getElem? (i := 59) rfl) rfl
theorem tw_60 : (Jvm.Cond.instanceMethod ({ cls := "WideWholes$Ratio", name := "<init>", desc := "()V" } : Jvm.MethodName)) ∈ bg := tm_1 (List.mem_of_getElem? (i := 60) rfl) rfl
theorem tw_61 : (Jvm.Cond.code ({ cls := "WideWholes$Ratio", name := "<init>", desc := "()V" } : Jvm.MethodName) prog_6_method_1_code (1 : Nat) (Option.none : Option Jvm.ClassFile.FieldType)) ∈ bg := tm_1 (List.mem_of_getElem? (i := 61) rfl) rfl
theorem tw_62 : (Jvm.Cond.methodLink "WideWholes$Ratio" (1 : Nat) ({ cls := "java/lang/Object", name := "<init>", desc := "()V" } : Jvm.MethodName)) ∈ bg := tm_1 (List.mem_of_getElem? (i := 62) rfl) rfl
theorem tw_63 : (Jvm.Cond.classLink "WideWholes$Ratio" (7 : Nat) "WideWholes$Whole") ∈ bg := tm_1 (List.mem_of_getElem? (i := 63) rfl) rfl
theorem tw_64 : (Jvm.Cond.methodLink "WideWholes$Ratio" (9 : Nat) ({ cls := "WideWholes$Whole", name := "<init>", desc := "()V" } : Jvm.MethodName)) ∈ bg := tm_1 (List.mem_of_getElem? (i := 64) rfl) rfl
theorem tw_65 : (Jvm.Cond.methodLink "WideWholes$Ratio" (19 : Nat) ({ cls := "WideWholes$Whole", name := "become", desc := "(J)V" } : Jvm.MethodName)) ∈ bg := tm_1 (List.mem_of_getElem? (i := 65) rfl) rfl
theorem tw_66 : (Jvm.Cond.instanceMethod ({ cls := "WideWholes$Whole", name := "become", desc := "(J)V" } : Jvm.MethodName)) ∈ bg := tm_1 (List.mem_of_getElem? (i := 66) rfl) rfl
theorem tw_67 : (Jvm.Cond.selects "WideWholes$Whole" ({ cls := "WideWholes$Whole", name := "become", desc := "(J)V" } : Jvm.MethodName) ({ cls := "WideWholes$Whole", name := "become", desc := "(J)V" } : Jvm.MethodName)) ∈ bg := tm_1 (List.mem_of_getElem? (i := 67) rfl) rfl
theorem tw_68 : (Jvm.Cond.code ({ cls := "WideWholes$Whole", name := "become", desc := "(J)V" } : Jvm.MethodName) prog_10_method_2_code (5 : Nat) (Option.none : Option Jvm.ClassFile.FieldType)) ∈ bg := tm_1 (List.mem_of_getElem? (i := 68) rfl) rfl
theorem tw_69 : (Jvm.Cond.constantLong "WideWholes$Whole" (23 : Nat) (4294967295 : Int64)) ∈ bg := tm_1 (List.mem_of_getElem? (i := 69) rfl) rfl
theorem tw_70 : (Jvm.Cond.methodLink "WideWholes$Whole" (25 : Nat) ({ cls := "WideWholes$Whole", name := "trim", desc := "(I)V" } : Jvm.MethodName)) ∈ bg := tm_1 (List.mem_of_getElem? (i := 70) rfl) rfl
theorem tw_71 : (Jvm.Cond.instanceMethod ({ cls := "WideWholes$Whole", name := "trim", desc := "(I)V" } : Jvm.MethodName)) ∈ bg := tm_1 (List.mem_of_getElem? (i := 71) rfl) rfl
theorem tw_72 : (Jvm.Cond.selects "WideWholes$Whole" ({ cls := "WideWholes$Whole", name := "trim", desc := "(I)V" } : Jvm.MethodName) ({ cls := "WideWholes$Whole", name := "trim", desc := "(I)V" } : Jvm.MethodName)) ∈ bg := tm_1 (List.mem_of_getElem? (i := 72) rfl) rfl
theorem tw_73 : (Jvm.Cond.code ({ cls := "WideWholes$Whole", name := "trim", desc := "(I)V" } : Jvm.MethodName) prog_10_method_4_code (2 : Nat) (Option.none : Option Jvm.ClassFile.FieldType)) ∈ bg := tm_1 (List.mem_of_getElem? (i := 73) rfl) rfl
theorem tw_74 : (Jvm.Cond.methodLink "WideWholes$Whole" (29 : Nat) ({ cls := "WideWholes$Whole", name := "takeSign", desc := "(Z)V" } : Jvm.MethodName)) ∈ bg := tm_1 (List.mem_of_getElem? (i := 74) rfl) rfl
theorem tw_75 : (Jvm.Cond.instanceMethod ({ cls := "WideWholes$Whole", name := "takeSign", desc := "(Z)V" } : Jvm.MethodName)) ∈ bg := tm_1 (List.mem_of_getElem? (i := 75) rfl) rfl
theorem tw_76 : (Jvm.Cond.selects "WideWholes$Whole" ({ cls := "WideWholes$Whole", name := "takeSign", desc := "(Z)V" } : Jvm.MethodName) ({ cls := "WideWholes$Whole", name := "takeSign", desc := "(Z)V" } : Jvm.MethodName)) ∈ bg := tm_1 (List.mem_of_getElem? (i := 76) rfl) rfl
theorem tw_77 : (Jvm.Cond.code ({ cls := "WideWholes$Whole", name := "takeSign", desc := "(Z)V" } : Jvm.MethodName) prog_10_method_5_code (2 : Nat) (Option.none : Option Jvm.ClassFile.FieldType)) ∈ bg := tm_1 (List.mem_of_getElem? (i := 77) rfl) rfl
theorem tw_78 : (Jvm.Cond.fieldLink "WideWholes$Ratio" (10 : Nat) "WideWholes$Ratio" "top" "LWideWholes$Whole;") ∈ bg := tm_1 (List.mem_of_getElem? (i := 78) rfl) rfl
theorem tw_79 : (Jvm.Cond.fieldLink "WideWholes$Expansion" (51 : Nat) "WideWholes$Ratio" "top" "LWideWholes$Whole;") ∈ bg := tm_1 (List.mem_of_getElem? (i := 79) rfl) rfl
theorem tw_80 : (Jvm.Cond.fieldLink "WideWholes$Fractions" (54 : Nat) "WideWholes$Ratio" "top" "LWideWholes$Whole;") ∈ bg := tm_1 (List.mem_of_getElem? (i := 80) rfl) rfl
theorem tw_81 : (Jvm.Cond.fieldLink "WideWholes" (253 : Nat) "WideWholes$Ratio" "top" "LWideWholes$Whole;") ∈ bg := tm_1 (List.mem_of_getElem? (i := 81) rfl) rfl
theorem tw_82 : (Jvm.Cond.fieldLink "WideWholes$Ratio" (16 : Nat) "WideWholes$Ratio" "bottom" "LWideWholes$Whole;") ∈ bg := tm_1 (List.mem_of_getElem? (i := 82) rfl) rfl
theorem tw_83 : (Jvm.Cond.fieldLink "WideWholes$Expansion" (42 : Nat) "WideWholes$Ratio" "bottom" "LWideWholes$Whole;") ∈ bg := tm_1 (List.mem_of_getElem? (i := 83) rfl) rfl
theorem tw_84 : (Jvm.Cond.fieldLink "WideWholes$Fractions" (51 : Nat) "WideWholes$Ratio" "bottom" "LWideWholes$Whole;") ∈ bg := tm_1 (List.mem_of_getElem? (i := 84) rfl) rfl
theorem tw_85 : (Jvm.Cond.fieldLink "WideWholes" (260 : Nat) "WideWholes$Ratio" "bottom" "LWideWholes$Whole;") ∈ bg := tm_1 (List.mem_of_getElem? (i := 85) rfl) rfl
theorem tw_86 : (Jvm.Cond.laysFinal "WideWholes$Ratio" "WideWholes$Ratio" "top" "LWideWholes$Whole;") ∈ bg := tm_1 (List.mem_of_getElem? (i := 86) rfl) rfl
theorem tw_88 : (Jvm.Cond.laysFinal "WideWholes$Ratio" "WideWholes$Ratio" "bottom" "LWideWholes$Whole;") ∈ bg := tm_1 (List.mem_of_getElem? (i := 88) rfl) rfl
theorem tw_91 : (Jvm.Cond.classLink "WideWholes" (23 : Nat) "WideWholes$Tape") ∈ bg := tm_1 (List.mem_of_getElem? (i := 91) rfl) rfl
theorem tw_92 : (Jvm.Cond.instantiable "WideWholes$Tape" (2 : Nat)) ∈ bg := tm_1 (List.mem_of_getElem? (i := 92) rfl) rfl
theorem tw_93 : (Jvm.Cond.methodLink "WideWholes" (25 : Nat) ({ cls := "WideWholes$Tape", name := "<init>", desc := "()V" } : Jvm.MethodName)) ∈ bg := tm_1 (List.mem_of_getElem? (i := 93) rfl) rfl
theorem tw_94 : (Jvm.Cond.instanceMethod ({ cls := "WideWholes$Tape", name := "<init>", desc := "()V" } : Jvm.MethodName)) ∈ bg := tm_1 (List.mem_of_getElem? (i := 94) rfl) rfl
theorem tw_95 : (Jvm.Cond.code ({ cls := "WideWholes$Tape", name := "<init>", desc := "()V" } : Jvm.MethodName) prog_7_method_1_code (1 : Nat) (Option.none : Option Jvm.ClassFile.FieldType)) ∈ bg := tm_1 (List.mem_of_getElem? (i := 95) rfl) rfl
theorem tw_96 : (Jvm.Cond.methodLink "WideWholes$Tape" (3 : Nat) ({ cls := "java/lang/Object", name := "<init>", desc := "()V" } : Jvm.MethodName)) ∈ bg := tm_1 (List.mem_of_getElem? (i := 96) rfl) rfl
theorem tw_97 : (Jvm.Cond.fieldLink "WideWholes$Tape" (9 : Nat) "WideWholes$Tape" "count" "I") ∈ bg := tm_1 (List.mem_of_getElem? (i := 97) rfl) rfl
theorem tw_98 : (Jvm.Cond.fieldLink "WideWholes" (98 : Nat) "WideWholes$Tape" "count" "I") ∈ bg := tm_1 (List.mem_of_getElem? (i := 98) rfl) rfl
theorem tw_99 : (Jvm.Cond.fieldLink "WideWholes$Tape" (15 : Nat) "WideWholes$Tape" "bytes" "[I") ∈ bg := tm_1 (List.mem_of_getElem? (i := 99) rfl) rfl
theorem tw_100 : (Jvm.Cond.lays "WideWholes$Tape" "WideWholes$Tape" "count" "I") ∈ bg := tm_1 (List.mem_of_getElem? (i := 100) rfl) rfl
theorem tw_102 : (Jvm.Cond.laysFinal "WideWholes$Tape" "WideWholes$Tape" "bytes" "[I") ∈ bg := tm_1 (List.mem_of_getElem? (i := 102) rfl) rfl
theorem tw_105 : (Jvm.Cond.arrayClass Jvm.ClassFile.FieldType.int) ∈ bg := tm_1 (List.mem_of_getElem? (i := 105) rfl) rfl
theorem tw_106 : (Jvm.Cond.classLink "WideWholes" (30 : Nat) "WideWholes$Text") ∈ bg := tm_1 (List.mem_of_getElem? (i := 106) rfl) rfl
theorem tw_107 : (Jvm.Cond.instantiable "WideWholes$Text" (3 : Nat)) ∈ bg := tm_1 (List.mem_of_getElem? (i := 107) rfl) rfl
theorem tw_108 : (Jvm.Cond.methodLink "WideWholes" (32 : Nat) ({ cls := "WideWholes$Text", name := "<init>", desc := "()V" } : Jvm.MethodName)) ∈ bg := tm_1 (List.mem_of_getElem? (i := 108) rfl) rfl
theorem tw_109 : (Jvm.Cond.instanceMethod ({ cls := "WideWholes$Text", name := "<init>", desc := "()V" } : Jvm.MethodName)) ∈ bg := tm_1 (List.mem_of_getElem? (i := 109) rfl) rfl
theorem tw_110 : (Jvm.Cond.code ({ cls := "WideWholes$Text", name := "<init>", desc := "()V" } : Jvm.MethodName) prog_8_method_1_code (1 : Nat) (Option.none : Option Jvm.ClassFile.FieldType)) ∈ bg := tm_1 (List.mem_of_getElem? (i := 110) rfl) rfl
theorem tw_111 : (Jvm.Cond.methodLink "WideWholes$Text" (3 : Nat) ({ cls := "java/lang/Object", name := "<init>", desc := "()V" } : Jvm.MethodName)) ∈ bg := tm_1 (List.mem_of_getElem? (i := 111) rfl) rfl
theorem tw_112 : (Jvm.Cond.classLink "WideWholes$Text" (19 : Nat) "WideWholes$Whole") ∈ bg := tm_1 (List.mem_of_getElem? (i := 112) rfl) rfl
theorem tw_113 : (Jvm.Cond.methodLink "WideWholes$Text" (21 : Nat) ({ cls := "WideWholes$Whole", name := "<init>", desc := "()V" } : Jvm.MethodName)) ∈ bg := tm_1 (List.mem_of_getElem? (i := 113) rfl) rfl
theorem tw_114 : (Jvm.Cond.fieldLink "WideWholes$Text" (9 : Nat) "WideWholes$Text" "count" "I") ∈ bg := tm_1 (List.mem_of_getElem? (i := 114) rfl) rfl
theorem tw_115 : (Jvm.Cond.fieldLink "WideWholes" (123 : Nat) "WideWholes$Text" "count" "I") ∈ bg := tm_1 (List.mem_of_getElem? (i := 115) rfl) rfl
theorem tw_116 : (Jvm.Cond.fieldLink "WideWholes$Text" (15 : Nat) "WideWholes$Text" "bytes" "[I") ∈ bg := tm_1 (List.mem_of_getElem? (i := 116) rfl) rfl
theorem tw_117 : (Jvm.Cond.fieldLink "WideWholes" (131 : Nat) "WideWholes$Text" "bytes" "[I") ∈ bg := tm_1 (List.mem_of_getElem? (i := 117) rfl) rfl
theorem tw_118 : (Jvm.Cond.fieldLink "WideWholes$Text" (22 : Nat) "WideWholes$Text" "left" "LWideWholes$Whole;") ∈ bg := tm_1 (List.mem_of_getElem? (i := 118) rfl) rfl
theorem tw_119 : (Jvm.Cond.lays "WideWholes$Text" "WideWholes$Text" "count" "I") ∈ bg := tm_1 (List.mem_of_getElem? (i := 119) rfl) rfl
theorem tw_121 : (Jvm.Cond.laysFinal "WideWholes$Text" "WideWholes$Text" "bytes" "[I") ∈ bg := tm_1 (List.mem_of_getElem? (i := 121) rfl) rfl
theorem tw_123 : (Jvm.Cond.laysFinal "WideWholes$Text" "WideWholes$Text" "left" "LWideWholes$Whole;") ∈ bg := tm_1 (List.mem_of_getElem? (i := 123) rfl) rfl
theorem tw_126 : (Jvm.Cond.classLink "WideWholes" (37 : Nat) "WideWholes$Division") ∈ bg := tm_1 (List.mem_of_getElem? (i := 126) rfl) rfl
theorem tw_127 : (Jvm.Cond.instantiable "WideWholes$Division" (5 : Nat)) ∈ bg := tm_1 (List.mem_of_getElem? (i := 127) rfl) rfl
theorem tw_128 : (Jvm.Cond.methodLink "WideWholes" (39 : Nat) ({ cls := "WideWholes$Division", name := "<init>", desc := "()V" } : Jvm.MethodName)) ∈ bg := tm_1 (List.mem_of_getElem? (i := 128) rfl) rfl
theorem tw_129 : (Jvm.Cond.instanceMethod ({ cls := "WideWholes$Division", name := "<init>", desc := "()V" } : Jvm.MethodName)) ∈ bg := tm_1 (List.mem_of_getElem? (i := 129) rfl) rfl
theorem tw_130 : (Jvm.Cond.code ({ cls := "WideWholes$Division", name := "<init>", desc := "()V" } : Jvm.MethodName) prog_2_method_1_code (1 : Nat) (Option.none : Option Jvm.ClassFile.FieldType)) ∈ bg := tm_1 (List.mem_of_getElem? (i := 130) rfl) rfl
theorem tw_131 : (Jvm.Cond.methodLink "WideWholes$Division" (3 : Nat) ({ cls := "java/lang/Object", name := "<init>", desc := "()V" } : Jvm.MethodName)) ∈ bg := tm_1 (List.mem_of_getElem? (i := 131) rfl) rfl
theorem tw_132 : (Jvm.Cond.classLink "WideWholes$Division" (9 : Nat) "WideWholes$Whole") ∈ bg := tm_1 (List.mem_of_getElem? (i := 132) rfl) rfl
theorem tw_133 : (Jvm.Cond.methodLink "WideWholes$Division" (11 : Nat) ({ cls := "WideWholes$Whole", name := "<init>", desc := "()V" } : Jvm.MethodName)) ∈ bg := tm_1 (List.mem_of_getElem? (i := 133) rfl) rfl
theorem tw_134 : (Jvm.Cond.methodLink "WideWholes$Division" (24 : Nat) ({ cls := "WideWholes$Whole", name := "become", desc := "(J)V" } : Jvm.MethodName)) ∈ bg := tm_1 (List.mem_of_getElem? (i := 134) rfl) rfl
theorem tw_135 : (Jvm.Cond.fieldLink "WideWholes$Division" (12 : Nat) "WideWholes$Division" "quotient" "LWideWholes$Whole;") ∈ bg := tm_1 (List.mem_of_getElem? (i := 135) rfl) rfl
theorem tw_136 : (Jvm.Cond.fieldLink "WideWholes$Expansion" (95 : Nat) "WideWholes$Division" "quotient" "LWideWholes$Whole;") ∈ bg := tm_1 (List.mem_of_getElem? (i := 136) rfl) rfl
theorem tw_137 : (Jvm.Cond.fieldLink "WideWholes$Fractions" (72 : Nat) "WideWholes$Division" "quotient" "LWideWholes$Whole;") ∈ bg := tm_1 (List.mem_of_getElem? (i := 137) rfl) rfl
theorem tw_138 : (Jvm.Cond.fieldLink "WideWholes$Powers" (102 : Nat) "WideWholes$Division" "quotient" "LWideWholes$Whole;") ∈ bg := tm_1 (List.mem_of_getElem? (i := 138) rfl) rfl
theorem tw_139 : (Jvm.Cond.fieldLink "WideWholes" (175 : Nat) "WideWholes$Division" "quotient" "LWideWholes$Whole;") ∈ bg := tm_1 (List.mem_of_getElem? (i := 139) rfl) rfl
theorem tw_140 : (Jvm.Cond.fieldLink "WideWholes$Division" (18 : Nat) "WideWholes$Division" "left" "LWideWholes$Whole;") ∈ bg := tm_1 (List.mem_of_getElem? (i := 140) rfl) rfl
theorem tw_141 : (Jvm.Cond.fieldLink "WideWholes$Expansion" (60 : Nat) "WideWholes$Division" "left" "LWideWholes$Whole;") ∈ bg := tm_1 (List.mem_of_getElem? (i := 141) rfl) rfl
theorem tw_142 : (Jvm.Cond.fieldLink "WideWholes$Powers" (88 : Nat) "WideWholes$Division" "left" "LWideWholes$Whole;") ∈ bg := tm_1 (List.mem_of_getElem? (i := 142) rfl) rfl
theorem tw_143 : (Jvm.Cond.fieldLink "WideWholes$Fractions" (67 : Nat) "WideWholes$Division" "left" "LWideWholes$Whole;") ∈ bg := tm_1 (List.mem_of_getElem? (i := 143) rfl) rfl
theorem tw_144 : (Jvm.Cond.fieldLink "WideWholes" (181 : Nat) "WideWholes$Division" "left" "LWideWholes$Whole;") ∈ bg := tm_1 (List.mem_of_getElem? (i := 144) rfl) rfl
theorem tw_145 : (Jvm.Cond.fieldLink "WideWholes$Division" (21 : Nat) "WideWholes$Division" "one" "LWideWholes$Whole;") ∈ bg := tm_1 (List.mem_of_getElem? (i := 145) rfl) rfl
theorem tw_146 : (Jvm.Cond.fieldLink "WideWholes$Division" (28 : Nat) "WideWholes$Division" "dividend" "[J") ∈ bg := tm_1 (List.mem_of_getElem? (i := 146) rfl) rfl
theorem tw_147 : (Jvm.Cond.fieldLink "WideWholes$Division" (32 : Nat) "WideWholes$Division" "divisor" "[J") ∈ bg := tm_1 (List.mem_of_getElem? (i := 147) rfl) rfl
theorem tw_148 : (Jvm.Cond.laysFinal "WideWholes$Division" "WideWholes$Division" "quotient" "LWideWholes$Whole;") ∈ bg := tm_1 (List.mem_of_getElem? (i := 148) rfl) rfl
theorem tw_150 : (Jvm.Cond.laysFinal "WideWholes$Division" "WideWholes$Division" "left" "LWideWholes$Whole;") ∈ bg := tm_1 (List.mem_of_getElem? (i := 150) rfl) rfl
theorem tw_152 : (Jvm.Cond.laysFinal "WideWholes$Division" "WideWholes$Division" "one" "LWideWholes$Whole;") ∈ bg := tm_1 (List.mem_of_getElem? (i := 152) rfl) rfl
theorem tw_154 : (Jvm.Cond.laysFinal "WideWholes$Division" "WideWholes$Division" "dividend" "[J") ∈ bg := tm_1 (List.mem_of_getElem? (i := 154) rfl) rfl
theorem tw_156 : (Jvm.Cond.laysFinal "WideWholes$Division" "WideWholes$Division" "divisor" "[J") ∈ bg := tm_1 (List.mem_of_getElem? (i := 156) rfl) rfl
theorem tw_159 : (Jvm.Cond.classLink "WideWholes" (40 : Nat) "WideWholes$Powers") ∈ bg := tm_1 (List.mem_of_getElem? (i := 159) rfl) rfl
theorem tw_160 : (Jvm.Cond.instantiable "WideWholes$Powers" (8 : Nat)) ∈ bg := tm_1 (List.mem_of_getElem? (i := 160) rfl) rfl
theorem tw_161 : (Jvm.Cond.methodLink "WideWholes" (42 : Nat) ({ cls := "WideWholes$Powers", name := "<init>", desc := "(LWideWholes$Division;)V" } : Jvm.MethodName)) ∈ bg := tm_1 (List.mem_of_getElem? (i := 161) rfl) rfl
theorem tw_162 : (Jvm.Cond.instanceMethod ({ cls := "WideWholes$Powers", name := "<init>", desc := "(LWideWholes$Division;)V" } : Jvm.MethodName)) ∈ bg := tm_1 (List.mem_of_getElem? (i := 162) rfl) rfl
theorem tw_163 : (Jvm.Cond.code ({ cls := "WideWholes$Powers", name := "<init>", desc := "(LWideWholes$Division;)V" } : Jvm.MethodName) prog_5_method_1_code (2 : Nat) (Option.none : Option Jvm.ClassFile.FieldType)) ∈ bg := tm_1 (List.mem_of_getElem? (i := 163) rfl) rfl
theorem tw_164 : (Jvm.Cond.methodLink "WideWholes$Powers" (3 : Nat) ({ cls := "java/lang/Object", name := "<init>", desc := "()V" } : Jvm.MethodName)) ∈ bg := tm_1 (List.mem_of_getElem? (i := 164) rfl) rfl
theorem tw_165 : (Jvm.Cond.classLink "WideWholes$Powers" (15 : Nat) "WideWholes$Whole") ∈ bg := tm_1 (List.mem_of_getElem? (i := 165) rfl) rfl
theorem tw_166 : (Jvm.Cond.methodLink "WideWholes$Powers" (17 : Nat) ({ cls := "WideWholes$Whole", name := "<init>", desc := "()V" } : Jvm.MethodName)) ∈ bg := tm_1 (List.mem_of_getElem? (i := 166) rfl) rfl
theorem tw_167 : (Jvm.Cond.fieldLink "WideWholes$Powers" (18 : Nat) "WideWholes$Powers" "result" "LWideWholes$Whole;") ∈ bg := tm_1 (List.mem_of_getElem? (i := 167) rfl) rfl
theorem tw_168 : (Jvm.Cond.fieldLink "WideWholes" (195 : Nat) "WideWholes$Powers" "result" "LWideWholes$Whole;") ∈ bg := tm_1 (List.mem_of_getElem? (i := 168) rfl) rfl
theorem tw_169 : (Jvm.Cond.fieldLink "WideWholes$Powers" (9 : Nat) "WideWholes$Powers" "division" "LWideWholes$Division;") ∈ bg := tm_1 (List.mem_of_getElem? (i := 169) rfl) rfl
theorem tw_170 : (Jvm.Cond.fieldLink "WideWholes$Powers" (22 : Nat) "WideWholes$Powers" "product" "LWideWholes$Whole;") ∈ bg := tm_1 (List.mem_of_getElem? (i := 170) rfl) rfl
theorem tw_171 : (Jvm.Cond.fieldLink "WideWholes$Powers" (25 : Nat) "WideWholes$Powers" "base" "LWideWholes$Whole;") ∈ bg := tm_1 (List.mem_of_getElem? (i := 171) rfl) rfl
theorem tw_172 : (Jvm.Cond.fieldLink "WideWholes$Powers" (28 : Nat) "WideWholes$Powers" "first" "LWideWholes$Whole;") ∈ bg := tm_1 (List.mem_of_getElem? (i := 172) rfl) rfl
theorem tw_173 : (Jvm.Cond.fieldLink "WideWholes$Powers" (31 : Nat) "WideWholes$Powers" "second" "LWideWholes$Whole;") ∈ bg := tm_1 (List.mem_of_getElem? (i := 173) rfl) rfl
theorem tw_174 : (Jvm.Cond.fieldLink "WideWholes$Powers" (34 : Nat) "WideWholes$Powers" "firstShare" "LWideWholes$Whole;") ∈ bg := tm_1 (List.mem_of_getElem? (i := 174) rfl) rfl
theorem tw_175 : (Jvm.Cond.fieldLink "WideWholes$Powers" (37 : Nat) "WideWholes$Powers" "secondShare" "LWideWholes$Whole;") ∈ bg := tm_1 (List.mem_of_getElem? (i := 175) rfl) rfl
theorem tw_176 : (Jvm.Cond.laysFinal "WideWholes$Powers" "WideWholes$Powers" "result" "LWideWholes$Whole;") ∈ bg := tm_1 (List.mem_of_getElem? (i := 176) rfl) rfl
theorem tw_178 : (Jvm.Cond.laysFinal "WideWholes$Powers" "WideWholes$Powers" "division" "LWideWholes$Division;") ∈ bg := tm_1 (List.mem_of_getElem? (i := 178) rfl) rfl
theorem tw_180 : (Jvm.Cond.laysFinal "WideWholes$Powers" "WideWholes$Powers" "product" "LWideWholes$Whole;") ∈ bg := tm_1 (List.mem_of_getElem? (i := 180) rfl) rfl
theorem tw_182 : (Jvm.Cond.laysFinal "WideWholes$Powers" "WideWholes$Powers" "base" "LWideWholes$Whole;") ∈ bg := tm_1 (List.mem_of_getElem? (i := 182) rfl) rfl
theorem tw_184 : (Jvm.Cond.laysFinal "WideWholes$Powers" "WideWholes$Powers" "first" "LWideWholes$Whole;") ∈ bg := tm_1 (List.mem_of_getElem? (i := 184) rfl) rfl
theorem tw_186 : (Jvm.Cond.laysFinal "WideWholes$Powers" "WideWholes$Powers" "second" "LWideWholes$Whole;") ∈ bg := tm_1 (List.mem_of_getElem? (i := 186) rfl) rfl
theorem tw_188 : (Jvm.Cond.laysFinal "WideWholes$Powers" "WideWholes$Powers" "firstShare" "LWideWholes$Whole;") ∈ bg := tm_1 (List.mem_of_getElem? (i := 188) rfl) rfl
theorem tw_190 : (Jvm.Cond.laysFinal "WideWholes$Powers" "WideWholes$Powers" "secondShare" "LWideWholes$Whole;") ∈ bg := tm_1 (List.mem_of_getElem? (i := 190) rfl) rfl
theorem tw_193 : (Jvm.Cond.classLink "WideWholes" (53 : Nat) "WideWholes$Fractions") ∈ bg := tm_1 (List.mem_of_getElem? (i := 193) rfl) rfl
theorem tw_194 : (Jvm.Cond.instantiable "WideWholes$Fractions" (8 : Nat)) ∈ bg := tm_1 (List.mem_of_getElem? (i := 194) rfl) rfl
theorem tw_195 : (Jvm.Cond.methodLink "WideWholes" (55 : Nat) ({ cls := "WideWholes$Fractions", name := "<init>", desc := "(LWideWholes$Division;LWideWholes$Powers;)V" } : Jvm.MethodName)) ∈ bg := tm_1 (List.mem_of_getElem? (i := 195) rfl) rfl
theorem tw_196 : (Jvm.Cond.instanceMethod ({ cls := "WideWholes$Fractions", name := "<init>", desc := "(LWideWholes$Division;LWideWholes$Powers;)V" } : Jvm.MethodName)) ∈ bg := tm_1 (List.mem_of_getElem? (i := 196) rfl) rfl
theorem tw_197 : (Jvm.Cond.code ({ cls := "WideWholes$Fractions", name := "<init>", desc := "(LWideWholes$Division;LWideWholes$Powers;)V" } : Jvm.MethodName) prog_4_method_1_code (3 : Nat) (Option.none : Option Jvm.ClassFile.FieldType)) ∈ bg := tm_1 (List.mem_of_getElem? (i := 197) rfl) rfl
theorem tw_198 : (Jvm.Cond.methodLink "WideWholes$Fractions" (1 : Nat) ({ cls := "java/lang/Object", name := "<init>", desc := "()V" } : Jvm.MethodName)) ∈ bg := tm_1 (List.mem_of_getElem? (i := 198) rfl) rfl
theorem tw_199 : (Jvm.Cond.classLink "WideWholes$Fractions" (17 : Nat) "WideWholes$Whole") ∈ bg := tm_1 (List.mem_of_getElem? (i := 199) rfl) rfl
theorem tw_200 : (Jvm.Cond.methodLink "WideWholes$Fractions" (19 : Nat) ({ cls := "WideWholes$Whole", name := "<init>", desc := "()V" } : Jvm.MethodName)) ∈ bg := tm_1 (List.mem_of_getElem? (i := 200) rfl) rfl
theorem tw_201 : (Jvm.Cond.fieldLink "WideWholes$Fractions" (20 : Nat) "WideWholes$Fractions" "top" "LWideWholes$Whole;") ∈ bg := tm_1 (List.mem_of_getElem? (i := 201) rfl) rfl
theorem tw_202 : (Jvm.Cond.fieldLink "WideWholes" (286 : Nat) "WideWholes$Fractions" "top" "LWideWholes$Whole;") ∈ bg := tm_1 (List.mem_of_getElem? (i := 202) rfl) rfl
theorem tw_203 : (Jvm.Cond.fieldLink "WideWholes$Fractions" (24 : Nat) "WideWholes$Fractions" "bottom" "LWideWholes$Whole;") ∈ bg := tm_1 (List.mem_of_getElem? (i := 203) rfl) rfl
theorem tw_204 : (Jvm.Cond.fieldLink "WideWholes" (287 : Nat) "WideWholes$Fractions" "bottom" "LWideWholes$Whole;") ∈ bg := tm_1 (List.mem_of_getElem? (i := 204) rfl) rfl
theorem tw_205 : (Jvm.Cond.fieldLink "WideWholes$Fractions" (7 : Nat) "WideWholes$Fractions" "division" "LWideWholes$Division;") ∈ bg := tm_1 (List.mem_of_getElem? (i := 205) rfl) rfl
theorem tw_206 : (Jvm.Cond.fieldLink "WideWholes$Fractions" (13 : Nat) "WideWholes$Fractions" "powers" "LWideWholes$Powers;") ∈ bg := tm_1 (List.mem_of_getElem? (i := 206) rfl) rfl
theorem tw_207 : (Jvm.Cond.fieldLink "WideWholes$Fractions" (27 : Nat) "WideWholes$Fractions" "common" "LWideWholes$Whole;") ∈ bg := tm_1 (List.mem_of_getElem? (i := 207) rfl) rfl
theorem tw_208 : (Jvm.Cond.fieldLink "WideWholes$Fractions" (30 : Nat) "WideWholes$Fractions" "firstCut" "LWideWholes$Whole;") ∈ bg := tm_1 (List.mem_of_getElem? (i := 208) rfl) rfl
theorem tw_209 : (Jvm.Cond.fieldLink "WideWholes$Fractions" (33 : Nat) "WideWholes$Fractions" "secondCut" "LWideWholes$Whole;") ∈ bg := tm_1 (List.mem_of_getElem? (i := 209) rfl) rfl
theorem tw_210 : (Jvm.Cond.fieldLink "WideWholes$Fractions" (36 : Nat) "WideWholes$Fractions" "product" "LWideWholes$Whole;") ∈ bg := tm_1 (List.mem_of_getElem? (i := 210) rfl) rfl
theorem tw_211 : (Jvm.Cond.laysFinal "WideWholes$Fractions" "WideWholes$Fractions" "top" "LWideWholes$Whole;") ∈ bg := tm_1 (List.mem_of_getElem? (i := 211) rfl) rfl
theorem tw_213 : (Jvm.Cond.laysFinal "WideWholes$Fractions" "WideWholes$Fractions" "bottom" "LWideWholes$Whole;") ∈ bg := tm_1 (List.mem_of_getElem? (i := 213) rfl) rfl
theorem tw_215 : (Jvm.Cond.laysFinal "WideWholes$Fractions" "WideWholes$Fractions" "division" "LWideWholes$Division;") ∈ bg := tm_1 (List.mem_of_getElem? (i := 215) rfl) rfl
theorem tw_217 : (Jvm.Cond.laysFinal "WideWholes$Fractions" "WideWholes$Fractions" "powers" "LWideWholes$Powers;") ∈ bg := tm_1 (List.mem_of_getElem? (i := 217) rfl) rfl
theorem tw_219 : (Jvm.Cond.laysFinal "WideWholes$Fractions" "WideWholes$Fractions" "common" "LWideWholes$Whole;") ∈ bg := tm_1 (List.mem_of_getElem? (i := 219) rfl) rfl
theorem tw_221 : (Jvm.Cond.laysFinal "WideWholes$Fractions" "WideWholes$Fractions" "firstCut" "LWideWholes$Whole;") ∈ bg := tm_1 (List.mem_of_getElem? (i := 221) rfl) rfl
theorem tw_223 : (Jvm.Cond.laysFinal "WideWholes$Fractions" "WideWholes$Fractions" "secondCut" "LWideWholes$Whole;") ∈ bg := tm_1 (List.mem_of_getElem? (i := 223) rfl) rfl
theorem tw_225 : (Jvm.Cond.laysFinal "WideWholes$Fractions" "WideWholes$Fractions" "product" "LWideWholes$Whole;") ∈ bg := tm_1 (List.mem_of_getElem? (i := 225) rfl) rfl
theorem tw_228 : (Jvm.Cond.classLink "WideWholes" (62 : Nat) "WideWholes$Expansion") ∈ bg := tm_1 (List.mem_of_getElem? (i := 228) rfl) rfl
theorem tw_229 : (Jvm.Cond.instantiable "WideWholes$Expansion" (8 : Nat)) ∈ bg := tm_1 (List.mem_of_getElem? (i := 229) rfl) rfl
theorem tw_230 : (Jvm.Cond.methodLink "WideWholes" (64 : Nat) ({ cls := "WideWholes$Expansion", name := "<init>", desc := "(LWideWholes$Division;)V" } : Jvm.MethodName)) ∈ bg := tm_1 (List.mem_of_getElem? (i := 230) rfl) rfl
theorem tw_231 : (Jvm.Cond.instanceMethod ({ cls := "WideWholes$Expansion", name := "<init>", desc := "(LWideWholes$Division;)V" } : Jvm.MethodName)) ∈ bg := tm_1 (List.mem_of_getElem? (i := 231) rfl) rfl
theorem tw_232 : (Jvm.Cond.code ({ cls := "WideWholes$Expansion", name := "<init>", desc := "(LWideWholes$Division;)V" } : Jvm.MethodName) prog_3_method_1_code (2 : Nat) (Option.none : Option Jvm.ClassFile.FieldType)) ∈ bg := tm_1 (List.mem_of_getElem? (i := 232) rfl) rfl
theorem tw_233 : (Jvm.Cond.methodLink "WideWholes$Expansion" (3 : Nat) ({ cls := "java/lang/Object", name := "<init>", desc := "()V" } : Jvm.MethodName)) ∈ bg := tm_1 (List.mem_of_getElem? (i := 233) rfl) rfl
theorem tw_234 : (Jvm.Cond.classLink "WideWholes$Expansion" (29 : Nat) "WideWholes$Whole") ∈ bg := tm_1 (List.mem_of_getElem? (i := 234) rfl) rfl
theorem tw_235 : (Jvm.Cond.methodLink "WideWholes$Expansion" (31 : Nat) ({ cls := "WideWholes$Whole", name := "<init>", desc := "()V" } : Jvm.MethodName)) ∈ bg := tm_1 (List.mem_of_getElem? (i := 235) rfl) rfl
theorem tw_236 : (Jvm.Cond.fieldLink "WideWholes$Expansion" (15 : Nat) "WideWholes$Expansion" "head" "I") ∈ bg := tm_1 (List.mem_of_getElem? (i := 236) rfl) rfl
theorem tw_237 : (Jvm.Cond.fieldLink "WideWholes" (277 : Nat) "WideWholes$Expansion" "head" "I") ∈ bg := tm_1 (List.mem_of_getElem? (i := 237) rfl) rfl
theorem tw_238 : (Jvm.Cond.fieldLink "WideWholes$Expansion" (19 : Nat) "WideWholes$Expansion" "round" "I") ∈ bg := tm_1 (List.mem_of_getElem? (i := 238) rfl) rfl
theorem tw_239 : (Jvm.Cond.fieldLink "WideWholes" (280 : Nat) "WideWholes$Expansion" "round" "I") ∈ bg := tm_1 (List.mem_of_getElem? (i := 239) rfl) rfl
theorem tw_240 : (Jvm.Cond.fieldLink "WideWholes$Expansion" (22 : Nat) "WideWholes$Expansion" "kept" "[I") ∈ bg := tm_2 (List.mem_of_getElem? (i := 0) rfl) rfl
theorem tw_241 : (Jvm.Cond.fieldLink "WideWholes" (283 : Nat) "WideWholes$Expansion" "kept" "[I") ∈ bg := tm_2 (List.mem_of_getElem? (i := 1) rfl) rfl
theorem tw_242 : (Jvm.Cond.fieldLink "WideWholes$Expansion" (26 : Nat) "WideWholes$Expansion" "fresh" "[I") ∈ bg := tm_2 (List.mem_of_getElem? (i := 2) rfl) rfl
theorem tw_243 : (Jvm.Cond.fieldLink "WideWholes$Expansion" (9 : Nat) "WideWholes$Expansion" "division" "LWideWholes$Division;") ∈ bg := tm_2 (List.mem_of_getElem? (i := 3) rfl) rfl
theorem tw_244 : (Jvm.Cond.fieldLink "WideWholes$Expansion" (32 : Nat) "WideWholes$Expansion" "left" "LWideWholes$Whole;") ∈ bg := tm_2 (List.mem_of_getElem? (i := 4) rfl) rfl
theorem tw_245 : (Jvm.Cond.fieldLink "WideWholes$Expansion" (36 : Nat) "WideWholes$Expansion" "start" "LWideWholes$Whole;") ∈ bg := tm_2 (List.mem_of_getElem? (i := 5) rfl) rfl
theorem tw_246 : (Jvm.Cond.fieldLink "WideWholes$Expansion" (39 : Nat) "WideWholes$Expansion" "uncut" "LWideWholes$Whole;") ∈ bg := tm_2 (List.mem_of_getElem? (i := 6) rfl) rfl
theorem tw_247 : (Jvm.Cond.lays "WideWholes$Expansion" "WideWholes$Expansion" "head" "I") ∈ bg := tm_2 (List.mem_of_getElem? (i := 7) rfl) rfl
theorem tw_249 : (Jvm.Cond.lays "WideWholes$Expansion" "WideWholes$Expansion" "round" "I") ∈ bg := tm_2 (List.mem_of_getElem? (i := 9) rfl) rfl
theorem tw_251 : (Jvm.Cond.lays "WideWholes$Expansion" "WideWholes$Expansion" "kept" "[I") ∈ bg := tm_2 (List.mem_of_getElem? (i := 11) rfl) rfl
theorem tw_253 : (Jvm.Cond.lays "WideWholes$Expansion" "WideWholes$Expansion" "fresh" "[I") ∈ bg := tm_2 (List.mem_of_getElem? (i := 13) rfl) rfl
theorem tw_255 : (Jvm.Cond.laysFinal "WideWholes$Expansion" "WideWholes$Expansion" "division" "LWideWholes$Division;") ∈ bg := tm_2 (List.mem_of_getElem? (i := 15) rfl) rfl
theorem tw_257 : (Jvm.Cond.laysFinal "WideWholes$Expansion" "WideWholes$Expansion" "left" "LWideWholes$Whole;") ∈ bg := tm_2 (List.mem_of_getElem? (i := 17) rfl) rfl
theorem tw_259 : (Jvm.Cond.laysFinal "WideWholes$Expansion" "WideWholes$Expansion" "start" "LWideWholes$Whole;") ∈ bg := tm_2 (List.mem_of_getElem? (i := 19) rfl) rfl
theorem tw_261 : (Jvm.Cond.laysFinal "WideWholes$Expansion" "WideWholes$Expansion" "uncut" "LWideWholes$Whole;") ∈ bg := tm_2 (List.mem_of_getElem? (i := 21) rfl) rfl
theorem tw_264 : (Jvm.Cond.classLink "WideWholes" (69 : Nat) "WideWholes$TwosForm") ∈ bg := tm_2 (List.mem_of_getElem? (i := 24) rfl) rfl
theorem tw_265 : (Jvm.Cond.instantiable "WideWholes$TwosForm" (1 : Nat)) ∈ bg := tm_2 (List.mem_of_getElem? (i := 25) rfl) rfl
theorem tw_266 : (Jvm.Cond.methodLink "WideWholes" (71 : Nat) ({ cls := "WideWholes$TwosForm", name := "<init>", desc := "()V" } : Jvm.MethodName)) ∈ bg := tm_2 (List.mem_of_getElem? (i := 26) rfl) rfl
theorem tw_267 : (Jvm.Cond.instanceMethod ({ cls := "WideWholes$TwosForm", name := "<init>", desc := "()V" } : Jvm.MethodName)) ∈ bg := tm_2 (List.mem_of_getElem? (i := 27) rfl) rfl
theorem tw_268 : (Jvm.Cond.code ({ cls := "WideWholes$TwosForm", name := "<init>", desc := "()V" } : Jvm.MethodName) prog_9_method_1_code (1 : Nat) (Option.none : Option Jvm.ClassFile.FieldType)) ∈ bg := tm_2 (List.mem_of_getElem? (i := 28) rfl) rfl
theorem tw_269 : (Jvm.Cond.methodLink "WideWholes$TwosForm" (3 : Nat) ({ cls := "java/lang/Object", name := "<init>", desc := "()V" } : Jvm.MethodName)) ∈ bg := tm_2 (List.mem_of_getElem? (i := 29) rfl) rfl
theorem tw_270 : (Jvm.Cond.fieldLink "WideWholes$TwosForm" (9 : Nat) "WideWholes$TwosForm" "row" "[J") ∈ bg := tm_2 (List.mem_of_getElem? (i := 30) rfl) rfl
theorem tw_271 : (Jvm.Cond.laysFinal "WideWholes$TwosForm" "WideWholes$TwosForm" "row" "[J") ∈ bg := tm_2 (List.mem_of_getElem? (i := 31) rfl) rfl
theorem tw_274 : (Jvm.Cond.methodLink "WideWholes" (86 : Nat) ({ cls := "WideWholes$Whole", name := "become", desc := "(J)V" } : Jvm.MethodName)) ∈ bg := tm_2 (List.mem_of_getElem? (i := 34) rfl) rfl
theorem tw_275 : (Jvm.Cond.fieldLink "WideWholes" (11 : Nat) "WideWholes" "slots" "[LWideWholes$Whole;") ∈ bg := tm_2 (List.mem_of_getElem? (i := 35) rfl) rfl
theorem tw_276 : (Jvm.Cond.fieldLink "WideWholes" (18 : Nat) "WideWholes" "ratios" "[LWideWholes$Ratio;") ∈ bg := tm_2 (List.mem_of_getElem? (i := 36) rfl) rfl
theorem tw_277 : (Jvm.Cond.fieldLink "WideWholes" (26 : Nat) "WideWholes" "tape" "LWideWholes$Tape;") ∈ bg := tm_2 (List.mem_of_getElem? (i := 37) rfl) rfl
theorem tw_278 : (Jvm.Cond.fieldLink "WideWholes" (33 : Nat) "WideWholes" "text" "LWideWholes$Text;") ∈ bg := tm_2 (List.mem_of_getElem? (i := 38) rfl) rfl
theorem tw_279 : (Jvm.Cond.fieldLink "WideWholes" (45 : Nat) "WideWholes" "division" "LWideWholes$Division;") ∈ bg := tm_2 (List.mem_of_getElem? (i := 39) rfl) rfl
theorem tw_280 : (Jvm.Cond.fieldLink "WideWholes" (49 : Nat) "WideWholes" "powers" "LWideWholes$Powers;") ∈ bg := tm_2 (List.mem_of_getElem? (i := 40) rfl) rfl
theorem tw_281 : (Jvm.Cond.fieldLink "WideWholes" (58 : Nat) "WideWholes" "fractions" "LWideWholes$Fractions;") ∈ bg := tm_2 (List.mem_of_getElem? (i := 41) rfl) rfl
theorem tw_282 : (Jvm.Cond.fieldLink "WideWholes" (65 : Nat) "WideWholes" "expansion" "LWideWholes$Expansion;") ∈ bg := tm_2 (List.mem_of_getElem? (i := 42) rfl) rfl
theorem tw_283 : (Jvm.Cond.fieldLink "WideWholes" (72 : Nat) "WideWholes" "firstTwos" "LWideWholes$TwosForm;") ∈ bg := tm_2 (List.mem_of_getElem? (i := 43) rfl) rfl
theorem tw_284 : (Jvm.Cond.fieldLink "WideWholes" (76 : Nat) "WideWholes" "secondTwos" "LWideWholes$TwosForm;") ∈ bg := tm_2 (List.mem_of_getElem? (i := 44) rfl) rfl
theorem tw_285 : (Jvm.Cond.fieldLink "WideWholes" (79 : Nat) "WideWholes" "result" "LWideWholes$Whole;") ∈ bg := tm_2 (List.mem_of_getElem? (i := 45) rfl) rfl
theorem tw_286 : (Jvm.Cond.fieldLink "WideWholes" (83 : Nat) "WideWholes" "one" "LWideWholes$Whole;") ∈ bg := tm_2 (List.mem_of_getElem? (i := 46) rfl) rfl
theorem tw_287 : (Jvm.Cond.laysFinal "WideWholes" "WideWholes" "slots" "[LWideWholes$Whole;") ∈ bg := tm_2 (List.mem_of_getElem? (i := 47) rfl) rfl
theorem tw_289 : (Jvm.Cond.laysFinal "WideWholes" "WideWholes" "ratios" "[LWideWholes$Ratio;") ∈ bg := tm_2 (List.mem_of_getElem? (i := 49) rfl) rfl
theorem tw_291 : (Jvm.Cond.laysFinal "WideWholes" "WideWholes" "tape" "LWideWholes$Tape;") ∈ bg := tm_2 (List.mem_of_getElem? (i := 51) rfl) rfl
theorem tw_293 : (Jvm.Cond.laysFinal "WideWholes" "WideWholes" "text" "LWideWholes$Text;") ∈ bg := tm_2 (List.mem_of_getElem? (i := 53) rfl) rfl
theorem tw_295 : (Jvm.Cond.laysFinal "WideWholes" "WideWholes" "division" "LWideWholes$Division;") ∈ bg := tm_2 (List.mem_of_getElem? (i := 55) rfl) rfl
theorem tw_297 : (Jvm.Cond.laysFinal "WideWholes" "WideWholes" "powers" "LWideWholes$Powers;") ∈ bg := tm_2 (List.mem_of_getElem? (i := 57) rfl) rfl
theorem tw_299 : (Jvm.Cond.laysFinal "WideWholes" "WideWholes" "fractions" "LWideWholes$Fractions;") ∈ bg := tm_2 (List.mem_of_getElem? (i := 59) rfl) rfl
theorem tw_301 : (Jvm.Cond.laysFinal "WideWholes" "WideWholes" "expansion" "LWideWholes$Expansion;") ∈ bg := tm_2 (List.mem_of_getElem? (i := 61) rfl) rfl
theorem tw_303 : (Jvm.Cond.laysFinal "WideWholes" "WideWholes" "firstTwos" "LWideWholes$TwosForm;") ∈ bg := tm_2 (List.mem_of_getElem? (i := 63) rfl) rfl
theorem tw_305 : (Jvm.Cond.laysFinal "WideWholes" "WideWholes" "secondTwos" "LWideWholes$TwosForm;") ∈ bg := tm_2 (List.mem_of_getElem? (i := 65) rfl) rfl
theorem tw_307 : (Jvm.Cond.laysFinal "WideWholes" "WideWholes" "result" "LWideWholes$Whole;") ∈ bg := tm_2 (List.mem_of_getElem? (i := 67) rfl) rfl
theorem tw_309 : (Jvm.Cond.laysFinal "WideWholes" "WideWholes" "one" "LWideWholes$Whole;") ∈ bg := tm_2 (List.mem_of_getElem? (i := 69) rfl) rfl
theorem tw_312 : (Jvm.Cond.methodLink "WideWholesLaw" (21 : Nat) ({ cls := "WideWholes", name := "set", desc := "(IJ)I" } : Jvm.MethodName)) ∈ bg := tm_2 (List.mem_of_getElem? (i := 72) rfl) rfl
theorem tw_313 : (Jvm.Cond.instanceMethod ({ cls := "WideWholes", name := "set", desc := "(IJ)I" } : Jvm.MethodName)) ∈ bg := tm_2 (List.mem_of_getElem? (i := 73) rfl) rfl
theorem tw_314 : (Jvm.Cond.selects "WideWholes" ({ cls := "WideWholes", name := "set", desc := "(IJ)I" } : Jvm.MethodName) ({ cls := "WideWholes", name := "set", desc := "(IJ)I" } : Jvm.MethodName)) ∈ bg := tm_2 (List.mem_of_getElem? (i := 74) rfl) rfl
theorem tw_315 : (Jvm.Cond.code ({ cls := "WideWholes", name := "set", desc := "(IJ)I" } : Jvm.MethodName) prog_1_method_2_code (4 : Nat) (Option.some Jvm.ClassFile.FieldType.int)) ∈ bg := tm_2 (List.mem_of_getElem? (i := 75) rfl) rfl
theorem tw_316 : (Jvm.Cond.methodLink "WideWholes" (90 : Nat) ({ cls := "WideWholes", name := "isSlot", desc := "(I)Z" } : Jvm.MethodName)) ∈ bg := tm_2 (List.mem_of_getElem? (i := 76) rfl) rfl
theorem tw_317 : (Jvm.Cond.static ({ cls := "WideWholes", name := "isSlot", desc := "(I)Z" } : Jvm.MethodName)) ∈ bg := tm_2 (List.mem_of_getElem? (i := 77) rfl) rfl
theorem tw_318 : (Jvm.Cond.code ({ cls := "WideWholes", name := "isSlot", desc := "(I)Z" } : Jvm.MethodName) prog_1_method_29_code (1 : Nat) (Option.some Jvm.ClassFile.FieldType.boolean)) ∈ bg := tm_2 (List.mem_of_getElem? (i := 78) rfl) rfl
theorem tw_319 : (Jvm.Cond.methodLink "WideWholesLaw" (26 : Nat) ({ cls := "WideWholes", name := "feed", desc := "(JI)I" } : Jvm.MethodName)) ∈ bg := tm_2 (List.mem_of_getElem? (i := 79) rfl) rfl
theorem tw_320 : (Jvm.Cond.instanceMethod ({ cls := "WideWholes", name := "feed", desc := "(JI)I" } : Jvm.MethodName)) ∈ bg := tm_2 (List.mem_of_getElem? (i := 80) rfl) rfl
theorem tw_321 : (Jvm.Cond.selects "WideWholes" ({ cls := "WideWholes", name := "feed", desc := "(JI)I" } : Jvm.MethodName) ({ cls := "WideWholes", name := "feed", desc := "(JI)I" } : Jvm.MethodName)) ∈ bg := tm_2 (List.mem_of_getElem? (i := 81) rfl) rfl
theorem tw_322 : (Jvm.Cond.code ({ cls := "WideWholes", name := "feed", desc := "(JI)I" } : Jvm.MethodName) prog_1_method_3_code (4 : Nat) (Option.some Jvm.ClassFile.FieldType.int)) ∈ bg := tm_2 (List.mem_of_getElem? (i := 82) rfl) rfl
theorem tw_323 : (Jvm.Cond.methodLink "WideWholes" (94 : Nat) ({ cls := "WideWholes$Tape", name := "takeBytes", desc := "(JI)Z" } : Jvm.MethodName)) ∈ bg := tm_2 (List.mem_of_getElem? (i := 83) rfl) rfl
theorem tw_324 : (Jvm.Cond.instanceMethod ({ cls := "WideWholes$Tape", name := "takeBytes", desc := "(JI)Z" } : Jvm.MethodName)) ∈ bg := tm_2 (List.mem_of_getElem? (i := 84) rfl) rfl
theorem tw_325 : (Jvm.Cond.selects "WideWholes$Tape" ({ cls := "WideWholes$Tape", name := "takeBytes", desc := "(JI)Z" } : Jvm.MethodName) ({ cls := "WideWholes$Tape", name := "takeBytes", desc := "(JI)Z" } : Jvm.MethodName)) ∈ bg := tm_2 (List.mem_of_getElem? (i := 85) rfl) rfl
theorem tw_326 : (Jvm.Cond.code ({ cls := "WideWholes$Tape", name := "takeBytes", desc := "(JI)Z" } : Jvm.MethodName) prog_7_method_3_code (5 : Nat) (Option.some Jvm.ClassFile.FieldType.boolean)) ∈ bg := tm_2 (List.mem_of_getElem? (i := 86) rfl) rfl
theorem tw_327 : (Jvm.Cond.constantLong "WideWholes$Tape" (19 : Nat) (255 : Int64)) ∈ bg := tm_2 (List.mem_of_getElem? (i := 87) rfl) rfl
theorem tw_328 : (Jvm.Cond.methodLink "WideWholesLaw" (31 : Nat) ({ cls := "WideWholes", name := "read", desc := "(II)I" } : Jvm.MethodName)) ∈ bg := tm_2 (List.mem_of_getElem? (i := 88) rfl) rfl
theorem tw_329 : (Jvm.Cond.instanceMethod ({ cls := "WideWholes", name := "read", desc := "(II)I" } : Jvm.MethodName)) ∈ bg := tm_2 (List.mem_of_getElem? (i := 89) rfl) rfl
theorem tw_330 : (Jvm.Cond.selects "WideWholes" ({ cls := "WideWholes", name := "read", desc := "(II)I" } : Jvm.MethodName) ({ cls := "WideWholes", name := "read", desc := "(II)I" } : Jvm.MethodName)) ∈ bg := tm_2 (List.mem_of_getElem? (i := 90) rfl) rfl
theorem tw_331 : (Jvm.Cond.code ({ cls := "WideWholes", name := "read", desc := "(II)I" } : Jvm.MethodName) prog_1_method_4_code (4 : Nat) (Option.some Jvm.ClassFile.FieldType.int)) ∈ bg := tm_2 (List.mem_of_getElem? (i := 91) rfl) rfl
theorem tw_332 : (Jvm.Cond.methodLink "WideWholes" (102 : Nat) ({ cls := "WideWholes", name := "isBase", desc := "(I)Z" } : Jvm.MethodName)) ∈ bg := tm_2 (List.mem_of_getElem? (i := 92) rfl) rfl
theorem tw_333 : (Jvm.Cond.static ({ cls := "WideWholes", name := "isBase", desc := "(I)Z" } : Jvm.MethodName)) ∈ bg := tm_2 (List.mem_of_getElem? (i := 93) rfl) rfl
theorem tw_334 : (Jvm.Cond.code ({ cls := "WideWholes", name := "isBase", desc := "(I)Z" } : Jvm.MethodName) prog_1_method_32_code (1 : Nat) (Option.some Jvm.ClassFile.FieldType.boolean)) ∈ bg := tm_2 (List.mem_of_getElem? (i := 94) rfl) rfl
theorem tw_335 : (Jvm.Cond.methodLink "WideWholes" (105 : Nat) ({ cls := "WideWholes$Tape", name := "wrongPlace", desc := "(I)I" } : Jvm.MethodName)) ∈ bg := tm_2 (List.mem_of_getElem? (i := 95) rfl) rfl
theorem tw_336 : (Jvm.Cond.instanceMethod ({ cls := "WideWholes$Tape", name := "wrongPlace", desc := "(I)I" } : Jvm.MethodName)) ∈ bg := tm_2 (List.mem_of_getElem? (i := 96) rfl) rfl
theorem tw_337 : (Jvm.Cond.selects "WideWholes$Tape" ({ cls := "WideWholes$Tape", name := "wrongPlace", desc := "(I)I" } : Jvm.MethodName) ({ cls := "WideWholes$Tape", name := "wrongPlace", desc := "(I)I" } : Jvm.MethodName)) ∈ bg := tm_2 (List.mem_of_getElem? (i := 97) rfl) rfl
theorem tw_338 : (Jvm.Cond.code ({ cls := "WideWholes$Tape", name := "wrongPlace", desc := "(I)I" } : Jvm.MethodName) prog_7_method_4_code (4 : Nat) (Option.some Jvm.ClassFile.FieldType.int)) ∈ bg := tm_2 (List.mem_of_getElem? (i := 98) rfl) rfl
theorem tw_339 : (Jvm.Cond.methodLink "WideWholes$Tape" (21 : Nat) ({ cls := "WideWholes$Tape", name := "signs", desc := "()I" } : Jvm.MethodName)) ∈ bg := tm_2 (List.mem_of_getElem? (i := 99) rfl) rfl
theorem tw_341 : (Jvm.Cond.instanceMethod ({ cls := "WideWholes$Tape", name := "signs", desc := "()I" } : Jvm.MethodName)) ∈ bg := tm_2 (List.mem_of_getElem? (i := 101) rfl) rfl
theorem tw_342 : (Jvm.Cond.code ({ cls := "WideWholes$Tape", name := "signs", desc := "()I" } : Jvm.MethodName) prog_7_method_6_code (1 : Nat) (Option.some Jvm.ClassFile.FieldType.int)) ∈ bg := tm_2 (List.mem_of_getElem? (i := 102) rfl) rfl
theorem tw_343 : (Jvm.Cond.methodLink "WideWholes$Tape" (25 : Nat) ({ cls := "WideWholes$Tape", name := "valueAt", desc := "(I)I" } : Jvm.MethodName)) ∈ bg := tm_2 (List.mem_of_getElem? (i := 103) rfl) rfl
theorem tw_345 : (Jvm.Cond.instanceMethod ({ cls := "WideWholes$Tape", name := "valueAt", desc := "(I)I" } : Jvm.MethodName)) ∈ bg := tm_2 (List.mem_of_getElem? (i := 105) rfl) rfl
theorem tw_346 : (Jvm.Cond.code ({ cls := "WideWholes$Tape", name := "valueAt", desc := "(I)I" } : Jvm.MethodName) prog_7_method_7_code (3 : Nat) (Option.some Jvm.ClassFile.FieldType.int)) ∈ bg := tm_2 (List.mem_of_getElem? (i := 106) rfl) rfl
theorem tw_347 : (Jvm.Cond.methodLink "WideWholes$Tape" (29 : Nat) ({ cls := "WideWholes$Tape", name := "isDigit", desc := "(II)Z" } : Jvm.MethodName)) ∈ bg := tm_2 (List.mem_of_getElem? (i := 107) rfl) rfl
theorem tw_348 : (Jvm.Cond.static ({ cls := "WideWholes$Tape", name := "isDigit", desc := "(II)Z" } : Jvm.MethodName)) ∈ bg := tm_2 (List.mem_of_getElem? (i := 108) rfl) rfl
theorem tw_349 : (Jvm.Cond.code ({ cls := "WideWholes$Tape", name := "isDigit", desc := "(II)Z" } : Jvm.MethodName) prog_7_method_8_code (2 : Nat) (Option.some Jvm.ClassFile.FieldType.boolean)) ∈ bg := tm_2 (List.mem_of_getElem? (i := 109) rfl) rfl
theorem tw_350 : (Jvm.Cond.methodLink "WideWholes" (109 : Nat) ({ cls := "WideWholes$Tape", name := "spellInto", desc := "(LWideWholes$Whole;I)V" } : Jvm.MethodName)) ∈ bg := tm_2 (List.mem_of_getElem? (i := 110) rfl) rfl
theorem tw_351 : (Jvm.Cond.instanceMethod ({ cls := "WideWholes$Tape", name := "spellInto", desc := "(LWideWholes$Whole;I)V" } : Jvm.MethodName)) ∈ bg := tm_2 (List.mem_of_getElem? (i := 111) rfl) rfl
theorem tw_352 : (Jvm.Cond.selects "WideWholes$Tape" ({ cls := "WideWholes$Tape", name := "spellInto", desc := "(LWideWholes$Whole;I)V" } : Jvm.MethodName) ({ cls := "WideWholes$Tape", name := "spellInto", desc := "(LWideWholes$Whole;I)V" } : Jvm.MethodName)) ∈ bg := tm_2 (List.mem_of_getElem? (i := 112) rfl) rfl
theorem tw_353 : (Jvm.Cond.code ({ cls := "WideWholes$Tape", name := "spellInto", desc := "(LWideWholes$Whole;I)V" } : Jvm.MethodName) prog_7_method_5_code (4 : Nat) (Option.none : Option Jvm.ClassFile.FieldType)) ∈ bg := tm_2 (List.mem_of_getElem? (i := 113) rfl) rfl
theorem tw_354 : (Jvm.Cond.methodLink "WideWholes$Tape" (33 : Nat) ({ cls := "WideWholes$Whole", name := "become", desc := "(J)V" } : Jvm.MethodName)) ∈ bg := tm_2 (List.mem_of_getElem? (i := 114) rfl) rfl
theorem tw_355 : (Jvm.Cond.methodLink "WideWholes$Tape" (39 : Nat) ({ cls := "WideWholes$Whole", name := "grow", desc := "(JJ)V" } : Jvm.MethodName)) ∈ bg := tm_2 (List.mem_of_getElem? (i := 115) rfl) rfl
theorem tw_356 : (Jvm.Cond.instanceMethod ({ cls := "WideWholes$Whole", name := "grow", desc := "(JJ)V" } : Jvm.MethodName)) ∈ bg := tm_2 (List.mem_of_getElem? (i := 116) rfl) rfl
theorem tw_357 : (Jvm.Cond.selects "WideWholes$Whole" ({ cls := "WideWholes$Whole", name := "grow", desc := "(JJ)V" } : Jvm.MethodName) ({ cls := "WideWholes$Whole", name := "grow", desc := "(JJ)V" } : Jvm.MethodName)) ∈ bg := tm_2 (List.mem_of_getElem? (i := 117) rfl) rfl
theorem tw_358 : (Jvm.Cond.code ({ cls := "WideWholes$Whole", name := "grow", desc := "(JJ)V" } : Jvm.MethodName) prog_10_method_16_code (10 : Nat) (Option.none : Option Jvm.ClassFile.FieldType)) ∈ bg := tm_2 (List.mem_of_getElem? (i := 118) rfl) rfl
theorem tw_359 : (Jvm.Cond.methodLink "WideWholes$Tape" (43 : Nat) ({ cls := "WideWholes$Whole", name := "takeSign", desc := "(Z)V" } : Jvm.MethodName)) ∈ bg := tm_2 (List.mem_of_getElem? (i := 119) rfl) rfl
theorem tw_360 : (Jvm.Cond.methodLink "WideWholes" (113 : Nat) ({ cls := "WideWholes$Tape", name := "clear", desc := "()V" } : Jvm.MethodName)) ∈ bg := tm_2 (List.mem_of_getElem? (i := 120) rfl) rfl
theorem tw_361 : (Jvm.Cond.instanceMethod ({ cls := "WideWholes$Tape", name := "clear", desc := "()V" } : Jvm.MethodName)) ∈ bg := tm_2 (List.mem_of_getElem? (i := 121) rfl) rfl
theorem tw_362 : (Jvm.Cond.selects "WideWholes$Tape" ({ cls := "WideWholes$Tape", name := "clear", desc := "()V" } : Jvm.MethodName) ({ cls := "WideWholes$Tape", name := "clear", desc := "()V" } : Jvm.MethodName)) ∈ bg := tm_2 (List.mem_of_getElem? (i := 122) rfl) rfl
theorem tw_363 : (Jvm.Cond.code ({ cls := "WideWholes$Tape", name := "clear", desc := "()V" } : Jvm.MethodName) prog_7_method_2_code (1 : Nat) (Option.none : Option Jvm.ClassFile.FieldType)) ∈ bg := tm_2 (List.mem_of_getElem? (i := 123) rfl) rfl
theorem tw_364 : (Jvm.Cond.methodLink "WideWholes" (116 : Nat) ({ cls := "WideWholes", name := "keep", desc := "(LWideWholes$Whole;I)I" } : Jvm.MethodName)) ∈ bg := tm_2 (List.mem_of_getElem? (i := 124) rfl) rfl
theorem tw_366 : (Jvm.Cond.instanceMethod ({ cls := "WideWholes", name := "keep", desc := "(LWideWholes$Whole;I)I" } : Jvm.MethodName)) ∈ bg := tm_2 (List.mem_of_getElem? (i := 126) rfl) rfl
theorem tw_367 : (Jvm.Cond.code ({ cls := "WideWholes", name := "keep", desc := "(LWideWholes$Whole;I)I" } : Jvm.MethodName) prog_1_method_34_code (3 : Nat) (Option.some Jvm.ClassFile.FieldType.int)) ∈ bg := tm_2 (List.mem_of_getElem? (i := 127) rfl) rfl
theorem tw_368 : (Jvm.Cond.methodLink "WideWholes" (178 : Nat) ({ cls := "WideWholes$Whole", name := "isWithin", desc := "()Z" } : Jvm.MethodName)) ∈ bg := tm_2 (List.mem_of_getElem? (i := 128) rfl) rfl
theorem tw_369 : (Jvm.Cond.instanceMethod ({ cls := "WideWholes$Whole", name := "isWithin", desc := "()Z" } : Jvm.MethodName)) ∈ bg := tm_2 (List.mem_of_getElem? (i := 129) rfl) rfl
theorem tw_370 : (Jvm.Cond.selects "WideWholes$Whole" ({ cls := "WideWholes$Whole", name := "isWithin", desc := "()Z" } : Jvm.MethodName) ({ cls := "WideWholes$Whole", name := "isWithin", desc := "()Z" } : Jvm.MethodName)) ∈ bg := tm_2 (List.mem_of_getElem? (i := 130) rfl) rfl
theorem tw_371 : (Jvm.Cond.code ({ cls := "WideWholes$Whole", name := "isWithin", desc := "()Z" } : Jvm.MethodName) prog_10_method_9_code (1 : Nat) (Option.some Jvm.ClassFile.FieldType.boolean)) ∈ bg := tm_2 (List.mem_of_getElem? (i := 131) rfl) rfl
theorem tw_372 : (Jvm.Cond.methodLink "WideWholes" (184 : Nat) ({ cls := "WideWholes$Whole", name := "copy", desc := "(LWideWholes$Whole;)V" } : Jvm.MethodName)) ∈ bg := tm_2 (List.mem_of_getElem? (i := 132) rfl) rfl
theorem tw_373 : (Jvm.Cond.instanceMethod ({ cls := "WideWholes$Whole", name := "copy", desc := "(LWideWholes$Whole;)V" } : Jvm.MethodName)) ∈ bg := tm_2 (List.mem_of_getElem? (i := 133) rfl) rfl
theorem tw_374 : (Jvm.Cond.selects "WideWholes$Whole" ({ cls := "WideWholes$Whole", name := "copy", desc := "(LWideWholes$Whole;)V" } : Jvm.MethodName) ({ cls := "WideWholes$Whole", name := "copy", desc := "(LWideWholes$Whole;)V" } : Jvm.MethodName)) ∈ bg := tm_2 (List.mem_of_getElem? (i := 134) rfl) rfl
theorem tw_375 : (Jvm.Cond.code ({ cls := "WideWholes$Whole", name := "copy", desc := "(LWideWholes$Whole;)V" } : Jvm.MethodName) prog_10_method_3_code (3 : Nat) (Option.none : Option Jvm.ClassFile.FieldType)) ∈ bg := tm_2 (List.mem_of_getElem? (i := 135) rfl) rfl
theorem tw_376 : (Jvm.Cond.methodLink "WideWholesLaw" (36 : Nat) ({ cls := "WideWholes", name := "write", desc := "(II)I" } : Jvm.MethodName)) ∈ bg := tm_2 (List.mem_of_getElem? (i := 136) rfl) rfl
theorem tw_377 : (Jvm.Cond.instanceMethod ({ cls := "WideWholes", name := "write", desc := "(II)I" } : Jvm.MethodName)) ∈ bg := tm_2 (List.mem_of_getElem? (i := 137) rfl) rfl
theorem tw_378 : (Jvm.Cond.selects "WideWholes" ({ cls := "WideWholes", name := "write", desc := "(II)I" } : Jvm.MethodName) ({ cls := "WideWholes", name := "write", desc := "(II)I" } : Jvm.MethodName)) ∈ bg := tm_2 (List.mem_of_getElem? (i := 138) rfl) rfl
theorem tw_379 : (Jvm.Cond.code ({ cls := "WideWholes", name := "write", desc := "(II)I" } : Jvm.MethodName) prog_1_method_5_code (3 : Nat) (Option.some Jvm.ClassFile.FieldType.int)) ∈ bg := tm_2 (List.mem_of_getElem? (i := 139) rfl) rfl
theorem tw_380 : (Jvm.Cond.methodLink "WideWholes" (120 : Nat) ({ cls := "WideWholes$Text", name := "spell", desc := "(LWideWholes$Whole;I)V" } : Jvm.MethodName)) ∈ bg := tm_2 (List.mem_of_getElem? (i := 140) rfl) rfl
theorem tw_381 : (Jvm.Cond.instanceMethod ({ cls := "WideWholes$Text", name := "spell", desc := "(LWideWholes$Whole;I)V" } : Jvm.MethodName)) ∈ bg := tm_2 (List.mem_of_getElem? (i := 141) rfl) rfl
theorem tw_382 : (Jvm.Cond.selects "WideWholes$Text" ({ cls := "WideWholes$Text", name := "spell", desc := "(LWideWholes$Whole;I)V" } : Jvm.MethodName) ({ cls := "WideWholes$Text", name := "spell", desc := "(LWideWholes$Whole;I)V" } : Jvm.MethodName)) ∈ bg := tm_2 (List.mem_of_getElem? (i := 142) rfl) rfl
theorem tw_383 : (Jvm.Cond.code ({ cls := "WideWholes$Text", name := "spell", desc := "(LWideWholes$Whole;I)V" } : Jvm.MethodName) prog_8_method_2_code (3 : Nat) (Option.none : Option Jvm.ClassFile.FieldType)) ∈ bg := tm_2 (List.mem_of_getElem? (i := 143) rfl) rfl
theorem tw_384 : (Jvm.Cond.methodLink "WideWholes$Text" (26 : Nat) ({ cls := "WideWholes$Whole", name := "copy", desc := "(LWideWholes$Whole;)V" } : Jvm.MethodName)) ∈ bg := tm_2 (List.mem_of_getElem? (i := 144) rfl) rfl
theorem tw_385 : (Jvm.Cond.methodLink "WideWholes$Text" (30 : Nat) ({ cls := "WideWholes$Whole", name := "shrink", desc := "(J)J" } : Jvm.MethodName)) ∈ bg := tm_2 (List.mem_of_getElem? (i := 145) rfl) rfl
theorem tw_386 : (Jvm.Cond.instanceMethod ({ cls := "WideWholes$Whole", name := "shrink", desc := "(J)J" } : Jvm.MethodName)) ∈ bg := tm_2 (List.mem_of_getElem? (i := 146) rfl) rfl
theorem tw_387 : (Jvm.Cond.selects "WideWholes$Whole" ({ cls := "WideWholes$Whole", name := "shrink", desc := "(J)J" } : Jvm.MethodName) ({ cls := "WideWholes$Whole", name := "shrink", desc := "(J)J" } : Jvm.MethodName)) ∈ bg := tm_2 (List.mem_of_getElem? (i := 147) rfl) rfl
theorem tw_388 : (Jvm.Cond.code ({ cls := "WideWholes$Whole", name := "shrink", desc := "(J)J" } : Jvm.MethodName) prog_10_method_17_code (10 : Nat) (Option.some Jvm.ClassFile.FieldType.long)) ∈ bg := tm_2 (List.mem_of_getElem? (i := 148) rfl) rfl
theorem tw_389 : (Jvm.Cond.methodLink "WideWholes$Whole" (43 : Nat) ({ cls := "WideWholes$Whole", name := "quotientOfBits", desc := "(JJ)J" } : Jvm.MethodName)) ∈ bg := tm_2 (List.mem_of_getElem? (i := 149) rfl) rfl
theorem tw_390 : (Jvm.Cond.static ({ cls := "WideWholes$Whole", name := "quotientOfBits", desc := "(JJ)J" } : Jvm.MethodName)) ∈ bg := tm_2 (List.mem_of_getElem? (i := 150) rfl) rfl
theorem tw_391 : (Jvm.Cond.code ({ cls := "WideWholes$Whole", name := "quotientOfBits", desc := "(JJ)J" } : Jvm.MethodName) prog_10_method_20_code (6 : Nat) (Option.some Jvm.ClassFile.FieldType.long)) ∈ bg := tm_2 (List.mem_of_getElem? (i := 151) rfl) rfl
theorem tw_392 : (Jvm.Cond.methodLink "WideWholes$Text" (34 : Nat) ({ cls := "WideWholes$Text", name := "letter", desc := "(I)I" } : Jvm.MethodName)) ∈ bg := tm_2 (List.mem_of_getElem? (i := 152) rfl) rfl
theorem tw_393 : (Jvm.Cond.static ({ cls := "WideWholes$Text", name := "letter", desc := "(I)I" } : Jvm.MethodName)) ∈ bg := tm_2 (List.mem_of_getElem? (i := 153) rfl) rfl
theorem tw_394 : (Jvm.Cond.code ({ cls := "WideWholes$Text", name := "letter", desc := "(I)I" } : Jvm.MethodName) prog_8_method_5_code (1 : Nat) (Option.some Jvm.ClassFile.FieldType.int)) ∈ bg := tm_2 (List.mem_of_getElem? (i := 154) rfl) rfl
theorem tw_395 : (Jvm.Cond.methodLink "WideWholes$Text" (38 : Nat) ({ cls := "WideWholes$Text", name := "add", desc := "(I)V" } : Jvm.MethodName)) ∈ bg := tm_2 (List.mem_of_getElem? (i := 155) rfl) rfl
theorem tw_397 : (Jvm.Cond.instanceMethod ({ cls := "WideWholes$Text", name := "add", desc := "(I)V" } : Jvm.MethodName)) ∈ bg := tm_2 (List.mem_of_getElem? (i := 157) rfl) rfl
theorem tw_398 : (Jvm.Cond.code ({ cls := "WideWholes$Text", name := "add", desc := "(I)V" } : Jvm.MethodName) prog_8_method_3_code (2 : Nat) (Option.none : Option Jvm.ClassFile.FieldType)) ∈ bg := tm_2 (List.mem_of_getElem? (i := 158) rfl) rfl
theorem tw_399 : (Jvm.Cond.methodLink "WideWholes$Text" (42 : Nat) ({ cls := "WideWholes$Whole", name := "isZero", desc := "()Z" } : Jvm.MethodName)) ∈ bg := tm_2 (List.mem_of_getElem? (i := 159) rfl) rfl
theorem tw_400 : (Jvm.Cond.instanceMethod ({ cls := "WideWholes$Whole", name := "isZero", desc := "()Z" } : Jvm.MethodName)) ∈ bg := tm_2 (List.mem_of_getElem? (i := 160) rfl) rfl
theorem tw_401 : (Jvm.Cond.selects "WideWholes$Whole" ({ cls := "WideWholes$Whole", name := "isZero", desc := "()Z" } : Jvm.MethodName) ({ cls := "WideWholes$Whole", name := "isZero", desc := "()Z" } : Jvm.MethodName)) ∈ bg := tm_2 (List.mem_of_getElem? (i := 161) rfl) rfl
theorem tw_402 : (Jvm.Cond.code ({ cls := "WideWholes$Whole", name := "isZero", desc := "()Z" } : Jvm.MethodName) prog_10_method_6_code (1 : Nat) (Option.some Jvm.ClassFile.FieldType.boolean)) ∈ bg := tm_2 (List.mem_of_getElem? (i := 162) rfl) rfl
theorem tw_403 : (Jvm.Cond.methodLink "WideWholes$Text" (50 : Nat) ({ cls := "WideWholes$Text", name := "turnRound", desc := "()V" } : Jvm.MethodName)) ∈ bg := tm_2 (List.mem_of_getElem? (i := 163) rfl) rfl
theorem tw_405 : (Jvm.Cond.instanceMethod ({ cls := "WideWholes$Text", name := "turnRound", desc := "()V" } : Jvm.MethodName)) ∈ bg := tm_2 (List.mem_of_getElem? (i := 165) rfl) rfl
theorem tw_406 : (Jvm.Cond.code ({ cls := "WideWholes$Text", name := "turnRound", desc := "()V" } : Jvm.MethodName) prog_8_method_4_code (4 : Nat) (Option.none : Option Jvm.ClassFile.FieldType)) ∈ bg := tm_2 (List.mem_of_getElem? (i := 166) rfl) rfl
theorem tw_407 : (Jvm.Cond.methodLink "WideWholesLaw" (50 : Nat) ({ cls := "WideWholes", name := "low", desc := "(I)J" } : Jvm.MethodName)) ∈ bg := tm_2 (List.mem_of_getElem? (i := 167) rfl) rfl
theorem tw_408 : (Jvm.Cond.instanceMethod ({ cls := "WideWholes", name := "low", desc := "(I)J" } : Jvm.MethodName)) ∈ bg := tm_2 (List.mem_of_getElem? (i := 168) rfl) rfl
theorem tw_409 : (Jvm.Cond.selects "WideWholes" ({ cls := "WideWholes", name := "low", desc := "(I)J" } : Jvm.MethodName) ({ cls := "WideWholes", name := "low", desc := "(I)J" } : Jvm.MethodName)) ∈ bg := tm_2 (List.mem_of_getElem? (i := 169) rfl) rfl
theorem tw_410 : (Jvm.Cond.code ({ cls := "WideWholes", name := "low", desc := "(I)J" } : Jvm.MethodName) prog_1_method_7_code (2 : Nat) (Option.some Jvm.ClassFile.FieldType.long)) ∈ bg := tm_2 (List.mem_of_getElem? (i := 170) rfl) rfl
theorem tw_411 : (Jvm.Cond.methodLink "WideWholes" (135 : Nat) ({ cls := "WideWholes$Whole", name := "lowest64", desc := "()J" } : Jvm.MethodName)) ∈ bg := tm_2 (List.mem_of_getElem? (i := 171) rfl) rfl
theorem tw_412 : (Jvm.Cond.instanceMethod ({ cls := "WideWholes$Whole", name := "lowest64", desc := "()J" } : Jvm.MethodName)) ∈ bg := tm_2 (List.mem_of_getElem? (i := 172) rfl) rfl
theorem tw_413 : (Jvm.Cond.selects "WideWholes$Whole" ({ cls := "WideWholes$Whole", name := "lowest64", desc := "()J" } : Jvm.MethodName) ({ cls := "WideWholes$Whole", name := "lowest64", desc := "()J" } : Jvm.MethodName)) ∈ bg := tm_2 (List.mem_of_getElem? (i := 173) rfl) rfl
theorem tw_414 : (Jvm.Cond.code ({ cls := "WideWholes$Whole", name := "lowest64", desc := "()J" } : Jvm.MethodName) prog_10_method_12_code (3 : Nat) (Option.some Jvm.ClassFile.FieldType.long)) ∈ bg := tm_2 (List.mem_of_getElem? (i := 174) rfl) rfl
theorem tw_415 : (Jvm.Cond.methodLink "WideWholes$Whole" (33 : Nat) ({ cls := "WideWholes$Whole", name := "partAt", desc := "(I)J" } : Jvm.MethodName)) ∈ bg := tm_2 (List.mem_of_getElem? (i := 175) rfl) rfl
theorem tw_416 : (Jvm.Cond.instanceMethod ({ cls := "WideWholes$Whole", name := "partAt", desc := "(I)J" } : Jvm.MethodName)) ∈ bg := tm_2 (List.mem_of_getElem? (i := 176) rfl) rfl
theorem tw_417 : (Jvm.Cond.selects "WideWholes$Whole" ({ cls := "WideWholes$Whole", name := "partAt", desc := "(I)J" } : Jvm.MethodName) ({ cls := "WideWholes$Whole", name := "partAt", desc := "(I)J" } : Jvm.MethodName)) ∈ bg := tm_2 (List.mem_of_getElem? (i := 177) rfl) rfl
theorem tw_418 : (Jvm.Cond.code ({ cls := "WideWholes$Whole", name := "partAt", desc := "(I)J" } : Jvm.MethodName) prog_10_method_11_code (2 : Nat) (Option.some Jvm.ClassFile.FieldType.long)) ∈ bg := tm_2 (List.mem_of_getElem? (i := 178) rfl) rfl
theorem tw_419 : (Jvm.Cond.methodLink "WideWholesLaw" (55 : Nat) ({ cls := "WideWholes", name := "limbs", desc := "(I)I" } : Jvm.MethodName)) ∈ bg := tm_2 (List.mem_of_getElem? (i := 179) rfl) rfl
theorem tw_420 : (Jvm.Cond.instanceMethod ({ cls := "WideWholes", name := "limbs", desc := "(I)I" } : Jvm.MethodName)) ∈ bg := tm_2 (List.mem_of_getElem? (i := 180) rfl) rfl
theorem tw_421 : (Jvm.Cond.selects "WideWholes" ({ cls := "WideWholes", name := "limbs", desc := "(I)I" } : Jvm.MethodName) ({ cls := "WideWholes", name := "limbs", desc := "(I)I" } : Jvm.MethodName)) ∈ bg := tm_2 (List.mem_of_getElem? (i := 181) rfl) rfl
theorem tw_422 : (Jvm.Cond.code ({ cls := "WideWholes", name := "limbs", desc := "(I)I" } : Jvm.MethodName) prog_1_method_8_code (2 : Nat) (Option.some Jvm.ClassFile.FieldType.int)) ∈ bg := tm_2 (List.mem_of_getElem? (i := 182) rfl) rfl
theorem tw_423 : (Jvm.Cond.methodLink "WideWholes" (139 : Nat) ({ cls := "WideWholes$Whole", name := "isShort", desc := "()Z" } : Jvm.MethodName)) ∈ bg := tm_2 (List.mem_of_getElem? (i := 183) rfl) rfl
theorem tw_424 : (Jvm.Cond.instanceMethod ({ cls := "WideWholes$Whole", name := "isShort", desc := "()Z" } : Jvm.MethodName)) ∈ bg := tm_2 (List.mem_of_getElem? (i := 184) rfl) rfl
theorem tw_425 : (Jvm.Cond.selects "WideWholes$Whole" ({ cls := "WideWholes$Whole", name := "isShort", desc := "()Z" } : Jvm.MethodName) ({ cls := "WideWholes$Whole", name := "isShort", desc := "()Z" } : Jvm.MethodName)) ∈ bg := tm_2 (List.mem_of_getElem? (i := 185) rfl) rfl
theorem tw_426 : (Jvm.Cond.code ({ cls := "WideWholes$Whole", name := "isShort", desc := "()Z" } : Jvm.MethodName) prog_10_method_10_code (3 : Nat) (Option.some Jvm.ClassFile.FieldType.boolean)) ∈ bg := tm_2 (List.mem_of_getElem? (i := 186) rfl) rfl
theorem tw_427 : (Jvm.Cond.constantLong "WideWholes$Whole" (37 : Nat) (-9223372036854775808 : Int64)) ∈ bg := tm_2 (List.mem_of_getElem? (i := 187) rfl) rfl
theorem tw_428 : (Jvm.Cond.methodLink "WideWholesLaw" (59 : Nat) ({ cls := "WideWholes", name := "limb", desc := "(II)J" } : Jvm.MethodName)) ∈ bg := tm_2 (List.mem_of_getElem? (i := 188) rfl) rfl
theorem tw_429 : (Jvm.Cond.instanceMethod ({ cls := "WideWholes", name := "limb", desc := "(II)J" } : Jvm.MethodName)) ∈ bg := tm_2 (List.mem_of_getElem? (i := 189) rfl) rfl
theorem tw_430 : (Jvm.Cond.selects "WideWholes" ({ cls := "WideWholes", name := "limb", desc := "(II)J" } : Jvm.MethodName) ({ cls := "WideWholes", name := "limb", desc := "(II)J" } : Jvm.MethodName)) ∈ bg := tm_2 (List.mem_of_getElem? (i := 190) rfl) rfl
theorem tw_431 : (Jvm.Cond.code ({ cls := "WideWholes", name := "limb", desc := "(II)J" } : Jvm.MethodName) prog_1_method_9_code (3 : Nat) (Option.some Jvm.ClassFile.FieldType.long)) ∈ bg := tm_2 (List.mem_of_getElem? (i := 191) rfl) rfl
theorem tw_432 : (Jvm.Cond.methodLink "WideWholes" (146 : Nat) ({ cls := "WideWholes$Whole", name := "partAt", desc := "(I)J" } : Jvm.MethodName)) ∈ bg := tm_2 (List.mem_of_getElem? (i := 192) rfl) rfl
theorem tw_433 : (Jvm.Cond.methodLink "WideWholesLaw" (64 : Nat) ({ cls := "WideWholes", name := "compare", desc := "(II)I" } : Jvm.MethodName)) ∈ bg := tm_2 (List.mem_of_getElem? (i := 193) rfl) rfl
theorem tw_434 : (Jvm.Cond.instanceMethod ({ cls := "WideWholes", name := "compare", desc := "(II)I" } : Jvm.MethodName)) ∈ bg := tm_2 (List.mem_of_getElem? (i := 194) rfl) rfl
theorem tw_435 : (Jvm.Cond.selects "WideWholes" ({ cls := "WideWholes", name := "compare", desc := "(II)I" } : Jvm.MethodName) ({ cls := "WideWholes", name := "compare", desc := "(II)I" } : Jvm.MethodName)) ∈ bg := tm_2 (List.mem_of_getElem? (i := 195) rfl) rfl
theorem tw_436 : (Jvm.Cond.code ({ cls := "WideWholes", name := "compare", desc := "(II)I" } : Jvm.MethodName) prog_1_method_10_code (3 : Nat) (Option.some Jvm.ClassFile.FieldType.int)) ∈ bg := tm_2 (List.mem_of_getElem? (i := 196) rfl) rfl
theorem tw_437 : (Jvm.Cond.methodLink "WideWholes" (150 : Nat) ({ cls := "WideWholes$Whole", name := "order", desc := "(LWideWholes$Whole;LWideWholes$Whole;)I" } : Jvm.MethodName)) ∈ bg := tm_2 (List.mem_of_getElem? (i := 197) rfl) rfl
theorem tw_438 : (Jvm.Cond.static ({ cls := "WideWholes$Whole", name := "order", desc := "(LWideWholes$Whole;LWideWholes$Whole;)I" } : Jvm.MethodName)) ∈ bg := tm_2 (List.mem_of_getElem? (i := 198) rfl) rfl
theorem tw_439 : (Jvm.Cond.code ({ cls := "WideWholes$Whole", name := "order", desc := "(LWideWholes$Whole;LWideWholes$Whole;)I" } : Jvm.MethodName) prog_10_method_22_code (2 : Nat) (Option.some Jvm.ClassFile.FieldType.int)) ∈ bg := tm_2 (List.mem_of_getElem? (i := 199) rfl) rfl
theorem tw_440 : (Jvm.Cond.methodLink "WideWholes$Whole" (52 : Nat) ({ cls := "WideWholes$Whole", name := "orderSizes", desc := "(LWideWholes$Whole;LWideWholes$Whole;)I" } : Jvm.MethodName)) ∈ bg := tm_2 (List.mem_of_getElem? (i := 200) rfl) rfl
theorem tw_441 : (Jvm.Cond.static ({ cls := "WideWholes$Whole", name := "orderSizes", desc := "(LWideWholes$Whole;LWideWholes$Whole;)I" } : Jvm.MethodName)) ∈ bg := tm_2 (List.mem_of_getElem? (i := 201) rfl) rfl
theorem tw_442 : (Jvm.Cond.code ({ cls := "WideWholes$Whole", name := "orderSizes", desc := "(LWideWholes$Whole;LWideWholes$Whole;)I" } : Jvm.MethodName) prog_10_method_21_code (3 : Nat) (Option.some Jvm.ClassFile.FieldType.int)) ∈ bg := tm_2 (List.mem_of_getElem? (i := 202) rfl) rfl
theorem tw_443 : (Jvm.Cond.methodLink "WideWholesLaw" (68 : Nat) ({ cls := "WideWholes", name := "act", desc := "(IIII)I" } : Jvm.MethodName)) ∈ bg := tm_2 (List.mem_of_getElem? (i := 203) rfl) rfl
theorem tw_444 : (Jvm.Cond.instanceMethod ({ cls := "WideWholes", name := "act", desc := "(IIII)I" } : Jvm.MethodName)) ∈ bg := tm_2 (List.mem_of_getElem? (i := 204) rfl) rfl
theorem tw_445 : (Jvm.Cond.selects "WideWholes" ({ cls := "WideWholes", name := "act", desc := "(IIII)I" } : Jvm.MethodName) ({ cls := "WideWholes", name := "act", desc := "(IIII)I" } : Jvm.MethodName)) ∈ bg := tm_2 (List.mem_of_getElem? (i := 205) rfl) rfl
theorem tw_446 : (Jvm.Cond.code ({ cls := "WideWholes", name := "act", desc := "(IIII)I" } : Jvm.MethodName) prog_1_method_11_code (5 : Nat) (Option.some Jvm.ClassFile.FieldType.int)) ∈ bg := tm_2 (List.mem_of_getElem? (i := 206) rfl) rfl
theorem tw_447 : (Jvm.Cond.methodLink "WideWholes" (154 : Nat) ({ cls := "WideWholes", name := "areSlots", desc := "(III)Z" } : Jvm.MethodName)) ∈ bg := tm_2 (List.mem_of_getElem? (i := 207) rfl) rfl
theorem tw_448 : (Jvm.Cond.static ({ cls := "WideWholes", name := "areSlots", desc := "(III)Z" } : Jvm.MethodName)) ∈ bg := tm_2 (List.mem_of_getElem? (i := 208) rfl) rfl
theorem tw_449 : (Jvm.Cond.code ({ cls := "WideWholes", name := "areSlots", desc := "(III)Z" } : Jvm.MethodName) prog_1_method_30_code (3 : Nat) (Option.some Jvm.ClassFile.FieldType.boolean)) ∈ bg := tm_2 (List.mem_of_getElem? (i := 209) rfl) rfl
theorem tw_450 : (Jvm.Cond.methodLink "WideWholes" (158 : Nat) ({ cls := "WideWholes$Whole", name := "sum", desc := "(LWideWholes$Whole;LWideWholes$Whole;LWideWholes$Whole;)V" } : Jvm.MethodName)) ∈ bg := tm_2 (List.mem_of_getElem? (i := 210) rfl) rfl
theorem tw_451 : (Jvm.Cond.static ({ cls := "WideWholes$Whole", name := "sum", desc := "(LWideWholes$Whole;LWideWholes$Whole;LWideWholes$Whole;)V" } : Jvm.MethodName)) ∈ bg := tm_2 (List.mem_of_getElem? (i := 211) rfl) rfl
theorem tw_452 : (Jvm.Cond.code ({ cls := "WideWholes$Whole", name := "sum", desc := "(LWideWholes$Whole;LWideWholes$Whole;LWideWholes$Whole;)V" } : Jvm.MethodName) prog_10_method_23_code (3 : Nat) (Option.none : Option Jvm.ClassFile.FieldType)) ∈ bg := tm_2 (List.mem_of_getElem? (i := 212) rfl) rfl
theorem tw_453 : (Jvm.Cond.methodLink "WideWholes$Whole" (56 : Nat) ({ cls := "WideWholes$Whole", name := "combine", desc := "(LWideWholes$Whole;LWideWholes$Whole;ZLWideWholes$Whole;)V" } : Jvm.MethodName)) ∈ bg := tm_2 (List.mem_of_getElem? (i := 213) rfl) rfl
theorem tw_454 : (Jvm.Cond.static ({ cls := "WideWholes$Whole", name := "combine", desc := "(LWideWholes$Whole;LWideWholes$Whole;ZLWideWholes$Whole;)V" } : Jvm.MethodName)) ∈ bg := tm_2 (List.mem_of_getElem? (i := 214) rfl) rfl
theorem tw_455 : (Jvm.Cond.code ({ cls := "WideWholes$Whole", name := "combine", desc := "(LWideWholes$Whole;LWideWholes$Whole;ZLWideWholes$Whole;)V" } : Jvm.MethodName) prog_10_method_25_code (5 : Nat) (Option.none : Option Jvm.ClassFile.FieldType)) ∈ bg := tm_2 (List.mem_of_getElem? (i := 215) rfl) rfl
theorem tw_456 : (Jvm.Cond.methodLink "WideWholes$Whole" (60 : Nat) ({ cls := "WideWholes$Whole", name := "addSizes", desc := "(LWideWholes$Whole;LWideWholes$Whole;LWideWholes$Whole;)V" } : Jvm.MethodName)) ∈ bg := tm_2 (List.mem_of_getElem? (i := 216) rfl) rfl
theorem tw_457 : (Jvm.Cond.static ({ cls := "WideWholes$Whole", name := "addSizes", desc := "(LWideWholes$Whole;LWideWholes$Whole;LWideWholes$Whole;)V" } : Jvm.MethodName)) ∈ bg := tm_2 (List.mem_of_getElem? (i := 217) rfl) rfl
theorem tw_458 : (Jvm.Cond.code ({ cls := "WideWholes$Whole", name := "addSizes", desc := "(LWideWholes$Whole;LWideWholes$Whole;LWideWholes$Whole;)V" } : Jvm.MethodName) prog_10_method_26_code (9 : Nat) (Option.none : Option Jvm.ClassFile.FieldType)) ∈ bg := tm_2 (List.mem_of_getElem? (i := 218) rfl) rfl
theorem tw_459 : (Jvm.Cond.methodLink "WideWholes$Whole" (67 : Nat) ({ cls := "java/lang/Math", name := "max", desc := "(II)I" } : Jvm.MethodName)) ∈ bg := tm_2 (List.mem_of_getElem? (i := 219) rfl) rfl
theorem tw_460 : (Jvm.Cond.static ({ cls := "java/lang/Math", name := "max", desc := "(II)I" } : Jvm.MethodName)) ∈ bg := tm_2 (List.mem_of_getElem? (i := 220) rfl) rfl
theorem tw_461 : (Jvm.Cond.code ({ cls := "java/lang/Math", name := "max", desc := "(II)I" } : Jvm.MethodName) prog_18_method_65_code (2 : Nat) (Option.some Jvm.ClassFile.FieldType.int)) ∈ bg := tm_2 (List.mem_of_getElem? (i := 221) rfl) rfl
theorem tw_462 : (Jvm.Cond.methodLink "WideWholes$Whole" (73 : Nat) ({ cls := "java/lang/Math", name := "min", desc := "(II)I" } : Jvm.MethodName)) ∈ bg := tm_2 (List.mem_of_getElem? (i := 222) rfl) rfl
theorem tw_463 : (Jvm.Cond.static ({ cls := "java/lang/Math", name := "min", desc := "(II)I" } : Jvm.MethodName)) ∈ bg := tm_2 (List.mem_of_getElem? (i := 223) rfl) rfl
theorem tw_464 : (Jvm.Cond.code ({ cls := "java/lang/Math", name := "min", desc := "(II)I" } : Jvm.MethodName) prog_18_method_69_code (2 : Nat) (Option.some Jvm.ClassFile.FieldType.int)) ∈ bg := tm_2 (List.mem_of_getElem? (i := 224) rfl) rfl
theorem tw_465 : (Jvm.Cond.methodLink "WideWholes$Whole" (64 : Nat) ({ cls := "WideWholes$Whole", name := "subtractSizes", desc := "(LWideWholes$Whole;LWideWholes$Whole;LWideWholes$Whole;)V" } : Jvm.MethodName)) ∈ bg := tm_2 (List.mem_of_getElem? (i := 225) rfl) rfl
theorem tw_466 : (Jvm.Cond.static ({ cls := "WideWholes$Whole", name := "subtractSizes", desc := "(LWideWholes$Whole;LWideWholes$Whole;LWideWholes$Whole;)V" } : Jvm.MethodName)) ∈ bg := tm_2 (List.mem_of_getElem? (i := 226) rfl) rfl
theorem tw_467 : (Jvm.Cond.code ({ cls := "WideWholes$Whole", name := "subtractSizes", desc := "(LWideWholes$Whole;LWideWholes$Whole;LWideWholes$Whole;)V" } : Jvm.MethodName) prog_10_method_27_code (9 : Nat) (Option.none : Option Jvm.ClassFile.FieldType)) ∈ bg := tm_2 (List.mem_of_getElem? (i := 227) rfl) rfl
theorem tw_468 : (Jvm.Cond.methodLink "WideWholes" (162 : Nat) ({ cls := "WideWholes$Whole", name := "difference", desc := "(LWideWholes$Whole;LWideWholes$Whole;LWideWholes$Whole;)V" } : Jvm.MethodName)) ∈ bg := tm_2 (List.mem_of_getElem? (i := 228) rfl) rfl
theorem tw_469 : (Jvm.Cond.static ({ cls := "WideWholes$Whole", name := "difference", desc := "(LWideWholes$Whole;LWideWholes$Whole;LWideWholes$Whole;)V" } : Jvm.MethodName)) ∈ bg := tm_2 (List.mem_of_getElem? (i := 229) rfl) rfl
theorem tw_470 : (Jvm.Cond.code ({ cls := "WideWholes$Whole", name := "difference", desc := "(LWideWholes$Whole;LWideWholes$Whole;LWideWholes$Whole;)V" } : Jvm.MethodName) prog_10_method_24_code (3 : Nat) (Option.none : Option Jvm.ClassFile.FieldType)) ∈ bg := tm_2 (List.mem_of_getElem? (i := 230) rfl) rfl
theorem tw_471 : (Jvm.Cond.methodLink "WideWholes" (165 : Nat) ({ cls := "WideWholes$Whole", name := "product", desc := "(LWideWholes$Whole;LWideWholes$Whole;LWideWholes$Whole;)V" } : Jvm.MethodName)) ∈ bg := tm_2 (List.mem_of_getElem? (i := 231) rfl) rfl
theorem tw_472 : (Jvm.Cond.static ({ cls := "WideWholes$Whole", name := "product", desc := "(LWideWholes$Whole;LWideWholes$Whole;LWideWholes$Whole;)V" } : Jvm.MethodName)) ∈ bg := tm_2 (List.mem_of_getElem? (i := 232) rfl) rfl
theorem tw_473 : (Jvm.Cond.code ({ cls := "WideWholes$Whole", name := "product", desc := "(LWideWholes$Whole;LWideWholes$Whole;LWideWholes$Whole;)V" } : Jvm.MethodName) prog_10_method_28_code (12 : Nat) (Option.none : Option Jvm.ClassFile.FieldType)) ∈ bg := tm_2 (List.mem_of_getElem? (i := 233) rfl) rfl
theorem tw_474 : (Jvm.Cond.methodLink "WideWholesLaw" (73 : Nat) ({ cls := "WideWholes", name := "over", desc := "(IIIII)I" } : Jvm.MethodName)) ∈ bg := tm_2 (List.mem_of_getElem? (i := 234) rfl) rfl
theorem tw_475 : (Jvm.Cond.instanceMethod ({ cls := "WideWholes", name := "over", desc := "(IIIII)I" } : Jvm.MethodName)) ∈ bg := tm_2 (List.mem_of_getElem? (i := 235) rfl) rfl
theorem tw_476 : (Jvm.Cond.selects "WideWholes" ({ cls := "WideWholes", name := "over", desc := "(IIIII)I" } : Jvm.MethodName) ({ cls := "WideWholes", name := "over", desc := "(IIIII)I" } : Jvm.MethodName)) ∈ bg := tm_2 (List.mem_of_getElem? (i := 236) rfl) rfl
theorem tw_477 : (Jvm.Cond.code ({ cls := "WideWholes", name := "over", desc := "(IIIII)I" } : Jvm.MethodName) prog_1_method_12_code (6 : Nat) (Option.some Jvm.ClassFile.FieldType.int)) ∈ bg := tm_2 (List.mem_of_getElem? (i := 237) rfl) rfl
theorem tw_478 : (Jvm.Cond.methodLink "WideWholes" (168 : Nat) ({ cls := "WideWholes$Whole", name := "isZero", desc := "()Z" } : Jvm.MethodName)) ∈ bg := tm_2 (List.mem_of_getElem? (i := 238) rfl) rfl
theorem tw_479 : (Jvm.Cond.methodLink "WideWholes" (171 : Nat) ({ cls := "WideWholes$Division", name := "divide", desc := "(ILWideWholes$Whole;LWideWholes$Whole;)V" } : Jvm.MethodName)) ∈ bg := tm_2 (List.mem_of_getElem? (i := 239) rfl) rfl
theorem tw_480 : (Jvm.Cond.instanceMethod ({ cls := "WideWholes$Division", name := "divide", desc := "(ILWideWholes$Whole;LWideWholes$Whole;)V" } : Jvm.MethodName)) ∈ bg := tm_3 (List.mem_of_getElem? (i := 0) rfl) rfl
theorem tw_481 : (Jvm.Cond.selects "WideWholes$Division" ({ cls := "WideWholes$Division", name := "divide", desc := "(ILWideWholes$Whole;LWideWholes$Whole;)V" } : Jvm.MethodName) ({ cls := "WideWholes$Division", name := "divide", desc := "(ILWideWholes$Whole;LWideWholes$Whole;)V" } : Jvm.MethodName)) ∈ bg := tm_3 (List.mem_of_getElem? (i := 1) rfl) rfl
theorem tw_482 : (Jvm.Cond.code ({ cls := "WideWholes$Division", name := "divide", desc := "(ILWideWholes$Whole;LWideWholes$Whole;)V" } : Jvm.MethodName) prog_2_method_2_code (7 : Nat) (Option.none : Option Jvm.ClassFile.FieldType)) ∈ bg := tm_3 (List.mem_of_getElem? (i := 2) rfl) rfl
theorem tw_483 : (Jvm.Cond.methodLink "WideWholes$Division" (35 : Nat) ({ cls := "WideWholes$Division", name := "divideSizes", desc := "(LWideWholes$Whole;LWideWholes$Whole;)V" } : Jvm.MethodName)) ∈ bg := tm_3 (List.mem_of_getElem? (i := 3) rfl) rfl
theorem tw_484 : (Jvm.Cond.instanceMethod ({ cls := "WideWholes$Division", name := "divideSizes", desc := "(LWideWholes$Whole;LWideWholes$Whole;)V" } : Jvm.MethodName)) ∈ bg := tm_3 (List.mem_of_getElem? (i := 4) rfl) rfl
theorem tw_485 : (Jvm.Cond.selects "WideWholes$Division" ({ cls := "WideWholes$Division", name := "divideSizes", desc := "(LWideWholes$Whole;LWideWholes$Whole;)V" } : Jvm.MethodName) ({ cls := "WideWholes$Division", name := "divideSizes", desc := "(LWideWholes$Whole;LWideWholes$Whole;)V" } : Jvm.MethodName)) ∈ bg := tm_3 (List.mem_of_getElem? (i := 5) rfl) rfl
theorem tw_486 : (Jvm.Cond.code ({ cls := "WideWholes$Division", name := "divideSizes", desc := "(LWideWholes$Whole;LWideWholes$Whole;)V" } : Jvm.MethodName) prog_2_method_3_code (3 : Nat) (Option.none : Option Jvm.ClassFile.FieldType)) ∈ bg := tm_3 (List.mem_of_getElem? (i := 6) rfl) rfl
theorem tw_487 : (Jvm.Cond.methodLink "WideWholes$Division" (47 : Nat) ({ cls := "WideWholes$Whole", name := "isZero", desc := "()Z" } : Jvm.MethodName)) ∈ bg := tm_3 (List.mem_of_getElem? (i := 7) rfl) rfl
theorem tw_488 : (Jvm.Cond.methodLink "WideWholes$Division" (58 : Nat) ({ cls := "WideWholes$Whole", name := "orderSizes", desc := "(LWideWholes$Whole;LWideWholes$Whole;)I" } : Jvm.MethodName)) ∈ bg := tm_3 (List.mem_of_getElem? (i := 8) rfl) rfl
theorem tw_489 : (Jvm.Cond.methodLink "WideWholes$Division" (62 : Nat) ({ cls := "WideWholes$Whole", name := "copy", desc := "(LWideWholes$Whole;)V" } : Jvm.MethodName)) ∈ bg := tm_3 (List.mem_of_getElem? (i := 9) rfl) rfl
theorem tw_490 : (Jvm.Cond.methodLink "WideWholes$Division" (70 : Nat) ({ cls := "WideWholes$Whole", name := "partAt", desc := "(I)J" } : Jvm.MethodName)) ∈ bg := tm_3 (List.mem_of_getElem? (i := 10) rfl) rfl
theorem tw_491 : (Jvm.Cond.methodLink "WideWholes$Division" (74 : Nat) ({ cls := "WideWholes$Whole", name := "shrink", desc := "(J)J" } : Jvm.MethodName)) ∈ bg := tm_3 (List.mem_of_getElem? (i := 11) rfl) rfl
theorem tw_492 : (Jvm.Cond.methodLink "WideWholes$Division" (78 : Nat) ({ cls := "WideWholes$Division", name := "divideLong", desc := "(LWideWholes$Whole;LWideWholes$Whole;)V" } : Jvm.MethodName)) ∈ bg := tm_3 (List.mem_of_getElem? (i := 12) rfl) rfl
theorem tw_494 : (Jvm.Cond.instanceMethod ({ cls := "WideWholes$Division", name := "divideLong", desc := "(LWideWholes$Whole;LWideWholes$Whole;)V" } : Jvm.MethodName)) ∈ bg := tm_3 (List.mem_of_getElem? (i := 14) rfl) rfl
theorem tw_495 : (Jvm.Cond.code ({ cls := "WideWholes$Division", name := "divideLong", desc := "(LWideWholes$Whole;LWideWholes$Whole;)V" } : Jvm.MethodName) prog_2_method_4_code (7 : Nat) (Option.none : Option Jvm.ClassFile.FieldType)) ∈ bg := tm_3 (List.mem_of_getElem? (i := 15) rfl) rfl
theorem tw_496 : (Jvm.Cond.methodLink "WideWholes$Division" (81 : Nat) ({ cls := "WideWholes$Whole", name := "bitsOf", desc := "(J)I" } : Jvm.MethodName)) ∈ bg := tm_3 (List.mem_of_getElem? (i := 16) rfl) rfl
theorem tw_497 : (Jvm.Cond.static ({ cls := "WideWholes$Whole", name := "bitsOf", desc := "(J)I" } : Jvm.MethodName)) ∈ bg := tm_3 (List.mem_of_getElem? (i := 17) rfl) rfl
theorem tw_498 : (Jvm.Cond.code ({ cls := "WideWholes$Whole", name := "bitsOf", desc := "(J)I" } : Jvm.MethodName) prog_10_method_19_code (4 : Nat) (Option.some Jvm.ClassFile.FieldType.int)) ∈ bg := tm_3 (List.mem_of_getElem? (i := 18) rfl) rfl
theorem tw_499 : (Jvm.Cond.methodLink "WideWholes$Whole" (47 : Nat) ({ cls := "java/lang/Long", name := "bitCount", desc := "(J)I" } : Jvm.MethodName)) ∈ bg := tm_3 (List.mem_of_getElem? (i := 19) rfl) rfl
theorem tw_500 : (Jvm.Cond.static ({ cls := "java/lang/Long", name := "bitCount", desc := "(J)I" } : Jvm.MethodName)) ∈ bg := tm_3 (List.mem_of_getElem? (i := 20) rfl) rfl
theorem tw_501 : (Jvm.Cond.code ({ cls := "java/lang/Long", name := "bitCount", desc := "(J)I" } : Jvm.MethodName) prog_17_method_50_code (2 : Nat) (Option.some Jvm.ClassFile.FieldType.int)) ∈ bg := tm_3 (List.mem_of_getElem? (i := 21) rfl) rfl
theorem tw_502 : (Jvm.Cond.constantLong "java/lang/Long" (314 : Nat) (6148914691236517205 : Int64)) ∈ bg := tm_3 (List.mem_of_getElem? (i := 22) rfl) rfl
theorem tw_503 : (Jvm.Cond.constantLong "java/lang/Long" (316 : Nat) (3689348814741910323 : Int64)) ∈ bg := tm_3 (List.mem_of_getElem? (i := 23) rfl) rfl
theorem tw_504 : (Jvm.Cond.constantLong "java/lang/Long" (318 : Nat) (1085102592571150095 : Int64)) ∈ bg := tm_3 (List.mem_of_getElem? (i := 24) rfl) rfl
theorem tw_505 : (Jvm.Cond.methodLink "WideWholes$Division" (85 : Nat) ({ cls := "WideWholes$Whole", name := "movedPart", desc := "(II)J" } : Jvm.MethodName)) ∈ bg := tm_3 (List.mem_of_getElem? (i := 25) rfl) rfl
theorem tw_506 : (Jvm.Cond.instanceMethod ({ cls := "WideWholes$Whole", name := "movedPart", desc := "(II)J" } : Jvm.MethodName)) ∈ bg := tm_3 (List.mem_of_getElem? (i := 26) rfl) rfl
theorem tw_507 : (Jvm.Cond.selects "WideWholes$Whole" ({ cls := "WideWholes$Whole", name := "movedPart", desc := "(II)J" } : Jvm.MethodName) ({ cls := "WideWholes$Whole", name := "movedPart", desc := "(II)J" } : Jvm.MethodName)) ∈ bg := tm_3 (List.mem_of_getElem? (i := 27) rfl) rfl
theorem tw_508 : (Jvm.Cond.code ({ cls := "WideWholes$Whole", name := "movedPart", desc := "(II)J" } : Jvm.MethodName) prog_10_method_14_code (5 : Nat) (Option.some Jvm.ClassFile.FieldType.long)) ∈ bg := tm_3 (List.mem_of_getElem? (i := 28) rfl) rfl
theorem tw_509 : (Jvm.Cond.methodLink "WideWholes$Division" (92 : Nat) ({ cls := "WideWholes$Division", name := "guess", desc := "(II)J" } : Jvm.MethodName)) ∈ bg := tm_3 (List.mem_of_getElem? (i := 29) rfl) rfl
theorem tw_511 : (Jvm.Cond.instanceMethod ({ cls := "WideWholes$Division", name := "guess", desc := "(II)J" } : Jvm.MethodName)) ∈ bg := tm_3 (List.mem_of_getElem? (i := 31) rfl) rfl
theorem tw_512 : (Jvm.Cond.code ({ cls := "WideWholes$Division", name := "guess", desc := "(II)J" } : Jvm.MethodName) prog_2_method_5_code (18 : Nat) (Option.some Jvm.ClassFile.FieldType.long)) ∈ bg := tm_3 (List.mem_of_getElem? (i := 32) rfl) rfl
theorem tw_513 : (Jvm.Cond.methodLink "WideWholes$Division" (105 : Nat) ({ cls := "WideWholes$Whole", name := "quotientOfBits", desc := "(JJ)J" } : Jvm.MethodName)) ∈ bg := tm_3 (List.mem_of_getElem? (i := 33) rfl) rfl
theorem tw_514 : (Jvm.Cond.constantLong "WideWholes$Division" (103 : Nat) (4294967295 : Int64)) ∈ bg := tm_3 (List.mem_of_getElem? (i := 34) rfl) rfl
theorem tw_515 : (Jvm.Cond.constantLong "WideWholes$Division" (109 : Nat) (-9223372036854775808 : Int64)) ∈ bg := tm_3 (List.mem_of_getElem? (i := 35) rfl) rfl
theorem tw_516 : (Jvm.Cond.methodLink "WideWholes$Division" (95 : Nat) ({ cls := "WideWholes$Division", name := "takeAway", desc := "(IIJ)J" } : Jvm.MethodName)) ∈ bg := tm_3 (List.mem_of_getElem? (i := 36) rfl) rfl
theorem tw_518 : (Jvm.Cond.instanceMethod ({ cls := "WideWholes$Division", name := "takeAway", desc := "(IIJ)J" } : Jvm.MethodName)) ∈ bg := tm_3 (List.mem_of_getElem? (i := 38) rfl) rfl
theorem tw_519 : (Jvm.Cond.code ({ cls := "WideWholes$Division", name := "takeAway", desc := "(IIJ)J" } : Jvm.MethodName) prog_2_method_6_code (14 : Nat) (Option.some Jvm.ClassFile.FieldType.long)) ∈ bg := tm_3 (List.mem_of_getElem? (i := 39) rfl) rfl
theorem tw_520 : (Jvm.Cond.methodLink "WideWholes$Division" (111 : Nat) ({ cls := "WideWholes$Division", name := "giveBack", desc := "(II)V" } : Jvm.MethodName)) ∈ bg := tm_3 (List.mem_of_getElem? (i := 40) rfl) rfl
theorem tw_522 : (Jvm.Cond.instanceMethod ({ cls := "WideWholes$Division", name := "giveBack", desc := "(II)V" } : Jvm.MethodName)) ∈ bg := tm_3 (List.mem_of_getElem? (i := 42) rfl) rfl
theorem tw_523 : (Jvm.Cond.code ({ cls := "WideWholes$Division", name := "giveBack", desc := "(II)V" } : Jvm.MethodName) prog_2_method_7_code (8 : Nat) (Option.none : Option Jvm.ClassFile.FieldType)) ∈ bg := tm_3 (List.mem_of_getElem? (i := 43) rfl) rfl
theorem tw_524 : (Jvm.Cond.methodLink "WideWholes$Division" (99 : Nat) ({ cls := "WideWholes$Whole", name := "trim", desc := "(I)V" } : Jvm.MethodName)) ∈ bg := tm_3 (List.mem_of_getElem? (i := 44) rfl) rfl
theorem tw_525 : (Jvm.Cond.methodLink "WideWholes$Division" (43 : Nat) ({ cls := "WideWholes$Whole", name := "takeSign", desc := "(Z)V" } : Jvm.MethodName)) ∈ bg := tm_3 (List.mem_of_getElem? (i := 45) rfl) rfl
theorem tw_526 : (Jvm.Cond.methodLink "WideWholes$Division" (51 : Nat) ({ cls := "WideWholes$Whole", name := "difference", desc := "(LWideWholes$Whole;LWideWholes$Whole;LWideWholes$Whole;)V" } : Jvm.MethodName)) ∈ bg := tm_3 (List.mem_of_getElem? (i := 46) rfl) rfl
theorem tw_527 : (Jvm.Cond.methodLink "WideWholes$Division" (55 : Nat) ({ cls := "WideWholes$Whole", name := "sum", desc := "(LWideWholes$Whole;LWideWholes$Whole;LWideWholes$Whole;)V" } : Jvm.MethodName)) ∈ bg := tm_3 (List.mem_of_getElem? (i := 47) rfl) rfl
theorem tw_528 : (Jvm.Cond.methodLink "WideWholesLaw" (78 : Nat) ({ cls := "WideWholes", name := "divisor", desc := "(III)I" } : Jvm.MethodName)) ∈ bg := tm_3 (List.mem_of_getElem? (i := 48) rfl) rfl
theorem tw_529 : (Jvm.Cond.instanceMethod ({ cls := "WideWholes", name := "divisor", desc := "(III)I" } : Jvm.MethodName)) ∈ bg := tm_3 (List.mem_of_getElem? (i := 49) rfl) rfl
theorem tw_530 : (Jvm.Cond.selects "WideWholes" ({ cls := "WideWholes", name := "divisor", desc := "(III)I" } : Jvm.MethodName) ({ cls := "WideWholes", name := "divisor", desc := "(III)I" } : Jvm.MethodName)) ∈ bg := tm_3 (List.mem_of_getElem? (i := 50) rfl) rfl
theorem tw_531 : (Jvm.Cond.code ({ cls := "WideWholes", name := "divisor", desc := "(III)I" } : Jvm.MethodName) prog_1_method_13_code (4 : Nat) (Option.some Jvm.ClassFile.FieldType.int)) ∈ bg := tm_3 (List.mem_of_getElem? (i := 51) rfl) rfl
theorem tw_532 : (Jvm.Cond.methodLink "WideWholes" (188 : Nat) ({ cls := "WideWholes$Powers", name := "commonDivisor", desc := "(LWideWholes$Whole;LWideWholes$Whole;LWideWholes$Whole;)V" } : Jvm.MethodName)) ∈ bg := tm_3 (List.mem_of_getElem? (i := 52) rfl) rfl
theorem tw_533 : (Jvm.Cond.instanceMethod ({ cls := "WideWholes$Powers", name := "commonDivisor", desc := "(LWideWholes$Whole;LWideWholes$Whole;LWideWholes$Whole;)V" } : Jvm.MethodName)) ∈ bg := tm_3 (List.mem_of_getElem? (i := 53) rfl) rfl
theorem tw_534 : (Jvm.Cond.selects "WideWholes$Powers" ({ cls := "WideWholes$Powers", name := "commonDivisor", desc := "(LWideWholes$Whole;LWideWholes$Whole;LWideWholes$Whole;)V" } : Jvm.MethodName) ({ cls := "WideWholes$Powers", name := "commonDivisor", desc := "(LWideWholes$Whole;LWideWholes$Whole;LWideWholes$Whole;)V" } : Jvm.MethodName)) ∈ bg := tm_3 (List.mem_of_getElem? (i := 54) rfl) rfl
theorem tw_535 : (Jvm.Cond.code ({ cls := "WideWholes$Powers", name := "commonDivisor", desc := "(LWideWholes$Whole;LWideWholes$Whole;LWideWholes$Whole;)V" } : Jvm.MethodName) prog_5_method_7_code (5 : Nat) (Option.none : Option Jvm.ClassFile.FieldType)) ∈ bg := tm_3 (List.mem_of_getElem? (i := 55) rfl) rfl
theorem tw_536 : (Jvm.Cond.methodLink "WideWholes$Powers" (55 : Nat) ({ cls := "WideWholes$Whole", name := "copy", desc := "(LWideWholes$Whole;)V" } : Jvm.MethodName)) ∈ bg := tm_3 (List.mem_of_getElem? (i := 56) rfl) rfl
theorem tw_537 : (Jvm.Cond.methodLink "WideWholes$Powers" (98 : Nat) ({ cls := "WideWholes$Whole", name := "takeSign", desc := "(Z)V" } : Jvm.MethodName)) ∈ bg := tm_3 (List.mem_of_getElem? (i := 57) rfl) rfl
theorem tw_538 : (Jvm.Cond.methodLink "WideWholes$Powers" (63 : Nat) ({ cls := "WideWholes$Whole", name := "isZero", desc := "()Z" } : Jvm.MethodName)) ∈ bg := tm_3 (List.mem_of_getElem? (i := 58) rfl) rfl
theorem tw_539 : (Jvm.Cond.methodLink "WideWholes$Powers" (95 : Nat) ({ cls := "WideWholes$Division", name := "divideSizes", desc := "(LWideWholes$Whole;LWideWholes$Whole;)V" } : Jvm.MethodName)) ∈ bg := tm_3 (List.mem_of_getElem? (i := 59) rfl) rfl
theorem tw_540 : (Jvm.Cond.methodLink "WideWholesLaw" (83 : Nat) ({ cls := "WideWholes", name := "power", desc := "(III)I" } : Jvm.MethodName)) ∈ bg := tm_3 (List.mem_of_getElem? (i := 60) rfl) rfl
theorem tw_541 : (Jvm.Cond.instanceMethod ({ cls := "WideWholes", name := "power", desc := "(III)I" } : Jvm.MethodName)) ∈ bg := tm_3 (List.mem_of_getElem? (i := 61) rfl) rfl
theorem tw_542 : (Jvm.Cond.selects "WideWholes" ({ cls := "WideWholes", name := "power", desc := "(III)I" } : Jvm.MethodName) ({ cls := "WideWholes", name := "power", desc := "(III)I" } : Jvm.MethodName)) ∈ bg := tm_3 (List.mem_of_getElem? (i := 62) rfl) rfl
theorem tw_543 : (Jvm.Cond.code ({ cls := "WideWholes", name := "power", desc := "(III)I" } : Jvm.MethodName) prog_1_method_14_code (4 : Nat) (Option.some Jvm.ClassFile.FieldType.int)) ∈ bg := tm_3 (List.mem_of_getElem? (i := 63) rfl) rfl
theorem tw_544 : (Jvm.Cond.methodLink "WideWholes" (191 : Nat) ({ cls := "WideWholes$Powers", name := "raise", desc := "(LWideWholes$Whole;I)Z" } : Jvm.MethodName)) ∈ bg := tm_3 (List.mem_of_getElem? (i := 64) rfl) rfl
theorem tw_545 : (Jvm.Cond.instanceMethod ({ cls := "WideWholes$Powers", name := "raise", desc := "(LWideWholes$Whole;I)Z" } : Jvm.MethodName)) ∈ bg := tm_3 (List.mem_of_getElem? (i := 65) rfl) rfl
theorem tw_546 : (Jvm.Cond.selects "WideWholes$Powers" ({ cls := "WideWholes$Powers", name := "raise", desc := "(LWideWholes$Whole;I)Z" } : Jvm.MethodName) ({ cls := "WideWholes$Powers", name := "raise", desc := "(LWideWholes$Whole;I)Z" } : Jvm.MethodName)) ∈ bg := tm_3 (List.mem_of_getElem? (i := 66) rfl) rfl
theorem tw_547 : (Jvm.Cond.code ({ cls := "WideWholes$Powers", name := "raise", desc := "(LWideWholes$Whole;I)Z" } : Jvm.MethodName) prog_5_method_2_code (4 : Nat) (Option.some Jvm.ClassFile.FieldType.boolean)) ∈ bg := tm_3 (List.mem_of_getElem? (i := 67) rfl) rfl
theorem tw_548 : (Jvm.Cond.methodLink "WideWholes$Powers" (40 : Nat) ({ cls := "WideWholes$Whole", name := "become", desc := "(J)V" } : Jvm.MethodName)) ∈ bg := tm_3 (List.mem_of_getElem? (i := 68) rfl) rfl
theorem tw_549 : (Jvm.Cond.methodLink "WideWholes$Powers" (44 : Nat) ({ cls := "WideWholes$Whole", name := "bitsOf", desc := "(J)I" } : Jvm.MethodName)) ∈ bg := tm_3 (List.mem_of_getElem? (i := 69) rfl) rfl
theorem tw_550 : (Jvm.Cond.methodLink "WideWholes$Powers" (48 : Nat) ({ cls := "WideWholes$Powers", name := "multiplyBy", desc := "(LWideWholes$Whole;)Z" } : Jvm.MethodName)) ∈ bg := tm_3 (List.mem_of_getElem? (i := 70) rfl) rfl
theorem tw_552 : (Jvm.Cond.instanceMethod ({ cls := "WideWholes$Powers", name := "multiplyBy", desc := "(LWideWholes$Whole;)Z" } : Jvm.MethodName)) ∈ bg := tm_3 (List.mem_of_getElem? (i := 72) rfl) rfl
theorem tw_553 : (Jvm.Cond.code ({ cls := "WideWholes$Powers", name := "multiplyBy", desc := "(LWideWholes$Whole;)Z" } : Jvm.MethodName) prog_5_method_3_code (2 : Nat) (Option.some Jvm.ClassFile.FieldType.boolean)) ∈ bg := tm_3 (List.mem_of_getElem? (i := 73) rfl) rfl
theorem tw_554 : (Jvm.Cond.methodLink "WideWholes$Powers" (52 : Nat) ({ cls := "WideWholes$Whole", name := "product", desc := "(LWideWholes$Whole;LWideWholes$Whole;LWideWholes$Whole;)V" } : Jvm.MethodName)) ∈ bg := tm_3 (List.mem_of_getElem? (i := 74) rfl) rfl
theorem tw_555 : (Jvm.Cond.methodLink "WideWholes$Powers" (59 : Nat) ({ cls := "WideWholes$Whole", name := "isWithin", desc := "()Z" } : Jvm.MethodName)) ∈ bg := tm_3 (List.mem_of_getElem? (i := 75) rfl) rfl
theorem tw_556 : (Jvm.Cond.methodLink "WideWholesLaw" (87 : Nat) ({ cls := "WideWholes", name := "root", desc := "(III)I" } : Jvm.MethodName)) ∈ bg := tm_3 (List.mem_of_getElem? (i := 76) rfl) rfl
theorem tw_557 : (Jvm.Cond.instanceMethod ({ cls := "WideWholes", name := "root", desc := "(III)I" } : Jvm.MethodName)) ∈ bg := tm_3 (List.mem_of_getElem? (i := 77) rfl) rfl
theorem tw_558 : (Jvm.Cond.selects "WideWholes" ({ cls := "WideWholes", name := "root", desc := "(III)I" } : Jvm.MethodName) ({ cls := "WideWholes", name := "root", desc := "(III)I" } : Jvm.MethodName)) ∈ bg := tm_3 (List.mem_of_getElem? (i := 78) rfl) rfl
theorem tw_559 : (Jvm.Cond.code ({ cls := "WideWholes", name := "root", desc := "(III)I" } : Jvm.MethodName) prog_1_method_15_code (5 : Nat) (Option.some Jvm.ClassFile.FieldType.int)) ∈ bg := tm_3 (List.mem_of_getElem? (i := 79) rfl) rfl
theorem tw_560 : (Jvm.Cond.methodLink "WideWholes" (200 : Nat) ({ cls := "WideWholes$Powers", name := "extract", desc := "(LWideWholes$Whole;ILWideWholes$Whole;)Z" } : Jvm.MethodName)) ∈ bg := tm_3 (List.mem_of_getElem? (i := 80) rfl) rfl
theorem tw_561 : (Jvm.Cond.instanceMethod ({ cls := "WideWholes$Powers", name := "extract", desc := "(LWideWholes$Whole;ILWideWholes$Whole;)Z" } : Jvm.MethodName)) ∈ bg := tm_3 (List.mem_of_getElem? (i := 81) rfl) rfl
theorem tw_562 : (Jvm.Cond.selects "WideWholes$Powers" ({ cls := "WideWholes$Powers", name := "extract", desc := "(LWideWholes$Whole;ILWideWholes$Whole;)Z" } : Jvm.MethodName) ({ cls := "WideWholes$Powers", name := "extract", desc := "(LWideWholes$Whole;ILWideWholes$Whole;)Z" } : Jvm.MethodName)) ∈ bg := tm_3 (List.mem_of_getElem? (i := 82) rfl) rfl
theorem tw_563 : (Jvm.Cond.code ({ cls := "WideWholes$Powers", name := "extract", desc := "(LWideWholes$Whole;ILWideWholes$Whole;)Z" } : Jvm.MethodName) prog_5_method_4_code (6 : Nat) (Option.some Jvm.ClassFile.FieldType.boolean)) ∈ bg := tm_3 (List.mem_of_getElem? (i := 83) rfl) rfl
theorem tw_564 : (Jvm.Cond.methodLink "WideWholes$Powers" (66 : Nat) ({ cls := "WideWholes$Whole", name := "sizeBits", desc := "()I" } : Jvm.MethodName)) ∈ bg := tm_3 (List.mem_of_getElem? (i := 84) rfl) rfl
theorem tw_565 : (Jvm.Cond.instanceMethod ({ cls := "WideWholes$Whole", name := "sizeBits", desc := "()I" } : Jvm.MethodName)) ∈ bg := tm_3 (List.mem_of_getElem? (i := 85) rfl) rfl
theorem tw_566 : (Jvm.Cond.selects "WideWholes$Whole" ({ cls := "WideWholes$Whole", name := "sizeBits", desc := "()I" } : Jvm.MethodName) ({ cls := "WideWholes$Whole", name := "sizeBits", desc := "()I" } : Jvm.MethodName)) ∈ bg := tm_3 (List.mem_of_getElem? (i := 86) rfl) rfl
theorem tw_567 : (Jvm.Cond.code ({ cls := "WideWholes$Whole", name := "sizeBits", desc := "()I" } : Jvm.MethodName) prog_10_method_13_code (1 : Nat) (Option.some Jvm.ClassFile.FieldType.int)) ∈ bg := tm_3 (List.mem_of_getElem? (i := 87) rfl) rfl
theorem tw_568 : (Jvm.Cond.methodLink "WideWholes$Whole" (39 : Nat) ({ cls := "WideWholes$Whole", name := "bitsOf", desc := "(J)I" } : Jvm.MethodName)) ∈ bg := tm_3 (List.mem_of_getElem? (i := 88) rfl) rfl
theorem tw_569 : (Jvm.Cond.methodLink "WideWholes$Powers" (70 : Nat) ({ cls := "WideWholes$Whole", name := "raiseBit", desc := "(I)V" } : Jvm.MethodName)) ∈ bg := tm_3 (List.mem_of_getElem? (i := 89) rfl) rfl
theorem tw_570 : (Jvm.Cond.instanceMethod ({ cls := "WideWholes$Whole", name := "raiseBit", desc := "(I)V" } : Jvm.MethodName)) ∈ bg := tm_3 (List.mem_of_getElem? (i := 90) rfl) rfl
theorem tw_571 : (Jvm.Cond.selects "WideWholes$Whole" ({ cls := "WideWholes$Whole", name := "raiseBit", desc := "(I)V" } : Jvm.MethodName) ({ cls := "WideWholes$Whole", name := "raiseBit", desc := "(I)V" } : Jvm.MethodName)) ∈ bg := tm_3 (List.mem_of_getElem? (i := 91) rfl) rfl
theorem tw_572 : (Jvm.Cond.code ({ cls := "WideWholes$Whole", name := "raiseBit", desc := "(I)V" } : Jvm.MethodName) prog_10_method_15_code (3 : Nat) (Option.none : Option Jvm.ClassFile.FieldType)) ∈ bg := tm_3 (List.mem_of_getElem? (i := 92) rfl) rfl
theorem tw_573 : (Jvm.Cond.methodLink "WideWholes$Powers" (74 : Nat) ({ cls := "WideWholes$Powers", name := "raise", desc := "(LWideWholes$Whole;I)Z" } : Jvm.MethodName)) ∈ bg := tm_3 (List.mem_of_getElem? (i := 93) rfl) rfl
theorem tw_574 : (Jvm.Cond.methodLink "WideWholes$Powers" (78 : Nat) ({ cls := "WideWholes$Whole", name := "orderSizes", desc := "(LWideWholes$Whole;LWideWholes$Whole;)I" } : Jvm.MethodName)) ∈ bg := tm_3 (List.mem_of_getElem? (i := 94) rfl) rfl
theorem tw_575 : (Jvm.Cond.methodLink "WideWholesLaw" (91 : Nat) ({ cls := "WideWholes", name := "rest", desc := "(IIII)I" } : Jvm.MethodName)) ∈ bg := tm_3 (List.mem_of_getElem? (i := 95) rfl) rfl
theorem tw_576 : (Jvm.Cond.instanceMethod ({ cls := "WideWholes", name := "rest", desc := "(IIII)I" } : Jvm.MethodName)) ∈ bg := tm_3 (List.mem_of_getElem? (i := 96) rfl) rfl
theorem tw_577 : (Jvm.Cond.selects "WideWholes" ({ cls := "WideWholes", name := "rest", desc := "(IIII)I" } : Jvm.MethodName) ({ cls := "WideWholes", name := "rest", desc := "(IIII)I" } : Jvm.MethodName)) ∈ bg := tm_3 (List.mem_of_getElem? (i := 97) rfl) rfl
theorem tw_578 : (Jvm.Cond.code ({ cls := "WideWholes", name := "rest", desc := "(IIII)I" } : Jvm.MethodName) prog_1_method_16_code (5 : Nat) (Option.some Jvm.ClassFile.FieldType.int)) ∈ bg := tm_3 (List.mem_of_getElem? (i := 98) rfl) rfl
theorem tw_579 : (Jvm.Cond.constant "WideWholes" (204 : Nat) (1000000 : Int32)) ∈ bg := tm_3 (List.mem_of_getElem? (i := 99) rfl) rfl
theorem tw_580 : (Jvm.Cond.methodLink "WideWholes" (205 : Nat) ({ cls := "WideWholes", name := "isModulus", desc := "(LWideWholes$Whole;)Z" } : Jvm.MethodName)) ∈ bg := tm_3 (List.mem_of_getElem? (i := 100) rfl) rfl
theorem tw_581 : (Jvm.Cond.static ({ cls := "WideWholes", name := "isModulus", desc := "(LWideWholes$Whole;)Z" } : Jvm.MethodName)) ∈ bg := tm_3 (List.mem_of_getElem? (i := 101) rfl) rfl
theorem tw_582 : (Jvm.Cond.code ({ cls := "WideWholes", name := "isModulus", desc := "(LWideWholes$Whole;)Z" } : Jvm.MethodName) prog_1_method_33_code (1 : Nat) (Option.some Jvm.ClassFile.FieldType.boolean)) ∈ bg := tm_3 (List.mem_of_getElem? (i := 102) rfl) rfl
theorem tw_583 : (Jvm.Cond.methodLink "WideWholes" (230 : Nat) ({ cls := "WideWholes$Whole", name := "sizeBits", desc := "()I" } : Jvm.MethodName)) ∈ bg := tm_3 (List.mem_of_getElem? (i := 103) rfl) rfl
theorem tw_584 : (Jvm.Cond.methodLink "WideWholes" (209 : Nat) ({ cls := "WideWholes$Powers", name := "raiseBy", desc := "(LWideWholes$Whole;ILWideWholes$Whole;)V" } : Jvm.MethodName)) ∈ bg := tm_3 (List.mem_of_getElem? (i := 104) rfl) rfl
theorem tw_585 : (Jvm.Cond.instanceMethod ({ cls := "WideWholes$Powers", name := "raiseBy", desc := "(LWideWholes$Whole;ILWideWholes$Whole;)V" } : Jvm.MethodName)) ∈ bg := tm_3 (List.mem_of_getElem? (i := 105) rfl) rfl
theorem tw_586 : (Jvm.Cond.selects "WideWholes$Powers" ({ cls := "WideWholes$Powers", name := "raiseBy", desc := "(LWideWholes$Whole;ILWideWholes$Whole;)V" } : Jvm.MethodName) ({ cls := "WideWholes$Powers", name := "raiseBy", desc := "(LWideWholes$Whole;ILWideWholes$Whole;)V" } : Jvm.MethodName)) ∈ bg := tm_3 (List.mem_of_getElem? (i := 106) rfl) rfl
theorem tw_587 : (Jvm.Cond.code ({ cls := "WideWholes$Powers", name := "raiseBy", desc := "(LWideWholes$Whole;ILWideWholes$Whole;)V" } : Jvm.MethodName) prog_5_method_5_code (5 : Nat) (Option.none : Option Jvm.ClassFile.FieldType)) ∈ bg := tm_3 (List.mem_of_getElem? (i := 107) rfl) rfl
theorem tw_588 : (Jvm.Cond.methodLink "WideWholes$Powers" (82 : Nat) ({ cls := "WideWholes$Division", name := "divide", desc := "(ILWideWholes$Whole;LWideWholes$Whole;)V" } : Jvm.MethodName)) ∈ bg := tm_3 (List.mem_of_getElem? (i := 108) rfl) rfl
theorem tw_589 : (Jvm.Cond.methodLink "WideWholes$Powers" (91 : Nat) ({ cls := "WideWholes$Powers", name := "multiplyLeft", desc := "(LWideWholes$Whole;LWideWholes$Whole;)V" } : Jvm.MethodName)) ∈ bg := tm_3 (List.mem_of_getElem? (i := 109) rfl) rfl
theorem tw_591 : (Jvm.Cond.instanceMethod ({ cls := "WideWholes$Powers", name := "multiplyLeft", desc := "(LWideWholes$Whole;LWideWholes$Whole;)V" } : Jvm.MethodName)) ∈ bg := tm_3 (List.mem_of_getElem? (i := 111) rfl) rfl
theorem tw_592 : (Jvm.Cond.code ({ cls := "WideWholes$Powers", name := "multiplyLeft", desc := "(LWideWholes$Whole;LWideWholes$Whole;)V" } : Jvm.MethodName) prog_5_method_6_code (3 : Nat) (Option.none : Option Jvm.ClassFile.FieldType)) ∈ bg := tm_3 (List.mem_of_getElem? (i := 112) rfl) rfl
theorem tw_593 : (Jvm.Cond.methodLink "WideWholesLaw" (95 : Nat) ({ cls := "WideWholes", name := "inverse", desc := "(III)I" } : Jvm.MethodName)) ∈ bg := tm_3 (List.mem_of_getElem? (i := 113) rfl) rfl
theorem tw_594 : (Jvm.Cond.instanceMethod ({ cls := "WideWholes", name := "inverse", desc := "(III)I" } : Jvm.MethodName)) ∈ bg := tm_3 (List.mem_of_getElem? (i := 114) rfl) rfl
theorem tw_595 : (Jvm.Cond.selects "WideWholes" ({ cls := "WideWholes", name := "inverse", desc := "(III)I" } : Jvm.MethodName) ({ cls := "WideWholes", name := "inverse", desc := "(III)I" } : Jvm.MethodName)) ∈ bg := tm_3 (List.mem_of_getElem? (i := 115) rfl) rfl
theorem tw_596 : (Jvm.Cond.code ({ cls := "WideWholes", name := "inverse", desc := "(III)I" } : Jvm.MethodName) prog_1_method_17_code (4 : Nat) (Option.some Jvm.ClassFile.FieldType.int)) ∈ bg := tm_3 (List.mem_of_getElem? (i := 116) rfl) rfl
theorem tw_597 : (Jvm.Cond.methodLink "WideWholes" (213 : Nat) ({ cls := "WideWholes$Powers", name := "invert", desc := "(LWideWholes$Whole;LWideWholes$Whole;)Z" } : Jvm.MethodName)) ∈ bg := tm_3 (List.mem_of_getElem? (i := 117) rfl) rfl
theorem tw_598 : (Jvm.Cond.instanceMethod ({ cls := "WideWholes$Powers", name := "invert", desc := "(LWideWholes$Whole;LWideWholes$Whole;)Z" } : Jvm.MethodName)) ∈ bg := tm_3 (List.mem_of_getElem? (i := 118) rfl) rfl
theorem tw_599 : (Jvm.Cond.selects "WideWholes$Powers" ({ cls := "WideWholes$Powers", name := "invert", desc := "(LWideWholes$Whole;LWideWholes$Whole;)Z" } : Jvm.MethodName) ({ cls := "WideWholes$Powers", name := "invert", desc := "(LWideWholes$Whole;LWideWholes$Whole;)Z" } : Jvm.MethodName)) ∈ bg := tm_3 (List.mem_of_getElem? (i := 119) rfl) rfl
theorem tw_600 : (Jvm.Cond.code ({ cls := "WideWholes$Powers", name := "invert", desc := "(LWideWholes$Whole;LWideWholes$Whole;)Z" } : Jvm.MethodName) prog_5_method_8_code (4 : Nat) (Option.some Jvm.ClassFile.FieldType.boolean)) ∈ bg := tm_3 (List.mem_of_getElem? (i := 120) rfl) rfl
theorem tw_601 : (Jvm.Cond.methodLink "WideWholes$Powers" (105 : Nat) ({ cls := "WideWholes$Whole", name := "difference", desc := "(LWideWholes$Whole;LWideWholes$Whole;LWideWholes$Whole;)V" } : Jvm.MethodName)) ∈ bg := tm_3 (List.mem_of_getElem? (i := 121) rfl) rfl
theorem tw_602 : (Jvm.Cond.methodLink "WideWholes$Powers" (108 : Nat) ({ cls := "WideWholes$Whole", name := "isOne", desc := "()Z" } : Jvm.MethodName)) ∈ bg := tm_3 (List.mem_of_getElem? (i := 122) rfl) rfl
theorem tw_603 : (Jvm.Cond.instanceMethod ({ cls := "WideWholes$Whole", name := "isOne", desc := "()Z" } : Jvm.MethodName)) ∈ bg := tm_3 (List.mem_of_getElem? (i := 123) rfl) rfl
theorem tw_604 : (Jvm.Cond.selects "WideWholes$Whole" ({ cls := "WideWholes$Whole", name := "isOne", desc := "()Z" } : Jvm.MethodName) ({ cls := "WideWholes$Whole", name := "isOne", desc := "()Z" } : Jvm.MethodName)) ∈ bg := tm_3 (List.mem_of_getElem? (i := 124) rfl) rfl
theorem tw_605 : (Jvm.Cond.code ({ cls := "WideWholes$Whole", name := "isOne", desc := "()Z" } : Jvm.MethodName) prog_10_method_7_code (1 : Nat) (Option.some Jvm.ClassFile.FieldType.boolean)) ∈ bg := tm_3 (List.mem_of_getElem? (i := 125) rfl) rfl
theorem tw_606 : (Jvm.Cond.methodLink "WideWholesLaw" (99 : Nat) ({ cls := "WideWholes", name := "bits", desc := "(IIII)I" } : Jvm.MethodName)) ∈ bg := tm_3 (List.mem_of_getElem? (i := 126) rfl) rfl
theorem tw_607 : (Jvm.Cond.instanceMethod ({ cls := "WideWholes", name := "bits", desc := "(IIII)I" } : Jvm.MethodName)) ∈ bg := tm_3 (List.mem_of_getElem? (i := 127) rfl) rfl
theorem tw_608 : (Jvm.Cond.selects "WideWholes" ({ cls := "WideWholes", name := "bits", desc := "(IIII)I" } : Jvm.MethodName) ({ cls := "WideWholes", name := "bits", desc := "(IIII)I" } : Jvm.MethodName)) ∈ bg := tm_3 (List.mem_of_getElem? (i := 128) rfl) rfl
theorem tw_609 : (Jvm.Cond.code ({ cls := "WideWholes", name := "bits", desc := "(IIII)I" } : Jvm.MethodName) prog_1_method_18_code (5 : Nat) (Option.some Jvm.ClassFile.FieldType.int)) ∈ bg := tm_3 (List.mem_of_getElem? (i := 129) rfl) rfl
theorem tw_610 : (Jvm.Cond.methodLink "WideWholes" (217 : Nat) ({ cls := "WideWholes$TwosForm", name := "load", desc := "(LWideWholes$Whole;)V" } : Jvm.MethodName)) ∈ bg := tm_3 (List.mem_of_getElem? (i := 130) rfl) rfl
theorem tw_611 : (Jvm.Cond.instanceMethod ({ cls := "WideWholes$TwosForm", name := "load", desc := "(LWideWholes$Whole;)V" } : Jvm.MethodName)) ∈ bg := tm_3 (List.mem_of_getElem? (i := 131) rfl) rfl
theorem tw_612 : (Jvm.Cond.selects "WideWholes$TwosForm" ({ cls := "WideWholes$TwosForm", name := "load", desc := "(LWideWholes$Whole;)V" } : Jvm.MethodName) ({ cls := "WideWholes$TwosForm", name := "load", desc := "(LWideWholes$Whole;)V" } : Jvm.MethodName)) ∈ bg := tm_3 (List.mem_of_getElem? (i := 132) rfl) rfl
theorem tw_613 : (Jvm.Cond.code ({ cls := "WideWholes$TwosForm", name := "load", desc := "(LWideWholes$Whole;)V" } : Jvm.MethodName) prog_9_method_2_code (3 : Nat) (Option.none : Option Jvm.ClassFile.FieldType)) ∈ bg := tm_3 (List.mem_of_getElem? (i := 133) rfl) rfl
theorem tw_614 : (Jvm.Cond.methodLink "WideWholes$TwosForm" (15 : Nat) ({ cls := "WideWholes$Whole", name := "partAt", desc := "(I)J" } : Jvm.MethodName)) ∈ bg := tm_3 (List.mem_of_getElem? (i := 134) rfl) rfl
theorem tw_615 : (Jvm.Cond.methodLink "WideWholes$TwosForm" (25 : Nat) ({ cls := "WideWholes$TwosForm", name := "negate", desc := "()V" } : Jvm.MethodName)) ∈ bg := tm_3 (List.mem_of_getElem? (i := 135) rfl) rfl
theorem tw_617 : (Jvm.Cond.instanceMethod ({ cls := "WideWholes$TwosForm", name := "negate", desc := "()V" } : Jvm.MethodName)) ∈ bg := tm_3 (List.mem_of_getElem? (i := 137) rfl) rfl
theorem tw_618 : (Jvm.Cond.code ({ cls := "WideWholes$TwosForm", name := "negate", desc := "()V" } : Jvm.MethodName) prog_9_method_8_code (6 : Nat) (Option.none : Option Jvm.ClassFile.FieldType)) ∈ bg := tm_3 (List.mem_of_getElem? (i := 138) rfl) rfl
theorem tw_619 : (Jvm.Cond.constantLong "WideWholes$TwosForm" (54 : Nat) (4294967295 : Int64)) ∈ bg := tm_3 (List.mem_of_getElem? (i := 139) rfl) rfl
theorem tw_620 : (Jvm.Cond.methodLink "WideWholes" (220 : Nat) ({ cls := "WideWholes$TwosForm", name := "join", desc := "(ILWideWholes$TwosForm;)V" } : Jvm.MethodName)) ∈ bg := tm_3 (List.mem_of_getElem? (i := 140) rfl) rfl
theorem tw_621 : (Jvm.Cond.instanceMethod ({ cls := "WideWholes$TwosForm", name := "join", desc := "(ILWideWholes$TwosForm;)V" } : Jvm.MethodName)) ∈ bg := tm_3 (List.mem_of_getElem? (i := 141) rfl) rfl
theorem tw_622 : (Jvm.Cond.selects "WideWholes$TwosForm" ({ cls := "WideWholes$TwosForm", name := "join", desc := "(ILWideWholes$TwosForm;)V" } : Jvm.MethodName) ({ cls := "WideWholes$TwosForm", name := "join", desc := "(ILWideWholes$TwosForm;)V" } : Jvm.MethodName)) ∈ bg := tm_3 (List.mem_of_getElem? (i := 142) rfl) rfl
theorem tw_623 : (Jvm.Cond.code ({ cls := "WideWholes$TwosForm", name := "join", desc := "(ILWideWholes$TwosForm;)V" } : Jvm.MethodName) prog_9_method_3_code (8 : Nat) (Option.none : Option Jvm.ClassFile.FieldType)) ∈ bg := tm_3 (List.mem_of_getElem? (i := 143) rfl) rfl
theorem tw_624 : (Jvm.Cond.constantLong "WideWholes$TwosForm" (28 : Nat) (-1 : Int64)) ∈ bg := tm_3 (List.mem_of_getElem? (i := 144) rfl) rfl
theorem tw_625 : (Jvm.Cond.methodLink "WideWholes" (224 : Nat) ({ cls := "WideWholes$TwosForm", name := "store", desc := "(LWideWholes$Whole;)V" } : Jvm.MethodName)) ∈ bg := tm_3 (List.mem_of_getElem? (i := 145) rfl) rfl
theorem tw_626 : (Jvm.Cond.instanceMethod ({ cls := "WideWholes$TwosForm", name := "store", desc := "(LWideWholes$Whole;)V" } : Jvm.MethodName)) ∈ bg := tm_3 (List.mem_of_getElem? (i := 146) rfl) rfl
theorem tw_627 : (Jvm.Cond.selects "WideWholes$TwosForm" ({ cls := "WideWholes$TwosForm", name := "store", desc := "(LWideWholes$Whole;)V" } : Jvm.MethodName) ({ cls := "WideWholes$TwosForm", name := "store", desc := "(LWideWholes$Whole;)V" } : Jvm.MethodName)) ∈ bg := tm_3 (List.mem_of_getElem? (i := 147) rfl) rfl
theorem tw_628 : (Jvm.Cond.code ({ cls := "WideWholes$TwosForm", name := "store", desc := "(LWideWholes$Whole;)V" } : Jvm.MethodName) prog_9_method_4_code (4 : Nat) (Option.none : Option Jvm.ClassFile.FieldType)) ∈ bg := tm_3 (List.mem_of_getElem? (i := 148) rfl) rfl
theorem tw_629 : (Jvm.Cond.methodLink "WideWholes$TwosForm" (30 : Nat) ({ cls := "WideWholes$TwosForm", name := "isBelow", desc := "()Z" } : Jvm.MethodName)) ∈ bg := tm_3 (List.mem_of_getElem? (i := 149) rfl) rfl
theorem tw_631 : (Jvm.Cond.instanceMethod ({ cls := "WideWholes$TwosForm", name := "isBelow", desc := "()Z" } : Jvm.MethodName)) ∈ bg := tm_3 (List.mem_of_getElem? (i := 151) rfl) rfl
theorem tw_632 : (Jvm.Cond.code ({ cls := "WideWholes$TwosForm", name := "isBelow", desc := "()Z" } : Jvm.MethodName) prog_9_method_7_code (1 : Nat) (Option.some Jvm.ClassFile.FieldType.boolean)) ∈ bg := tm_3 (List.mem_of_getElem? (i := 152) rfl) rfl
theorem tw_633 : (Jvm.Cond.methodLink "WideWholes$TwosForm" (37 : Nat) ({ cls := "WideWholes$Whole", name := "trim", desc := "(I)V" } : Jvm.MethodName)) ∈ bg := tm_3 (List.mem_of_getElem? (i := 153) rfl) rfl
theorem tw_634 : (Jvm.Cond.methodLink "WideWholes$TwosForm" (41 : Nat) ({ cls := "WideWholes$Whole", name := "takeSign", desc := "(Z)V" } : Jvm.MethodName)) ∈ bg := tm_3 (List.mem_of_getElem? (i := 154) rfl) rfl
theorem tw_635 : (Jvm.Cond.methodLink "WideWholesLaw" (103 : Nat) ({ cls := "WideWholes", name := "shift", desc := "(III)I" } : Jvm.MethodName)) ∈ bg := tm_3 (List.mem_of_getElem? (i := 155) rfl) rfl
theorem tw_636 : (Jvm.Cond.instanceMethod ({ cls := "WideWholes", name := "shift", desc := "(III)I" } : Jvm.MethodName)) ∈ bg := tm_3 (List.mem_of_getElem? (i := 156) rfl) rfl
theorem tw_637 : (Jvm.Cond.selects "WideWholes" ({ cls := "WideWholes", name := "shift", desc := "(III)I" } : Jvm.MethodName) ({ cls := "WideWholes", name := "shift", desc := "(III)I" } : Jvm.MethodName)) ∈ bg := tm_3 (List.mem_of_getElem? (i := 157) rfl) rfl
theorem tw_638 : (Jvm.Cond.code ({ cls := "WideWholes", name := "shift", desc := "(III)I" } : Jvm.MethodName) prog_1_method_19_code (4 : Nat) (Option.some Jvm.ClassFile.FieldType.int)) ∈ bg := tm_3 (List.mem_of_getElem? (i := 158) rfl) rfl
theorem tw_639 : (Jvm.Cond.methodLink "WideWholes" (227 : Nat) ({ cls := "WideWholes", name := "moveDown", desc := "(LWideWholes$Whole;I)V" } : Jvm.MethodName)) ∈ bg := tm_3 (List.mem_of_getElem? (i := 159) rfl) rfl
theorem tw_641 : (Jvm.Cond.instanceMethod ({ cls := "WideWholes", name := "moveDown", desc := "(LWideWholes$Whole;I)V" } : Jvm.MethodName)) ∈ bg := tm_3 (List.mem_of_getElem? (i := 161) rfl) rfl
theorem tw_642 : (Jvm.Cond.code ({ cls := "WideWholes", name := "moveDown", desc := "(LWideWholes$Whole;I)V" } : Jvm.MethodName) prog_1_method_36_code (3 : Nat) (Option.none : Option Jvm.ClassFile.FieldType)) ∈ bg := tm_3 (List.mem_of_getElem? (i := 162) rfl) rfl
theorem tw_643 : (Jvm.Cond.methodLink "WideWholes" (234 : Nat) ({ cls := "WideWholes$Whole", name := "move", desc := "(LWideWholes$Whole;ILWideWholes$Whole;)V" } : Jvm.MethodName)) ∈ bg := tm_3 (List.mem_of_getElem? (i := 163) rfl) rfl
theorem tw_644 : (Jvm.Cond.static ({ cls := "WideWholes$Whole", name := "move", desc := "(LWideWholes$Whole;ILWideWholes$Whole;)V" } : Jvm.MethodName)) ∈ bg := tm_3 (List.mem_of_getElem? (i := 164) rfl) rfl
theorem tw_645 : (Jvm.Cond.code ({ cls := "WideWholes$Whole", name := "move", desc := "(LWideWholes$Whole;ILWideWholes$Whole;)V" } : Jvm.MethodName) prog_10_method_29_code (5 : Nat) (Option.none : Option Jvm.ClassFile.FieldType)) ∈ bg := tm_3 (List.mem_of_getElem? (i := 165) rfl) rfl
theorem tw_646 : (Jvm.Cond.methodLink "WideWholes$Whole" (76 : Nat) ({ cls := "WideWholes$Whole", name := "movedPart", desc := "(II)J" } : Jvm.MethodName)) ∈ bg := tm_3 (List.mem_of_getElem? (i := 166) rfl) rfl
theorem tw_647 : (Jvm.Cond.methodLink "WideWholesLaw" (107 : Nat) ({ cls := "WideWholes", name := "bit", desc := "(II)I" } : Jvm.MethodName)) ∈ bg := tm_3 (List.mem_of_getElem? (i := 167) rfl) rfl
theorem tw_648 : (Jvm.Cond.instanceMethod ({ cls := "WideWholes", name := "bit", desc := "(II)I" } : Jvm.MethodName)) ∈ bg := tm_3 (List.mem_of_getElem? (i := 168) rfl) rfl
theorem tw_649 : (Jvm.Cond.selects "WideWholes" ({ cls := "WideWholes", name := "bit", desc := "(II)I" } : Jvm.MethodName) ({ cls := "WideWholes", name := "bit", desc := "(II)I" } : Jvm.MethodName)) ∈ bg := tm_3 (List.mem_of_getElem? (i := 169) rfl) rfl
theorem tw_650 : (Jvm.Cond.code ({ cls := "WideWholes", name := "bit", desc := "(II)I" } : Jvm.MethodName) prog_1_method_20_code (3 : Nat) (Option.some Jvm.ClassFile.FieldType.int)) ∈ bg := tm_3 (List.mem_of_getElem? (i := 170) rfl) rfl
theorem tw_651 : (Jvm.Cond.methodLink "WideWholes" (237 : Nat) ({ cls := "WideWholes$TwosForm", name := "bitAt", desc := "(I)I" } : Jvm.MethodName)) ∈ bg := tm_3 (List.mem_of_getElem? (i := 171) rfl) rfl
theorem tw_652 : (Jvm.Cond.instanceMethod ({ cls := "WideWholes$TwosForm", name := "bitAt", desc := "(I)I" } : Jvm.MethodName)) ∈ bg := tm_3 (List.mem_of_getElem? (i := 172) rfl) rfl
theorem tw_653 : (Jvm.Cond.selects "WideWholes$TwosForm" ({ cls := "WideWholes$TwosForm", name := "bitAt", desc := "(I)I" } : Jvm.MethodName) ({ cls := "WideWholes$TwosForm", name := "bitAt", desc := "(I)I" } : Jvm.MethodName)) ∈ bg := tm_3 (List.mem_of_getElem? (i := 173) rfl) rfl
theorem tw_654 : (Jvm.Cond.code ({ cls := "WideWholes$TwosForm", name := "bitAt", desc := "(I)I" } : Jvm.MethodName) prog_9_method_5_code (3 : Nat) (Option.some Jvm.ClassFile.FieldType.int)) ∈ bg := tm_3 (List.mem_of_getElem? (i := 174) rfl) rfl
theorem tw_655 : (Jvm.Cond.methodLink "WideWholes$TwosForm" (45 : Nat) ({ cls := "java/lang/Math", name := "min", desc := "(II)I" } : Jvm.MethodName)) ∈ bg := tm_3 (List.mem_of_getElem? (i := 175) rfl) rfl
theorem tw_656 : (Jvm.Cond.methodLink "WideWholes$TwosForm" (51 : Nat) ({ cls := "java/lang/Math", name := "max", desc := "(II)I" } : Jvm.MethodName)) ∈ bg := tm_3 (List.mem_of_getElem? (i := 176) rfl) rfl
theorem tw_657 : (Jvm.Cond.methodLink "WideWholesLaw" (111 : Nat) ({ cls := "WideWholes", name := "length", desc := "(I)I" } : Jvm.MethodName)) ∈ bg := tm_3 (List.mem_of_getElem? (i := 177) rfl) rfl
theorem tw_658 : (Jvm.Cond.instanceMethod ({ cls := "WideWholes", name := "length", desc := "(I)I" } : Jvm.MethodName)) ∈ bg := tm_3 (List.mem_of_getElem? (i := 178) rfl) rfl
theorem tw_659 : (Jvm.Cond.selects "WideWholes" ({ cls := "WideWholes", name := "length", desc := "(I)I" } : Jvm.MethodName) ({ cls := "WideWholes", name := "length", desc := "(I)I" } : Jvm.MethodName)) ∈ bg := tm_3 (List.mem_of_getElem? (i := 179) rfl) rfl
theorem tw_660 : (Jvm.Cond.code ({ cls := "WideWholes", name := "length", desc := "(I)I" } : Jvm.MethodName) prog_1_method_21_code (2 : Nat) (Option.some Jvm.ClassFile.FieldType.int)) ∈ bg := tm_3 (List.mem_of_getElem? (i := 180) rfl) rfl
theorem tw_661 : (Jvm.Cond.methodLink "WideWholesLaw" (115 : Nat) ({ cls := "WideWholes", name := "ones", desc := "(I)I" } : Jvm.MethodName)) ∈ bg := tm_3 (List.mem_of_getElem? (i := 181) rfl) rfl
theorem tw_662 : (Jvm.Cond.instanceMethod ({ cls := "WideWholes", name := "ones", desc := "(I)I" } : Jvm.MethodName)) ∈ bg := tm_3 (List.mem_of_getElem? (i := 182) rfl) rfl
theorem tw_663 : (Jvm.Cond.selects "WideWholes" ({ cls := "WideWholes", name := "ones", desc := "(I)I" } : Jvm.MethodName) ({ cls := "WideWholes", name := "ones", desc := "(I)I" } : Jvm.MethodName)) ∈ bg := tm_3 (List.mem_of_getElem? (i := 183) rfl) rfl
theorem tw_664 : (Jvm.Cond.code ({ cls := "WideWholes", name := "ones", desc := "(I)I" } : Jvm.MethodName) prog_1_method_22_code (2 : Nat) (Option.some Jvm.ClassFile.FieldType.int)) ∈ bg := tm_3 (List.mem_of_getElem? (i := 184) rfl) rfl
theorem tw_665 : (Jvm.Cond.methodLink "WideWholes" (240 : Nat) ({ cls := "WideWholes$TwosForm", name := "unlikeSign", desc := "()I" } : Jvm.MethodName)) ∈ bg := tm_3 (List.mem_of_getElem? (i := 185) rfl) rfl
theorem tw_666 : (Jvm.Cond.instanceMethod ({ cls := "WideWholes$TwosForm", name := "unlikeSign", desc := "()I" } : Jvm.MethodName)) ∈ bg := tm_3 (List.mem_of_getElem? (i := 186) rfl) rfl
theorem tw_667 : (Jvm.Cond.selects "WideWholes$TwosForm" ({ cls := "WideWholes$TwosForm", name := "unlikeSign", desc := "()I" } : Jvm.MethodName) ({ cls := "WideWholes$TwosForm", name := "unlikeSign", desc := "()I" } : Jvm.MethodName)) ∈ bg := tm_3 (List.mem_of_getElem? (i := 187) rfl) rfl
theorem tw_668 : (Jvm.Cond.code ({ cls := "WideWholes$TwosForm", name := "unlikeSign", desc := "()I" } : Jvm.MethodName) prog_9_method_6_code (5 : Nat) (Option.some Jvm.ClassFile.FieldType.int)) ∈ bg := tm_3 (List.mem_of_getElem? (i := 188) rfl) rfl
theorem tw_669 : (Jvm.Cond.methodLink "WideWholes$TwosForm" (56 : Nat) ({ cls := "java/lang/Long", name := "bitCount", desc := "(J)I" } : Jvm.MethodName)) ∈ bg := tm_3 (List.mem_of_getElem? (i := 189) rfl) rfl
theorem tw_670 : (Jvm.Cond.methodLink "WideWholesLaw" (119 : Nat) ({ cls := "WideWholes", name := "ratio", desc := "(III)I" } : Jvm.MethodName)) ∈ bg := tm_3 (List.mem_of_getElem? (i := 190) rfl) rfl
theorem tw_671 : (Jvm.Cond.instanceMethod ({ cls := "WideWholes", name := "ratio", desc := "(III)I" } : Jvm.MethodName)) ∈ bg := tm_3 (List.mem_of_getElem? (i := 191) rfl) rfl
theorem tw_672 : (Jvm.Cond.selects "WideWholes" ({ cls := "WideWholes", name := "ratio", desc := "(III)I" } : Jvm.MethodName) ({ cls := "WideWholes", name := "ratio", desc := "(III)I" } : Jvm.MethodName)) ∈ bg := tm_3 (List.mem_of_getElem? (i := 192) rfl) rfl
theorem tw_673 : (Jvm.Cond.code ({ cls := "WideWholes", name := "ratio", desc := "(III)I" } : Jvm.MethodName) prog_1_method_23_code (4 : Nat) (Option.some Jvm.ClassFile.FieldType.int)) ∈ bg := tm_3 (List.mem_of_getElem? (i := 193) rfl) rfl
theorem tw_674 : (Jvm.Cond.methodLink "WideWholes" (243 : Nat) ({ cls := "WideWholes", name := "isRatio", desc := "(I)Z" } : Jvm.MethodName)) ∈ bg := tm_3 (List.mem_of_getElem? (i := 194) rfl) rfl
theorem tw_675 : (Jvm.Cond.static ({ cls := "WideWholes", name := "isRatio", desc := "(I)Z" } : Jvm.MethodName)) ∈ bg := tm_3 (List.mem_of_getElem? (i := 195) rfl) rfl
theorem tw_676 : (Jvm.Cond.code ({ cls := "WideWholes", name := "isRatio", desc := "(I)Z" } : Jvm.MethodName) prog_1_method_31_code (1 : Nat) (Option.some Jvm.ClassFile.FieldType.boolean)) ∈ bg := tm_3 (List.mem_of_getElem? (i := 196) rfl) rfl
theorem tw_677 : (Jvm.Cond.methodLink "WideWholes" (246 : Nat) ({ cls := "WideWholes$Fractions", name := "reduce", desc := "(LWideWholes$Whole;LWideWholes$Whole;)V" } : Jvm.MethodName)) ∈ bg := tm_3 (List.mem_of_getElem? (i := 197) rfl) rfl
theorem tw_678 : (Jvm.Cond.instanceMethod ({ cls := "WideWholes$Fractions", name := "reduce", desc := "(LWideWholes$Whole;LWideWholes$Whole;)V" } : Jvm.MethodName)) ∈ bg := tm_3 (List.mem_of_getElem? (i := 198) rfl) rfl
theorem tw_679 : (Jvm.Cond.selects "WideWholes$Fractions" ({ cls := "WideWholes$Fractions", name := "reduce", desc := "(LWideWholes$Whole;LWideWholes$Whole;)V" } : Jvm.MethodName) ({ cls := "WideWholes$Fractions", name := "reduce", desc := "(LWideWholes$Whole;LWideWholes$Whole;)V" } : Jvm.MethodName)) ∈ bg := tm_3 (List.mem_of_getElem? (i := 199) rfl) rfl
theorem tw_680 : (Jvm.Cond.code ({ cls := "WideWholes$Fractions", name := "reduce", desc := "(LWideWholes$Whole;LWideWholes$Whole;)V" } : Jvm.MethodName) prog_4_method_2_code (3 : Nat) (Option.none : Option Jvm.ClassFile.FieldType)) ∈ bg := tm_3 (List.mem_of_getElem? (i := 200) rfl) rfl
theorem tw_681 : (Jvm.Cond.methodLink "WideWholes$Fractions" (39 : Nat) ({ cls := "WideWholes$Powers", name := "commonDivisor", desc := "(LWideWholes$Whole;LWideWholes$Whole;LWideWholes$Whole;)V" } : Jvm.MethodName)) ∈ bg := tm_3 (List.mem_of_getElem? (i := 201) rfl) rfl
theorem tw_682 : (Jvm.Cond.methodLink "WideWholes$Fractions" (45 : Nat) ({ cls := "WideWholes$Fractions", name := "cut", desc := "(LWideWholes$Whole;LWideWholes$Whole;LWideWholes$Whole;)V" } : Jvm.MethodName)) ∈ bg := tm_3 (List.mem_of_getElem? (i := 202) rfl) rfl
theorem tw_684 : (Jvm.Cond.instanceMethod ({ cls := "WideWholes$Fractions", name := "cut", desc := "(LWideWholes$Whole;LWideWholes$Whole;LWideWholes$Whole;)V" } : Jvm.MethodName)) ∈ bg := tm_3 (List.mem_of_getElem? (i := 204) rfl) rfl
theorem tw_685 : (Jvm.Cond.code ({ cls := "WideWholes$Fractions", name := "cut", desc := "(LWideWholes$Whole;LWideWholes$Whole;LWideWholes$Whole;)V" } : Jvm.MethodName) prog_4_method_7_code (5 : Nat) (Option.none : Option Jvm.ClassFile.FieldType)) ∈ bg := tm_3 (List.mem_of_getElem? (i := 205) rfl) rfl
theorem tw_686 : (Jvm.Cond.methodLink "WideWholes$Fractions" (83 : Nat) ({ cls := "WideWholes$Division", name := "divideSizes", desc := "(LWideWholes$Whole;LWideWholes$Whole;)V" } : Jvm.MethodName)) ∈ bg := tm_3 (List.mem_of_getElem? (i := 206) rfl) rfl
theorem tw_687 : (Jvm.Cond.methodLink "WideWholes$Fractions" (87 : Nat) ({ cls := "WideWholes$Whole", name := "copy", desc := "(LWideWholes$Whole;)V" } : Jvm.MethodName)) ∈ bg := tm_3 (List.mem_of_getElem? (i := 207) rfl) rfl
theorem tw_688 : (Jvm.Cond.methodLink "WideWholes$Fractions" (91 : Nat) ({ cls := "WideWholes$Whole", name := "takeSign", desc := "(Z)V" } : Jvm.MethodName)) ∈ bg := tm_3 (List.mem_of_getElem? (i := 208) rfl) rfl
theorem tw_689 : (Jvm.Cond.methodLink "WideWholes$Fractions" (48 : Nat) ({ cls := "WideWholes$Fractions", name := "raiseBottom", desc := "()V" } : Jvm.MethodName)) ∈ bg := tm_3 (List.mem_of_getElem? (i := 209) rfl) rfl
theorem tw_691 : (Jvm.Cond.instanceMethod ({ cls := "WideWholes$Fractions", name := "raiseBottom", desc := "()V" } : Jvm.MethodName)) ∈ bg := tm_3 (List.mem_of_getElem? (i := 211) rfl) rfl
theorem tw_692 : (Jvm.Cond.code ({ cls := "WideWholes$Fractions", name := "raiseBottom", desc := "()V" } : Jvm.MethodName) prog_4_method_8_code (1 : Nat) (Option.none : Option Jvm.ClassFile.FieldType)) ∈ bg := tm_3 (List.mem_of_getElem? (i := 212) rfl) rfl
theorem tw_693 : (Jvm.Cond.methodLink "WideWholes" (250 : Nat) ({ cls := "WideWholes", name := "keepRatio", desc := "(I)I" } : Jvm.MethodName)) ∈ bg := tm_3 (List.mem_of_getElem? (i := 213) rfl) rfl
theorem tw_695 : (Jvm.Cond.instanceMethod ({ cls := "WideWholes", name := "keepRatio", desc := "(I)I" } : Jvm.MethodName)) ∈ bg := tm_3 (List.mem_of_getElem? (i := 215) rfl) rfl
theorem tw_696 : (Jvm.Cond.code ({ cls := "WideWholes", name := "keepRatio", desc := "(I)I" } : Jvm.MethodName) prog_1_method_35_code (2 : Nat) (Option.some Jvm.ClassFile.FieldType.int)) ∈ bg := tm_3 (List.mem_of_getElem? (i := 216) rfl) rfl
theorem tw_697 : (Jvm.Cond.methodLink "WideWholesLaw" (123 : Nat) ({ cls := "WideWholes", name := "actRatio", desc := "(IIII)I" } : Jvm.MethodName)) ∈ bg := tm_3 (List.mem_of_getElem? (i := 217) rfl) rfl
theorem tw_698 : (Jvm.Cond.instanceMethod ({ cls := "WideWholes", name := "actRatio", desc := "(IIII)I" } : Jvm.MethodName)) ∈ bg := tm_3 (List.mem_of_getElem? (i := 218) rfl) rfl
theorem tw_699 : (Jvm.Cond.selects "WideWholes" ({ cls := "WideWholes", name := "actRatio", desc := "(IIII)I" } : Jvm.MethodName) ({ cls := "WideWholes", name := "actRatio", desc := "(IIII)I" } : Jvm.MethodName)) ∈ bg := tm_3 (List.mem_of_getElem? (i := 219) rfl) rfl
theorem tw_700 : (Jvm.Cond.code ({ cls := "WideWholes", name := "actRatio", desc := "(IIII)I" } : Jvm.MethodName) prog_1_method_24_code (7 : Nat) (Option.some Jvm.ClassFile.FieldType.int)) ∈ bg := tm_3 (List.mem_of_getElem? (i := 220) rfl) rfl
theorem tw_701 : (Jvm.Cond.methodLink "WideWholes" (256 : Nat) ({ cls := "WideWholes$Fractions", name := "addUp", desc := "(LWideWholes$Ratio;LWideWholes$Ratio;Z)V" } : Jvm.MethodName)) ∈ bg := tm_3 (List.mem_of_getElem? (i := 221) rfl) rfl
theorem tw_702 : (Jvm.Cond.instanceMethod ({ cls := "WideWholes$Fractions", name := "addUp", desc := "(LWideWholes$Ratio;LWideWholes$Ratio;Z)V" } : Jvm.MethodName)) ∈ bg := tm_3 (List.mem_of_getElem? (i := 222) rfl) rfl
theorem tw_703 : (Jvm.Cond.selects "WideWholes$Fractions" ({ cls := "WideWholes$Fractions", name := "addUp", desc := "(LWideWholes$Ratio;LWideWholes$Ratio;Z)V" } : Jvm.MethodName) ({ cls := "WideWholes$Fractions", name := "addUp", desc := "(LWideWholes$Ratio;LWideWholes$Ratio;Z)V" } : Jvm.MethodName)) ∈ bg := tm_3 (List.mem_of_getElem? (i := 223) rfl) rfl
theorem tw_704 : (Jvm.Cond.code ({ cls := "WideWholes$Fractions", name := "addUp", desc := "(LWideWholes$Ratio;LWideWholes$Ratio;Z)V" } : Jvm.MethodName) prog_4_method_3_code (4 : Nat) (Option.none : Option Jvm.ClassFile.FieldType)) ∈ bg := tm_3 (List.mem_of_getElem? (i := 224) rfl) rfl
theorem tw_705 : (Jvm.Cond.methodLink "WideWholes$Fractions" (55 : Nat) ({ cls := "WideWholes$Whole", name := "product", desc := "(LWideWholes$Whole;LWideWholes$Whole;LWideWholes$Whole;)V" } : Jvm.MethodName)) ∈ bg := tm_3 (List.mem_of_getElem? (i := 225) rfl) rfl
theorem tw_706 : (Jvm.Cond.methodLink "WideWholes$Fractions" (57 : Nat) ({ cls := "WideWholes$Whole", name := "difference", desc := "(LWideWholes$Whole;LWideWholes$Whole;LWideWholes$Whole;)V" } : Jvm.MethodName)) ∈ bg := tm_3 (List.mem_of_getElem? (i := 226) rfl) rfl
theorem tw_707 : (Jvm.Cond.methodLink "WideWholes$Fractions" (60 : Nat) ({ cls := "WideWholes$Whole", name := "sum", desc := "(LWideWholes$Whole;LWideWholes$Whole;LWideWholes$Whole;)V" } : Jvm.MethodName)) ∈ bg := tm_3 (List.mem_of_getElem? (i := 227) rfl) rfl
theorem tw_708 : (Jvm.Cond.methodLink "WideWholes" (263 : Nat) ({ cls := "WideWholes$Fractions", name := "multiply", desc := "(LWideWholes$Ratio;LWideWholes$Whole;LWideWholes$Whole;)V" } : Jvm.MethodName)) ∈ bg := tm_3 (List.mem_of_getElem? (i := 228) rfl) rfl
theorem tw_709 : (Jvm.Cond.instanceMethod ({ cls := "WideWholes$Fractions", name := "multiply", desc := "(LWideWholes$Ratio;LWideWholes$Whole;LWideWholes$Whole;)V" } : Jvm.MethodName)) ∈ bg := tm_3 (List.mem_of_getElem? (i := 229) rfl) rfl
theorem tw_710 : (Jvm.Cond.selects "WideWholes$Fractions" ({ cls := "WideWholes$Fractions", name := "multiply", desc := "(LWideWholes$Ratio;LWideWholes$Whole;LWideWholes$Whole;)V" } : Jvm.MethodName) ({ cls := "WideWholes$Fractions", name := "multiply", desc := "(LWideWholes$Ratio;LWideWholes$Whole;LWideWholes$Whole;)V" } : Jvm.MethodName)) ∈ bg := tm_3 (List.mem_of_getElem? (i := 230) rfl) rfl
theorem tw_711 : (Jvm.Cond.code ({ cls := "WideWholes$Fractions", name := "multiply", desc := "(LWideWholes$Ratio;LWideWholes$Whole;LWideWholes$Whole;)V" } : Jvm.MethodName) prog_4_method_4_code (4 : Nat) (Option.none : Option Jvm.ClassFile.FieldType)) ∈ bg := tm_3 (List.mem_of_getElem? (i := 231) rfl) rfl
theorem tw_712 : (Jvm.Cond.methodLink "WideWholesLaw" (127 : Nat) ({ cls := "WideWholes", name := "compareRatio", desc := "(II)I" } : Jvm.MethodName)) ∈ bg := tm_3 (List.mem_of_getElem? (i := 232) rfl) rfl
theorem tw_713 : (Jvm.Cond.instanceMethod ({ cls := "WideWholes", name := "compareRatio", desc := "(II)I" } : Jvm.MethodName)) ∈ bg := tm_3 (List.mem_of_getElem? (i := 233) rfl) rfl
theorem tw_714 : (Jvm.Cond.selects "WideWholes" ({ cls := "WideWholes", name := "compareRatio", desc := "(II)I" } : Jvm.MethodName) ({ cls := "WideWholes", name := "compareRatio", desc := "(II)I" } : Jvm.MethodName)) ∈ bg := tm_3 (List.mem_of_getElem? (i := 234) rfl) rfl
theorem tw_715 : (Jvm.Cond.code ({ cls := "WideWholes", name := "compareRatio", desc := "(II)I" } : Jvm.MethodName) prog_1_method_25_code (3 : Nat) (Option.some Jvm.ClassFile.FieldType.int)) ∈ bg := tm_3 (List.mem_of_getElem? (i := 235) rfl) rfl
theorem tw_716 : (Jvm.Cond.methodLink "WideWholes" (267 : Nat) ({ cls := "WideWholes$Fractions", name := "order", desc := "(LWideWholes$Ratio;LWideWholes$Ratio;)I" } : Jvm.MethodName)) ∈ bg := tm_3 (List.mem_of_getElem? (i := 236) rfl) rfl
theorem tw_717 : (Jvm.Cond.instanceMethod ({ cls := "WideWholes$Fractions", name := "order", desc := "(LWideWholes$Ratio;LWideWholes$Ratio;)I" } : Jvm.MethodName)) ∈ bg := tm_3 (List.mem_of_getElem? (i := 237) rfl) rfl
theorem tw_718 : (Jvm.Cond.selects "WideWholes$Fractions" ({ cls := "WideWholes$Fractions", name := "order", desc := "(LWideWholes$Ratio;LWideWholes$Ratio;)I" } : Jvm.MethodName) ({ cls := "WideWholes$Fractions", name := "order", desc := "(LWideWholes$Ratio;LWideWholes$Ratio;)I" } : Jvm.MethodName)) ∈ bg := tm_3 (List.mem_of_getElem? (i := 238) rfl) rfl
theorem tw_719 : (Jvm.Cond.code ({ cls := "WideWholes$Fractions", name := "order", desc := "(LWideWholes$Ratio;LWideWholes$Ratio;)I" } : Jvm.MethodName) prog_4_method_5_code (3 : Nat) (Option.some Jvm.ClassFile.FieldType.int)) ∈ bg := tm_3 (List.mem_of_getElem? (i := 239) rfl) rfl
theorem tw_720 : (Jvm.Cond.methodLink "WideWholes$Fractions" (63 : Nat) ({ cls := "WideWholes$Whole", name := "order", desc := "(LWideWholes$Whole;LWideWholes$Whole;)I" } : Jvm.MethodName)) ∈ bg := tm_4 (List.mem_of_getElem? (i := 0) rfl) rfl
theorem tw_721 : (Jvm.Cond.methodLink "WideWholesLaw" (131 : Nat) ({ cls := "WideWholes", name := "part", desc := "(III)I" } : Jvm.MethodName)) ∈ bg := tm_4 (List.mem_of_getElem? (i := 1) rfl) rfl
theorem tw_722 : (Jvm.Cond.instanceMethod ({ cls := "WideWholes", name := "part", desc := "(III)I" } : Jvm.MethodName)) ∈ bg := tm_4 (List.mem_of_getElem? (i := 2) rfl) rfl
theorem tw_723 : (Jvm.Cond.selects "WideWholes" ({ cls := "WideWholes", name := "part", desc := "(III)I" } : Jvm.MethodName) ({ cls := "WideWholes", name := "part", desc := "(III)I" } : Jvm.MethodName)) ∈ bg := tm_4 (List.mem_of_getElem? (i := 3) rfl) rfl
theorem tw_724 : (Jvm.Cond.code ({ cls := "WideWholes", name := "part", desc := "(III)I" } : Jvm.MethodName) prog_1_method_26_code (5 : Nat) (Option.some Jvm.ClassFile.FieldType.int)) ∈ bg := tm_4 (List.mem_of_getElem? (i := 4) rfl) rfl
theorem tw_725 : (Jvm.Cond.methodLink "WideWholes" (270 : Nat) ({ cls := "WideWholes$Fractions", name := "nearerAbove", desc := "(LWideWholes$Whole;)Z" } : Jvm.MethodName)) ∈ bg := tm_4 (List.mem_of_getElem? (i := 5) rfl) rfl
theorem tw_726 : (Jvm.Cond.instanceMethod ({ cls := "WideWholes$Fractions", name := "nearerAbove", desc := "(LWideWholes$Whole;)Z" } : Jvm.MethodName)) ∈ bg := tm_4 (List.mem_of_getElem? (i := 6) rfl) rfl
theorem tw_727 : (Jvm.Cond.selects "WideWholes$Fractions" ({ cls := "WideWholes$Fractions", name := "nearerAbove", desc := "(LWideWholes$Whole;)Z" } : Jvm.MethodName) ({ cls := "WideWholes$Fractions", name := "nearerAbove", desc := "(LWideWholes$Whole;)Z" } : Jvm.MethodName)) ∈ bg := tm_4 (List.mem_of_getElem? (i := 7) rfl) rfl
theorem tw_728 : (Jvm.Cond.code ({ cls := "WideWholes$Fractions", name := "nearerAbove", desc := "(LWideWholes$Whole;)Z" } : Jvm.MethodName) prog_4_method_6_code (3 : Nat) (Option.some Jvm.ClassFile.FieldType.boolean)) ∈ bg := tm_4 (List.mem_of_getElem? (i := 8) rfl) rfl
theorem tw_729 : (Jvm.Cond.methodLink "WideWholes$Fractions" (75 : Nat) ({ cls := "WideWholes$Whole", name := "isOdd", desc := "()Z" } : Jvm.MethodName)) ∈ bg := tm_4 (List.mem_of_getElem? (i := 9) rfl) rfl
theorem tw_730 : (Jvm.Cond.instanceMethod ({ cls := "WideWholes$Whole", name := "isOdd", desc := "()Z" } : Jvm.MethodName)) ∈ bg := tm_4 (List.mem_of_getElem? (i := 10) rfl) rfl
theorem tw_731 : (Jvm.Cond.selects "WideWholes$Whole" ({ cls := "WideWholes$Whole", name := "isOdd", desc := "()Z" } : Jvm.MethodName) ({ cls := "WideWholes$Whole", name := "isOdd", desc := "()Z" } : Jvm.MethodName)) ∈ bg := tm_4 (List.mem_of_getElem? (i := 11) rfl) rfl
theorem tw_732 : (Jvm.Cond.code ({ cls := "WideWholes$Whole", name := "isOdd", desc := "()Z" } : Jvm.MethodName) prog_10_method_8_code (1 : Nat) (Option.some Jvm.ClassFile.FieldType.boolean)) ∈ bg := tm_4 (List.mem_of_getElem? (i := 12) rfl) rfl
theorem tw_733 : (Jvm.Cond.methodLink "WideWholesLaw" (135 : Nat) ({ cls := "WideWholes", name := "digits", desc := "(II)I" } : Jvm.MethodName)) ∈ bg := tm_4 (List.mem_of_getElem? (i := 13) rfl) rfl
theorem tw_734 : (Jvm.Cond.instanceMethod ({ cls := "WideWholes", name := "digits", desc := "(II)I" } : Jvm.MethodName)) ∈ bg := tm_4 (List.mem_of_getElem? (i := 14) rfl) rfl
theorem tw_735 : (Jvm.Cond.selects "WideWholes" ({ cls := "WideWholes", name := "digits", desc := "(II)I" } : Jvm.MethodName) ({ cls := "WideWholes", name := "digits", desc := "(II)I" } : Jvm.MethodName)) ∈ bg := tm_4 (List.mem_of_getElem? (i := 15) rfl) rfl
theorem tw_736 : (Jvm.Cond.code ({ cls := "WideWholes", name := "digits", desc := "(II)I" } : Jvm.MethodName) prog_1_method_27_code (3 : Nat) (Option.some Jvm.ClassFile.FieldType.int)) ∈ bg := tm_4 (List.mem_of_getElem? (i := 16) rfl) rfl
theorem tw_737 : (Jvm.Cond.methodLink "WideWholes" (273 : Nat) ({ cls := "WideWholes$Expansion", name := "reckon", desc := "(LWideWholes$Ratio;I)Z" } : Jvm.MethodName)) ∈ bg := tm_4 (List.mem_of_getElem? (i := 17) rfl) rfl
theorem tw_738 : (Jvm.Cond.instanceMethod ({ cls := "WideWholes$Expansion", name := "reckon", desc := "(LWideWholes$Ratio;I)Z" } : Jvm.MethodName)) ∈ bg := tm_4 (List.mem_of_getElem? (i := 18) rfl) rfl
theorem tw_739 : (Jvm.Cond.selects "WideWholes$Expansion" ({ cls := "WideWholes$Expansion", name := "reckon", desc := "(LWideWholes$Ratio;I)Z" } : Jvm.MethodName) ({ cls := "WideWholes$Expansion", name := "reckon", desc := "(LWideWholes$Ratio;I)Z" } : Jvm.MethodName)) ∈ bg := tm_4 (List.mem_of_getElem? (i := 19) rfl) rfl
theorem tw_740 : (Jvm.Cond.code ({ cls := "WideWholes$Expansion", name := "reckon", desc := "(LWideWholes$Ratio;I)Z" } : Jvm.MethodName) prog_3_method_2_code (6 : Nat) (Option.some Jvm.ClassFile.FieldType.boolean)) ∈ bg := tm_4 (List.mem_of_getElem? (i := 20) rfl) rfl
theorem tw_741 : (Jvm.Cond.methodLink "WideWholes$Expansion" (47 : Nat) ({ cls := "WideWholes$Expansion", name := "countAhead", desc := "(LWideWholes$Whole;I)I" } : Jvm.MethodName)) ∈ bg := tm_4 (List.mem_of_getElem? (i := 21) rfl) rfl
theorem tw_743 : (Jvm.Cond.instanceMethod ({ cls := "WideWholes$Expansion", name := "countAhead", desc := "(LWideWholes$Whole;I)I" } : Jvm.MethodName)) ∈ bg := tm_4 (List.mem_of_getElem? (i := 23) rfl) rfl
theorem tw_744 : (Jvm.Cond.code ({ cls := "WideWholes$Expansion", name := "countAhead", desc := "(LWideWholes$Whole;I)I" } : Jvm.MethodName) prog_3_method_3_code (6 : Nat) (Option.some Jvm.ClassFile.FieldType.int)) ∈ bg := tm_4 (List.mem_of_getElem? (i := 24) rfl) rfl
theorem tw_745 : (Jvm.Cond.methodLink "WideWholes$Expansion" (61 : Nat) ({ cls := "WideWholes$Whole", name := "copy", desc := "(LWideWholes$Whole;)V" } : Jvm.MethodName)) ∈ bg := tm_4 (List.mem_of_getElem? (i := 25) rfl) rfl
theorem tw_746 : (Jvm.Cond.methodLink "WideWholes$Expansion" (80 : Nat) ({ cls := "WideWholes$Whole", name := "leftBy", desc := "(J)J" } : Jvm.MethodName)) ∈ bg := tm_4 (List.mem_of_getElem? (i := 26) rfl) rfl
theorem tw_747 : (Jvm.Cond.instanceMethod ({ cls := "WideWholes$Whole", name := "leftBy", desc := "(J)J" } : Jvm.MethodName)) ∈ bg := tm_4 (List.mem_of_getElem? (i := 27) rfl) rfl
theorem tw_748 : (Jvm.Cond.selects "WideWholes$Whole" ({ cls := "WideWholes$Whole", name := "leftBy", desc := "(J)J" } : Jvm.MethodName) ({ cls := "WideWholes$Whole", name := "leftBy", desc := "(J)J" } : Jvm.MethodName)) ∈ bg := tm_4 (List.mem_of_getElem? (i := 28) rfl) rfl
theorem tw_749 : (Jvm.Cond.code ({ cls := "WideWholes$Whole", name := "leftBy", desc := "(J)J" } : Jvm.MethodName) prog_10_method_18_code (8 : Nat) (Option.some Jvm.ClassFile.FieldType.long)) ∈ bg := tm_4 (List.mem_of_getElem? (i := 29) rfl) rfl
theorem tw_750 : (Jvm.Cond.methodLink "WideWholes$Expansion" (84 : Nat) ({ cls := "WideWholes$Expansion", name := "smallDivisor", desc := "(JJ)J" } : Jvm.MethodName)) ∈ bg := tm_4 (List.mem_of_getElem? (i := 30) rfl) rfl
theorem tw_751 : (Jvm.Cond.static ({ cls := "WideWholes$Expansion", name := "smallDivisor", desc := "(JJ)J" } : Jvm.MethodName)) ∈ bg := tm_4 (List.mem_of_getElem? (i := 31) rfl) rfl
theorem tw_752 : (Jvm.Cond.code ({ cls := "WideWholes$Expansion", name := "smallDivisor", desc := "(JJ)J" } : Jvm.MethodName) prog_3_method_4_code (11 : Nat) (Option.some Jvm.ClassFile.FieldType.long)) ∈ bg := tm_4 (List.mem_of_getElem? (i := 32) rfl) rfl
theorem tw_753 : (Jvm.Cond.methodLink "WideWholes$Expansion" (88 : Nat) ({ cls := "WideWholes$Whole", name := "shrink", desc := "(J)J" } : Jvm.MethodName)) ∈ bg := tm_4 (List.mem_of_getElem? (i := 33) rfl) rfl
theorem tw_754 : (Jvm.Cond.methodLink "WideWholes$Expansion" (54 : Nat) ({ cls := "WideWholes$Division", name := "divideSizes", desc := "(LWideWholes$Whole;LWideWholes$Whole;)V" } : Jvm.MethodName)) ∈ bg := tm_4 (List.mem_of_getElem? (i := 34) rfl) rfl
theorem tw_755 : (Jvm.Cond.methodLink "WideWholes$Expansion" (65 : Nat) ({ cls := "WideWholes$Expansion", name := "nextDigit", desc := "(LWideWholes$Whole;I)I" } : Jvm.MethodName)) ∈ bg := tm_4 (List.mem_of_getElem? (i := 35) rfl) rfl
theorem tw_757 : (Jvm.Cond.instanceMethod ({ cls := "WideWholes$Expansion", name := "nextDigit", desc := "(LWideWholes$Whole;I)I" } : Jvm.MethodName)) ∈ bg := tm_4 (List.mem_of_getElem? (i := 37) rfl) rfl
theorem tw_758 : (Jvm.Cond.code ({ cls := "WideWholes$Expansion", name := "nextDigit", desc := "(LWideWholes$Whole;I)I" } : Jvm.MethodName) prog_3_method_5_code (3 : Nat) (Option.some Jvm.ClassFile.FieldType.int)) ∈ bg := tm_4 (List.mem_of_getElem? (i := 38) rfl) rfl
theorem tw_759 : (Jvm.Cond.methodLink "WideWholes$Expansion" (91 : Nat) ({ cls := "WideWholes$Whole", name := "grow", desc := "(JJ)V" } : Jvm.MethodName)) ∈ bg := tm_4 (List.mem_of_getElem? (i := 39) rfl) rfl
theorem tw_760 : (Jvm.Cond.methodLink "WideWholes$Expansion" (98 : Nat) ({ cls := "WideWholes$Whole", name := "partAt", desc := "(I)J" } : Jvm.MethodName)) ∈ bg := tm_4 (List.mem_of_getElem? (i := 40) rfl) rfl
theorem tw_761 : (Jvm.Cond.methodLink "WideWholes$Expansion" (68 : Nat) ({ cls := "WideWholes$Whole", name := "isZero", desc := "()Z" } : Jvm.MethodName)) ∈ bg := tm_4 (List.mem_of_getElem? (i := 41) rfl) rfl
theorem tw_762 : (Jvm.Cond.methodLink "WideWholes$Expansion" (72 : Nat) ({ cls := "WideWholes$Whole", name := "orderSizes", desc := "(LWideWholes$Whole;LWideWholes$Whole;)I" } : Jvm.MethodName)) ∈ bg := tm_4 (List.mem_of_getElem? (i := 42) rfl) rfl
theorem tw_763 : (Jvm.Cond.methodLink "WideWholes$Expansion" (76 : Nat) ({ cls := "WideWholes$Expansion", name := "keepFresh", desc := "(II)V" } : Jvm.MethodName)) ∈ bg := tm_4 (List.mem_of_getElem? (i := 43) rfl) rfl
theorem tw_765 : (Jvm.Cond.instanceMethod ({ cls := "WideWholes$Expansion", name := "keepFresh", desc := "(II)V" } : Jvm.MethodName)) ∈ bg := tm_4 (List.mem_of_getElem? (i := 45) rfl) rfl
theorem tw_766 : (Jvm.Cond.code ({ cls := "WideWholes$Expansion", name := "keepFresh", desc := "(II)V" } : Jvm.MethodName) prog_3_method_6_code (4 : Nat) (Option.none : Option Jvm.ClassFile.FieldType)) ∈ bg := tm_4 (List.mem_of_getElem? (i := 46) rfl) rfl
theorem tw_767 : (Jvm.Cond.methodLink "WideWholesLaw" (139 : Nat) ({ cls := "WideWholes", name := "digit", desc := "(I)I" } : Jvm.MethodName)) ∈ bg := tm_4 (List.mem_of_getElem? (i := 47) rfl) rfl
theorem tw_768 : (Jvm.Cond.instanceMethod ({ cls := "WideWholes", name := "digit", desc := "(I)I" } : Jvm.MethodName)) ∈ bg := tm_4 (List.mem_of_getElem? (i := 48) rfl) rfl
theorem tw_769 : (Jvm.Cond.selects "WideWholes" ({ cls := "WideWholes", name := "digit", desc := "(I)I" } : Jvm.MethodName) ({ cls := "WideWholes", name := "digit", desc := "(I)I" } : Jvm.MethodName)) ∈ bg := tm_4 (List.mem_of_getElem? (i := 49) rfl) rfl
theorem tw_770 : (Jvm.Cond.code ({ cls := "WideWholes", name := "digit", desc := "(I)I" } : Jvm.MethodName) prog_1_method_28_code (2 : Nat) (Option.some Jvm.ClassFile.FieldType.int)) ∈ bg := tm_4 (List.mem_of_getElem? (i := 50) rfl) rfl
theorem tw_771 : (Jvm.Cond.methodLink "WideWholesLaw" (40 : Nat) ({ cls := "WideWholesLaw", name := "out", desc := "(LWideWholes;I[J)I" } : Jvm.MethodName)) ∈ bg := tm_4 (List.mem_of_getElem? (i := 51) rfl) rfl
theorem tw_772 : (Jvm.Cond.static ({ cls := "WideWholesLaw", name := "out", desc := "(LWideWholes;I[J)I" } : Jvm.MethodName)) ∈ bg := tm_4 (List.mem_of_getElem? (i := 52) rfl) rfl
theorem tw_773 : (Jvm.Cond.codeWith ({ cls := "WideWholesLaw", name := "out", desc := "(LWideWholes;I[J)I" } : Jvm.MethodName) method_3_code (4 : Nat) (Option.some Jvm.ClassFile.FieldType.int) [((0 : Nat), (9 : Nat), (12 : Nat), (13 : Nat))]) ∈ bg := tm_4 (List.mem_of_getElem? (i := 53) rfl) rfl
theorem tw_774 : (Jvm.Cond.classLink "WideWholesLaw" (13 : Nat) "java/lang/IndexOutOfBoundsException") ∈ bg := tm_4 (List.mem_of_getElem? (i := 54) rfl) rfl
theorem tw_775 : (Jvm.Cond.methodLink "WideWholesLaw" (7 : Nat) ({ cls := "WideWholes", name := "out", desc := "(I)I" } : Jvm.MethodName)) ∈ bg := tm_4 (List.mem_of_getElem? (i := 55) rfl) rfl
theorem tw_776 : (Jvm.Cond.instanceMethod ({ cls := "WideWholes", name := "out", desc := "(I)I" } : Jvm.MethodName)) ∈ bg := tm_4 (List.mem_of_getElem? (i := 56) rfl) rfl
theorem tw_777 : (Jvm.Cond.selects "WideWholes" ({ cls := "WideWholes", name := "out", desc := "(I)I" } : Jvm.MethodName) ({ cls := "WideWholes", name := "out", desc := "(I)I" } : Jvm.MethodName)) ∈ bg := tm_4 (List.mem_of_getElem? (i := 57) rfl) rfl
theorem tw_778 : (Jvm.Cond.code ({ cls := "WideWholes", name := "out", desc := "(I)I" } : Jvm.MethodName) prog_1_method_6_code (2 : Nat) (Option.some Jvm.ClassFile.FieldType.int)) ∈ bg := tm_4 (List.mem_of_getElem? (i := 58) rfl) rfl
theorem tw_779 : (Jvm.Cond.classLink "WideWholes" (124 : Nat) "java/lang/IndexOutOfBoundsException") ∈ bg := tm_4 (List.mem_of_getElem? (i := 59) rfl) rfl
theorem tw_780 : (Jvm.Cond.instantiable "java/lang/IndexOutOfBoundsException" (6 : Nat)) ∈ bg := tm_4 (List.mem_of_getElem? (i := 60) rfl) rfl
theorem tw_788 : (Jvm.Cond.selects "java/lang/IndexOutOfBoundsException" ({ cls := "java/lang/Throwable", name := "fillInStackTrace", desc := "(I)Ljava/lang/Throwable;" } : Jvm.MethodName) ({ cls := "java/lang/Throwable", name := "fillInStackTrace", desc := "(I)Ljava/lang/Throwable;" } : Jvm.MethodName)) ∈ bg := tm_4 (List.mem_of_getElem? (i := 68) rfl) rfl
theorem tw_789 : (Jvm.Cond.selects "java/lang/IndexOutOfBoundsException" ({ cls := "java/lang/Throwable", name := "fillInStackTrace", desc := "()Ljava/lang/Throwable;" } : Jvm.MethodName) ({ cls := "java/lang/Throwable", name := "fillInStackTrace", desc := "()Ljava/lang/Throwable;" } : Jvm.MethodName)) ∈ bg := tm_4 (List.mem_of_getElem? (i := 69) rfl) rfl
theorem tw_790 : (Jvm.Cond.lays "java/lang/IndexOutOfBoundsException" "java/lang/Throwable" "cause" "Ljava/lang/Throwable;") ∈ bg := tm_4 (List.mem_of_getElem? (i := 70) rfl) rfl
theorem tw_791 : (Jvm.Cond.lays "java/lang/Throwable" "java/lang/Throwable" "cause" "Ljava/lang/Throwable;") ∈ bg := tm_4 (List.mem_of_getElem? (i := 71) rfl) rfl
theorem tw_792 : (Jvm.Cond.lays "java/lang/IndexOutOfBoundsException" "java/lang/Throwable" "stackTrace" "[Ljava/lang/StackTraceElement;") ∈ bg := tm_4 (List.mem_of_getElem? (i := 72) rfl) rfl
theorem tw_793 : (Jvm.Cond.lays "java/lang/Throwable" "java/lang/Throwable" "stackTrace" "[Ljava/lang/StackTraceElement;") ∈ bg := tm_4 (List.mem_of_getElem? (i := 73) rfl) rfl
theorem tw_794 : (Jvm.Cond.lays "java/lang/IndexOutOfBoundsException" "java/lang/Throwable" "suppressedExceptions" "Ljava/util/List;") ∈ bg := tm_4 (List.mem_of_getElem? (i := 74) rfl) rfl
theorem tw_795 : (Jvm.Cond.lays "java/lang/Throwable" "java/lang/Throwable" "suppressedExceptions" "Ljava/util/List;") ∈ bg := tm_4 (List.mem_of_getElem? (i := 75) rfl) rfl
theorem tw_796 : (Jvm.Cond.lays "java/lang/IndexOutOfBoundsException" "java/lang/Throwable" "detailMessage" "Ljava/lang/String;") ∈ bg := tm_4 (List.mem_of_getElem? (i := 76) rfl) rfl
theorem tw_797 : (Jvm.Cond.lays "java/lang/Throwable" "java/lang/Throwable" "detailMessage" "Ljava/lang/String;") ∈ bg := tm_4 (List.mem_of_getElem? (i := 77) rfl) rfl
theorem tw_798 : (Jvm.Cond.lays "java/lang/IndexOutOfBoundsException" "java/lang/Throwable" "backtrace" "Ljava/lang/Object;") ∈ bg := tm_4 (List.mem_of_getElem? (i := 78) rfl) rfl
theorem tw_799 : (Jvm.Cond.lays "java/lang/Throwable" "java/lang/Throwable" "backtrace" "Ljava/lang/Object;") ∈ bg := tm_4 (List.mem_of_getElem? (i := 79) rfl) rfl
theorem tw_800 : (Jvm.Cond.fieldLink "java/lang/Throwable" (198 : Nat) "java/lang/Throwable" "backtrace" "Ljava/lang/Object;") ∈ bg := tm_4 (List.mem_of_getElem? (i := 80) rfl) rfl
theorem tw_802 : (Jvm.Cond.instanceMethod ({ cls := "java/lang/Throwable", name := "<init>", desc := "()V" } : Jvm.MethodName)) ∈ bg := tm_4 (List.mem_of_getElem? (i := 82) rfl) rfl
theorem tw_803 : (Jvm.Cond.code ({ cls := "java/lang/Throwable", name := "<init>", desc := "()V" } : Jvm.MethodName) prog_22_method_1_code (1 : Nat) (Option.none : Option Jvm.ClassFile.FieldType)) ∈ bg := tm_4 (List.mem_of_getElem? (i := 83) rfl) rfl
theorem tw_804 : (Jvm.Cond.methodLink "java/lang/Throwable" (1 : Nat) ({ cls := "java/lang/Object", name := "<init>", desc := "()V" } : Jvm.MethodName)) ∈ bg := tm_4 (List.mem_of_getElem? (i := 84) rfl) rfl
theorem tw_805 : (Jvm.Cond.fieldLink "java/lang/Throwable" (13 : Nat) "java/lang/Throwable" "UNASSIGNED_STACK" "[Ljava/lang/StackTraceElement;") ∈ bg := tm_4 (List.mem_of_getElem? (i := 85) rfl) rfl
theorem tw_807 : (Jvm.Cond.fieldLink "java/lang/Throwable" (20 : Nat) "java/lang/Throwable" "SUPPRESSED_SENTINEL" "Ljava/util/List;") ∈ bg := tm_4 (List.mem_of_getElem? (i := 87) rfl) rfl
theorem tw_809 : (Jvm.Cond.methodLink "java/lang/Throwable" (27 : Nat) ({ cls := "java/lang/Throwable", name := "fillInStackTrace", desc := "()Ljava/lang/Throwable;" } : Jvm.MethodName)) ∈ bg := tm_4 (List.mem_of_getElem? (i := 89) rfl) rfl
theorem tw_810 : (Jvm.Cond.instanceMethod ({ cls := "java/lang/Throwable", name := "fillInStackTrace", desc := "()Ljava/lang/Throwable;" } : Jvm.MethodName)) ∈ bg := tm_4 (List.mem_of_getElem? (i := 90) rfl) rfl
theorem tw_812 : (Jvm.Cond.codeSync ({ cls := "java/lang/Throwable", name := "fillInStackTrace", desc := "()Ljava/lang/Throwable;" } : Jvm.MethodName) prog_22_method_18_code (1 : Nat) (Option.some (Jvm.ClassFile.FieldType.object "java/lang/Throwable"))) ∈ bg := tm_4 (List.mem_of_getElem? (i := 92) rfl) rfl
theorem tw_813 : (Jvm.Cond.methodLink "java/lang/Throwable" (202 : Nat) ({ cls := "java/lang/Throwable", name := "fillInStackTrace", desc := "(I)Ljava/lang/Throwable;" } : Jvm.MethodName)) ∈ bg := tm_4 (List.mem_of_getElem? (i := 93) rfl) rfl
theorem tw_815 : (Jvm.Cond.instanceMethod ({ cls := "java/lang/Throwable", name := "fillInStackTrace", desc := "(I)Ljava/lang/Throwable;" } : Jvm.MethodName)) ∈ bg := tm_4 (List.mem_of_getElem? (i := 95) rfl) rfl
theorem tw_816 : (Jvm.Cond.instantiable "java/lang/Throwable" (6 : Nat)) ∈ bg := tm_4 (List.mem_of_getElem? (i := 96) rfl) rfl
theorem tw_817 : (Jvm.Cond.native ({ cls := "java/lang/Throwable", name := "fillInStackTrace", desc := "(I)Ljava/lang/Throwable;" } : Jvm.MethodName)) ∈ bg := tm_4 (List.mem_of_getElem? (i := 97) rfl) rfl
theorem tw_819 : (Jvm.Cond.methodLink "WideWholes" (128 : Nat) ({ cls := "java/lang/IndexOutOfBoundsException", name := "<init>", desc := "(Ljava/lang/String;)V" } : Jvm.MethodName)) ∈ bg := tm_4 (List.mem_of_getElem? (i := 99) rfl) rfl
theorem tw_820 : (Jvm.Cond.instanceMethod ({ cls := "java/lang/IndexOutOfBoundsException", name := "<init>", desc := "(Ljava/lang/String;)V" } : Jvm.MethodName)) ∈ bg := tm_4 (List.mem_of_getElem? (i := 100) rfl) rfl
theorem tw_821 : (Jvm.Cond.code ({ cls := "java/lang/IndexOutOfBoundsException", name := "<init>", desc := "(Ljava/lang/String;)V" } : Jvm.MethodName) prog_15_method_2_code (2 : Nat) (Option.none : Option Jvm.ClassFile.FieldType)) ∈ bg := tm_4 (List.mem_of_getElem? (i := 101) rfl) rfl
theorem tw_822 : (Jvm.Cond.methodLink "java/lang/IndexOutOfBoundsException" (7 : Nat) ({ cls := "java/lang/RuntimeException", name := "<init>", desc := "(Ljava/lang/String;)V" } : Jvm.MethodName)) ∈ bg := tm_4 (List.mem_of_getElem? (i := 102) rfl) rfl
theorem tw_823 : (Jvm.Cond.instanceMethod ({ cls := "java/lang/RuntimeException", name := "<init>", desc := "(Ljava/lang/String;)V" } : Jvm.MethodName)) ∈ bg := tm_4 (List.mem_of_getElem? (i := 103) rfl) rfl
theorem tw_824 : (Jvm.Cond.code ({ cls := "java/lang/RuntimeException", name := "<init>", desc := "(Ljava/lang/String;)V" } : Jvm.MethodName) prog_19_method_2_code (2 : Nat) (Option.none : Option Jvm.ClassFile.FieldType)) ∈ bg := tm_4 (List.mem_of_getElem? (i := 104) rfl) rfl
theorem tw_825 : (Jvm.Cond.methodLink "java/lang/RuntimeException" (7 : Nat) ({ cls := "java/lang/Exception", name := "<init>", desc := "(Ljava/lang/String;)V" } : Jvm.MethodName)) ∈ bg := tm_4 (List.mem_of_getElem? (i := 105) rfl) rfl
theorem tw_826 : (Jvm.Cond.instanceMethod ({ cls := "java/lang/Exception", name := "<init>", desc := "(Ljava/lang/String;)V" } : Jvm.MethodName)) ∈ bg := tm_4 (List.mem_of_getElem? (i := 106) rfl) rfl
theorem tw_827 : (Jvm.Cond.code ({ cls := "java/lang/Exception", name := "<init>", desc := "(Ljava/lang/String;)V" } : Jvm.MethodName) prog_14_method_2_code (2 : Nat) (Option.none : Option Jvm.ClassFile.FieldType)) ∈ bg := tm_4 (List.mem_of_getElem? (i := 107) rfl) rfl
theorem tw_828 : (Jvm.Cond.methodLink "java/lang/Exception" (7 : Nat) ({ cls := "java/lang/Throwable", name := "<init>", desc := "(Ljava/lang/String;)V" } : Jvm.MethodName)) ∈ bg := tm_4 (List.mem_of_getElem? (i := 108) rfl) rfl
theorem tw_829 : (Jvm.Cond.instanceMethod ({ cls := "java/lang/Throwable", name := "<init>", desc := "(Ljava/lang/String;)V" } : Jvm.MethodName)) ∈ bg := tm_4 (List.mem_of_getElem? (i := 109) rfl) rfl
theorem tw_830 : (Jvm.Cond.code ({ cls := "java/lang/Throwable", name := "<init>", desc := "(Ljava/lang/String;)V" } : Jvm.MethodName) prog_22_method_2_code (2 : Nat) (Option.none : Option Jvm.ClassFile.FieldType)) ∈ bg := tm_4 (List.mem_of_getElem? (i := 110) rfl) rfl
theorem tw_831 : (Jvm.Cond.fieldLink "java/lang/Throwable" (198 : Nat) "java/lang/Throwable" "backtrace" "Ljava/lang/Object;") ∈ bg := tm_4 (List.mem_of_getElem? (i := 111) rfl) rfl
theorem tw_832 : (Jvm.Cond.fieldLink "java/lang/Throwable" (31 : Nat) "java/lang/Throwable" "detailMessage" "Ljava/lang/String;") ∈ bg := tm_4 (List.mem_of_getElem? (i := 112) rfl) rfl
theorem tw_833 : (Jvm.Cond.fieldLink "java/lang/Throwable" (7 : Nat) "java/lang/Throwable" "cause" "Ljava/lang/Throwable;") ∈ bg := tm_4 (List.mem_of_getElem? (i := 113) rfl) rfl
theorem tw_834 : (Jvm.Cond.fieldLink "java/lang/Throwable" (17 : Nat) "java/lang/Throwable" "stackTrace" "[Ljava/lang/StackTraceElement;") ∈ bg := tm_4 (List.mem_of_getElem? (i := 114) rfl) rfl
theorem tw_835 : (Jvm.Cond.fieldLink "java/lang/Throwable" (24 : Nat) "java/lang/Throwable" "suppressedExceptions" "Ljava/util/List;") ∈ bg := tm_4 (List.mem_of_getElem? (i := 115) rfl) rfl
theorem tw_840 : (Jvm.Cond.lays "java/lang/IndexOutOfBoundsException" "java/lang/Throwable" "depth" "I") ∈ bg := tm_4 (List.mem_of_getElem? (i := 120) rfl) rfl
theorem tw_844 : (Jvm.Cond.arrayClass Jvm.ClassFile.FieldType.byte) ∈ bg := tm_4 (List.mem_of_getElem? (i := 124) rfl) rfl
theorem tw_845 : (Jvm.Cond.methodLink "WideWholesLaw" (46 : Nat) ({ cls := "WideWholesModel", name := "thrown", desc := "()I" } : Jvm.MethodName)) ∈ bg := tm_4 (List.mem_of_getElem? (i := 125) rfl) rfl
theorem tw_846 : (Jvm.Cond.instanceMethod ({ cls := "WideWholesModel", name := "thrown", desc := "()I" } : Jvm.MethodName)) ∈ bg := tm_4 (List.mem_of_getElem? (i := 126) rfl) rfl
theorem tw_847 : (Jvm.Cond.selects "WideWholesModel" ({ cls := "WideWholesModel", name := "thrown", desc := "()I" } : Jvm.MethodName) ({ cls := "WideWholesModel", name := "thrown", desc := "()I" } : Jvm.MethodName)) ∈ bg := tm_4 (List.mem_of_getElem? (i := 127) rfl) rfl
theorem tw_848 : (Jvm.Cond.code ({ cls := "WideWholesModel", name := "thrown", desc := "()I" } : Jvm.MethodName) prog_12_method_1_code (1 : Nat) (Option.some Jvm.ClassFile.FieldType.int)) ∈ bg := tm_4 (List.mem_of_getElem? (i := 128) rfl) rfl
theorem tw_849 : (Jvm.Cond.classLink "WideWholesLaw" (16 : Nat) "WideWholesModel") ∈ bg := tm_4 (List.mem_of_getElem? (i := 129) rfl) rfl
theorem tw_850 : (Jvm.Cond.instantiable "WideWholesModel" (23 : Nat)) ∈ bg := tm_4 (List.mem_of_getElem? (i := 130) rfl) rfl
theorem tw_851 : (Jvm.Cond.methodLink "WideWholesLaw" (18 : Nat) ({ cls := "WideWholesModel", name := "<init>", desc := "()V" } : Jvm.MethodName)) ∈ bg := tm_4 (List.mem_of_getElem? (i := 131) rfl) rfl
theorem tw_852 : (Jvm.Cond.instanceMethod ({ cls := "WideWholesModel", name := "<init>", desc := "()V" } : Jvm.MethodName)) ∈ bg := tm_4 (List.mem_of_getElem? (i := 132) rfl) rfl
theorem tw_853 : (Jvm.Cond.code ({ cls := "WideWholesModel", name := "<init>", desc := "()V" } : Jvm.MethodName) prog_12_method_20_code (2 : Nat) (Option.none : Option Jvm.ClassFile.FieldType)) ∈ bg := tm_4 (List.mem_of_getElem? (i := 133) rfl) rfl
theorem tw_854 : (Jvm.Cond.methodLink "WideWholesModel" (135 : Nat) ({ cls := "java/lang/Object", name := "<init>", desc := "()V" } : Jvm.MethodName)) ∈ bg := tm_4 (List.mem_of_getElem? (i := 134) rfl) rfl
theorem tw_855 : (Jvm.Cond.classLink "WideWholesModel" (19 : Nat) "WideWholesModel$Whole") ∈ bg := tm_4 (List.mem_of_getElem? (i := 135) rfl) rfl
theorem tw_857 : (Jvm.Cond.instantiable "WideWholesModel$Whole" (3 : Nat)) ∈ bg := tm_4 (List.mem_of_getElem? (i := 137) rfl) rfl
theorem tw_859 : (Jvm.Cond.instanceMethod ({ cls := "WideWholesModel$Whole", name := "<init>", desc := "()V" } : Jvm.MethodName)) ∈ bg := tm_4 (List.mem_of_getElem? (i := 139) rfl) rfl
theorem tw_860 : (Jvm.Cond.code ({ cls := "WideWholesModel$Whole", name := "<init>", desc := "()V" } : Jvm.MethodName) prog_13_method_1_code (1 : Nat) (Option.none : Option Jvm.ClassFile.FieldType)) ∈ bg := tm_4 (List.mem_of_getElem? (i := 140) rfl) rfl
theorem tw_861 : (Jvm.Cond.methodLink "WideWholesModel$Whole" (3 : Nat) ({ cls := "java/lang/Object", name := "<init>", desc := "()V" } : Jvm.MethodName)) ∈ bg := tm_4 (List.mem_of_getElem? (i := 141) rfl) rfl
theorem tw_862 : (Jvm.Cond.fieldLink "WideWholesModel$Whole" (25 : Nat) "WideWholesModel$Whole" "minus" "Z") ∈ bg := tm_4 (List.mem_of_getElem? (i := 142) rfl) rfl
theorem tw_863 : (Jvm.Cond.fieldLink "WideWholesModel" (38 : Nat) "WideWholesModel$Whole" "minus" "Z") ∈ bg := tm_4 (List.mem_of_getElem? (i := 143) rfl) rfl
theorem tw_864 : (Jvm.Cond.fieldLink "WideWholesModel$Whole" (15 : Nat) "WideWholesModel$Whole" "n" "I") ∈ bg := tm_4 (List.mem_of_getElem? (i := 144) rfl) rfl
theorem tw_865 : (Jvm.Cond.fieldLink "WideWholesModel" (42 : Nat) "WideWholesModel$Whole" "n" "I") ∈ bg := tm_4 (List.mem_of_getElem? (i := 145) rfl) rfl
theorem tw_866 : (Jvm.Cond.fieldLink "WideWholesModel$Whole" (9 : Nat) "WideWholesModel$Whole" "d" "[I") ∈ bg := tm_4 (List.mem_of_getElem? (i := 146) rfl) rfl
theorem tw_867 : (Jvm.Cond.fieldLink "WideWholesModel" (18 : Nat) "WideWholesModel$Whole" "d" "[I") ∈ bg := tm_4 (List.mem_of_getElem? (i := 147) rfl) rfl
theorem tw_868 : (Jvm.Cond.lays "WideWholesModel$Whole" "WideWholesModel$Whole" "minus" "Z") ∈ bg := tm_4 (List.mem_of_getElem? (i := 148) rfl) rfl
theorem tw_870 : (Jvm.Cond.lays "WideWholesModel$Whole" "WideWholesModel$Whole" "n" "I") ∈ bg := tm_4 (List.mem_of_getElem? (i := 150) rfl) rfl
theorem tw_872 : (Jvm.Cond.laysFinal "WideWholesModel$Whole" "WideWholesModel$Whole" "d" "[I") ∈ bg := tm_4 (List.mem_of_getElem? (i := 152) rfl) rfl
theorem tw_875 : (Jvm.Cond.methodLink "WideWholesModel" (30 : Nat) ({ cls := "WideWholesModel$Whole", name := "become", desc := "(LWideWholesModel$Whole;)V" } : Jvm.MethodName)) ∈ bg := tm_4 (List.mem_of_getElem? (i := 155) rfl) rfl
theorem tw_876 : (Jvm.Cond.instanceMethod ({ cls := "WideWholesModel$Whole", name := "become", desc := "(LWideWholesModel$Whole;)V" } : Jvm.MethodName)) ∈ bg := tm_4 (List.mem_of_getElem? (i := 156) rfl) rfl
theorem tw_877 : (Jvm.Cond.selects "WideWholesModel$Whole" ({ cls := "WideWholesModel$Whole", name := "become", desc := "(LWideWholesModel$Whole;)V" } : Jvm.MethodName) ({ cls := "WideWholesModel$Whole", name := "become", desc := "(LWideWholesModel$Whole;)V" } : Jvm.MethodName)) ∈ bg := tm_4 (List.mem_of_getElem? (i := 157) rfl) rfl
theorem tw_878 : (Jvm.Cond.code ({ cls := "WideWholesModel$Whole", name := "become", desc := "(LWideWholesModel$Whole;)V" } : Jvm.MethodName) prog_13_method_5_code (2 : Nat) (Option.none : Option Jvm.ClassFile.FieldType)) ∈ bg := tm_4 (List.mem_of_getElem? (i := 158) rfl) rfl
theorem tw_879 : (Jvm.Cond.methodLink "WideWholesModel$Whole" (29 : Nat) ({ cls := "java/lang/System", name := "arraycopy", desc := "(Ljava/lang/Object;ILjava/lang/Object;II)V" } : Jvm.MethodName)) ∈ bg := tm_4 (List.mem_of_getElem? (i := 159) rfl) rfl
theorem tw_880 : (Jvm.Cond.static ({ cls := "java/lang/System", name := "arraycopy", desc := "(Ljava/lang/Object;ILjava/lang/Object;II)V" } : Jvm.MethodName)) ∈ bg := tm_4 (List.mem_of_getElem? (i := 160) rfl) rfl
theorem tw_881 : (Jvm.Cond.native ({ cls := "java/lang/System", name := "arraycopy", desc := "(Ljava/lang/Object;ILjava/lang/Object;II)V" } : Jvm.MethodName)) ∈ bg := tm_4 (List.mem_of_getElem? (i := 161) rfl) rfl
theorem tw_882 : (Jvm.Cond.fieldLink "WideWholesModel" (1 : Nat) "WideWholesModel" "code" "I") ∈ bg := tm_4 (List.mem_of_getElem? (i := 162) rfl) rfl
theorem tw_883 : (Jvm.Cond.fieldLink "WideWholesModel" (10 : Nat) "WideWholesModel" "pool" "[LWideWholesModel$Whole;") ∈ bg := tm_4 (List.mem_of_getElem? (i := 163) rfl) rfl
theorem tw_884 : (Jvm.Cond.fieldLink "WideWholesModel" (7 : Nat) "WideWholesModel" "top" "I") ∈ bg := tm_4 (List.mem_of_getElem? (i := 164) rfl) rfl
theorem tw_885 : (Jvm.Cond.fieldLink "WideWholesModel" (74 : Nat) "WideWholesModel" "zero" "LWideWholesModel$Whole;") ∈ bg := tm_4 (List.mem_of_getElem? (i := 165) rfl) rfl
theorem tw_886 : (Jvm.Cond.fieldLink "WideWholesModel" (113 : Nat) "WideWholesModel" "one" "LWideWholesModel$Whole;") ∈ bg := tm_4 (List.mem_of_getElem? (i := 166) rfl) rfl
theorem tw_887 : (Jvm.Cond.fieldLink "WideWholesModel" (78 : Nat) "WideWholesModel" "quotient" "LWideWholesModel$Whole;") ∈ bg := tm_4 (List.mem_of_getElem? (i := 167) rfl) rfl
theorem tw_888 : (Jvm.Cond.fieldLink "WideWholesModel" (84 : Nat) "WideWholesModel" "rest" "LWideWholesModel$Whole;") ∈ bg := tm_4 (List.mem_of_getElem? (i := 168) rfl) rfl
theorem tw_889 : (Jvm.Cond.fieldLink "WideWholesModel" (125 : Nat) "WideWholesModel" "gcdX" "LWideWholesModel$Whole;") ∈ bg := tm_4 (List.mem_of_getElem? (i := 169) rfl) rfl
theorem tw_890 : (Jvm.Cond.fieldLink "WideWholesModel" (128 : Nat) "WideWholesModel" "gcdY" "LWideWholesModel$Whole;") ∈ bg := tm_4 (List.mem_of_getElem? (i := 170) rfl) rfl
theorem tw_891 : (Jvm.Cond.fieldLink "WideWholesModel" (142 : Nat) "WideWholesModel" "slots" "[LWideWholesModel$Whole;") ∈ bg := tm_4 (List.mem_of_getElem? (i := 171) rfl) rfl
theorem tw_892 : (Jvm.Cond.fieldLink "WideWholesModel" (145 : Nat) "WideWholesModel" "above" "[LWideWholesModel$Whole;") ∈ bg := tm_4 (List.mem_of_getElem? (i := 172) rfl) rfl
theorem tw_893 : (Jvm.Cond.fieldLink "WideWholesModel" (148 : Nat) "WideWholesModel" "below" "[LWideWholesModel$Whole;") ∈ bg := tm_4 (List.mem_of_getElem? (i := 173) rfl) rfl
theorem tw_894 : (Jvm.Cond.fieldLink "WideWholesModel" (151 : Nat) "WideWholesModel" "tape" "[B") ∈ bg := tm_4 (List.mem_of_getElem? (i := 174) rfl) rfl
theorem tw_895 : (Jvm.Cond.fieldLink "WideWholesModel" (184 : Nat) "WideWholesModel" "taped" "I") ∈ bg := tm_4 (List.mem_of_getElem? (i := 175) rfl) rfl
theorem tw_896 : (Jvm.Cond.fieldLink "WideWholesModel" (155 : Nat) "WideWholesModel" "out" "[B") ∈ bg := tm_4 (List.mem_of_getElem? (i := 176) rfl) rfl
theorem tw_897 : (Jvm.Cond.fieldLink "WideWholesModel" (190 : Nat) "WideWholesModel" "outSize" "I") ∈ bg := tm_4 (List.mem_of_getElem? (i := 177) rfl) rfl
theorem tw_898 : (Jvm.Cond.fieldLink "WideWholesModel" (158 : Nat) "WideWholesModel" "twosX" "[I") ∈ bg := tm_4 (List.mem_of_getElem? (i := 178) rfl) rfl
theorem tw_899 : (Jvm.Cond.fieldLink "WideWholesModel" (161 : Nat) "WideWholesModel" "twosY" "[I") ∈ bg := tm_4 (List.mem_of_getElem? (i := 179) rfl) rfl
theorem tw_900 : (Jvm.Cond.fieldLink "WideWholesModel" (164 : Nat) "WideWholesModel" "digits" "[I") ∈ bg := tm_4 (List.mem_of_getElem? (i := 180) rfl) rfl
theorem tw_901 : (Jvm.Cond.fieldLink "WideWholesModel" (167 : Nat) "WideWholesModel" "found" "[I") ∈ bg := tm_4 (List.mem_of_getElem? (i := 181) rfl) rfl
theorem tw_902 : (Jvm.Cond.fieldLink "WideWholesModel" (170 : Nat) "WideWholesModel" "rests" "[LWideWholesModel$Whole;") ∈ bg := tm_4 (List.mem_of_getElem? (i := 182) rfl) rfl
theorem tw_903 : (Jvm.Cond.fieldLink "WideWholesModel" (252 : Nat) "WideWholesModel" "head" "I") ∈ bg := tm_4 (List.mem_of_getElem? (i := 183) rfl) rfl
theorem tw_904 : (Jvm.Cond.fieldLink "WideWholesModel" (255 : Nat) "WideWholesModel" "round" "I") ∈ bg := tm_4 (List.mem_of_getElem? (i := 184) rfl) rfl
theorem tw_905 : (Jvm.Cond.lays "WideWholesModel" "WideWholesModel" "code" "I") ∈ bg := tm_4 (List.mem_of_getElem? (i := 185) rfl) rfl
theorem tw_907 : (Jvm.Cond.laysFinal "WideWholesModel" "WideWholesModel" "pool" "[LWideWholesModel$Whole;") ∈ bg := tm_4 (List.mem_of_getElem? (i := 187) rfl) rfl
theorem tw_909 : (Jvm.Cond.lays "WideWholesModel" "WideWholesModel" "top" "I") ∈ bg := tm_4 (List.mem_of_getElem? (i := 189) rfl) rfl
theorem tw_911 : (Jvm.Cond.laysFinal "WideWholesModel" "WideWholesModel" "zero" "LWideWholesModel$Whole;") ∈ bg := tm_4 (List.mem_of_getElem? (i := 191) rfl) rfl
theorem tw_913 : (Jvm.Cond.laysFinal "WideWholesModel" "WideWholesModel" "one" "LWideWholesModel$Whole;") ∈ bg := tm_4 (List.mem_of_getElem? (i := 193) rfl) rfl
theorem tw_915 : (Jvm.Cond.lays "WideWholesModel" "WideWholesModel" "quotient" "LWideWholesModel$Whole;") ∈ bg := tm_4 (List.mem_of_getElem? (i := 195) rfl) rfl
theorem tw_917 : (Jvm.Cond.lays "WideWholesModel" "WideWholesModel" "rest" "LWideWholesModel$Whole;") ∈ bg := tm_4 (List.mem_of_getElem? (i := 197) rfl) rfl
theorem tw_919 : (Jvm.Cond.laysFinal "WideWholesModel" "WideWholesModel" "gcdX" "LWideWholesModel$Whole;") ∈ bg := tm_4 (List.mem_of_getElem? (i := 199) rfl) rfl
theorem tw_921 : (Jvm.Cond.laysFinal "WideWholesModel" "WideWholesModel" "gcdY" "LWideWholesModel$Whole;") ∈ bg := tm_4 (List.mem_of_getElem? (i := 201) rfl) rfl
theorem tw_923 : (Jvm.Cond.laysFinal "WideWholesModel" "WideWholesModel" "slots" "[LWideWholesModel$Whole;") ∈ bg := tm_4 (List.mem_of_getElem? (i := 203) rfl) rfl
theorem tw_925 : (Jvm.Cond.laysFinal "WideWholesModel" "WideWholesModel" "above" "[LWideWholesModel$Whole;") ∈ bg := tm_4 (List.mem_of_getElem? (i := 205) rfl) rfl
theorem tw_927 : (Jvm.Cond.laysFinal "WideWholesModel" "WideWholesModel" "below" "[LWideWholesModel$Whole;") ∈ bg := tm_4 (List.mem_of_getElem? (i := 207) rfl) rfl
theorem tw_929 : (Jvm.Cond.laysFinal "WideWholesModel" "WideWholesModel" "tape" "[B") ∈ bg := tm_4 (List.mem_of_getElem? (i := 209) rfl) rfl
theorem tw_931 : (Jvm.Cond.lays "WideWholesModel" "WideWholesModel" "taped" "I") ∈ bg := tm_4 (List.mem_of_getElem? (i := 211) rfl) rfl
theorem tw_933 : (Jvm.Cond.laysFinal "WideWholesModel" "WideWholesModel" "out" "[B") ∈ bg := tm_4 (List.mem_of_getElem? (i := 213) rfl) rfl
theorem tw_935 : (Jvm.Cond.lays "WideWholesModel" "WideWholesModel" "outSize" "I") ∈ bg := tm_4 (List.mem_of_getElem? (i := 215) rfl) rfl
theorem tw_937 : (Jvm.Cond.laysFinal "WideWholesModel" "WideWholesModel" "twosX" "[I") ∈ bg := tm_4 (List.mem_of_getElem? (i := 217) rfl) rfl
theorem tw_939 : (Jvm.Cond.laysFinal "WideWholesModel" "WideWholesModel" "twosY" "[I") ∈ bg := tm_4 (List.mem_of_getElem? (i := 219) rfl) rfl
theorem tw_941 : (Jvm.Cond.laysFinal "WideWholesModel" "WideWholesModel" "digits" "[I") ∈ bg := tm_4 (List.mem_of_getElem? (i := 221) rfl) rfl
theorem tw_943 : (Jvm.Cond.laysFinal "WideWholesModel" "WideWholesModel" "found" "[I") ∈ bg := tm_4 (List.mem_of_getElem? (i := 223) rfl) rfl
theorem tw_945 : (Jvm.Cond.laysFinal "WideWholesModel" "WideWholesModel" "rests" "[LWideWholesModel$Whole;") ∈ bg := tm_4 (List.mem_of_getElem? (i := 225) rfl) rfl
theorem tw_947 : (Jvm.Cond.lays "WideWholesModel" "WideWholesModel" "head" "I") ∈ bg := tm_4 (List.mem_of_getElem? (i := 227) rfl) rfl
theorem tw_949 : (Jvm.Cond.lays "WideWholesModel" "WideWholesModel" "round" "I") ∈ bg := tm_4 (List.mem_of_getElem? (i := 229) rfl) rfl
theorem tw_952 : (Jvm.Cond.methodLink "WideWholesLaw" (25 : Nat) ({ cls := "WideWholesModel", name := "set", desc := "(IJ)I" } : Jvm.MethodName)) ∈ bg := tm_4 (List.mem_of_getElem? (i := 232) rfl) rfl
theorem tw_953 : (Jvm.Cond.instanceMethod ({ cls := "WideWholesModel", name := "set", desc := "(IJ)I" } : Jvm.MethodName)) ∈ bg := tm_4 (List.mem_of_getElem? (i := 233) rfl) rfl
theorem tw_954 : (Jvm.Cond.selects "WideWholesModel" ({ cls := "WideWholesModel", name := "set", desc := "(IJ)I" } : Jvm.MethodName) ({ cls := "WideWholesModel", name := "set", desc := "(IJ)I" } : Jvm.MethodName)) ∈ bg := tm_4 (List.mem_of_getElem? (i := 234) rfl) rfl
theorem tw_955 : (Jvm.Cond.code ({ cls := "WideWholesModel", name := "set", desc := "(IJ)I" } : Jvm.MethodName) prog_12_method_24_code (4 : Nat) (Option.some Jvm.ClassFile.FieldType.int)) ∈ bg := tm_4 (List.mem_of_getElem? (i := 235) rfl) rfl
theorem tw_956 : (Jvm.Cond.methodLink "WideWholesModel" (177 : Nat) ({ cls := "WideWholesModel", name := "isSlot", desc := "(I)Z" } : Jvm.MethodName)) ∈ bg := tm_4 (List.mem_of_getElem? (i := 236) rfl) rfl
theorem tw_958 : (Jvm.Cond.instanceMethod ({ cls := "WideWholesModel", name := "isSlot", desc := "(I)Z" } : Jvm.MethodName)) ∈ bg := tm_4 (List.mem_of_getElem? (i := 238) rfl) rfl
theorem tw_959 : (Jvm.Cond.code ({ cls := "WideWholesModel", name := "isSlot", desc := "(I)Z" } : Jvm.MethodName) prog_12_method_21_code (2 : Nat) (Option.some Jvm.ClassFile.FieldType.boolean)) ∈ bg := tm_4 (List.mem_of_getElem? (i := 239) rfl) rfl
theorem tw_960 : (Jvm.Cond.methodLink "WideWholesModel" (87 : Nat) ({ cls := "WideWholesModel", name := "of", desc := "(J)LWideWholesModel$Whole;" } : Jvm.MethodName)) ∈ bg := tm_5 (List.mem_of_getElem? (i := 0) rfl) rfl
theorem tw_962 : (Jvm.Cond.instanceMethod ({ cls := "WideWholesModel", name := "of", desc := "(J)LWideWholesModel$Whole;" } : Jvm.MethodName)) ∈ bg := tm_5 (List.mem_of_getElem? (i := 2) rfl) rfl
theorem tw_963 : (Jvm.Cond.code ({ cls := "WideWholesModel", name := "of", desc := "(J)LWideWholesModel$Whole;" } : Jvm.MethodName) prog_12_method_3_code (7 : Nat) (Option.some (Jvm.ClassFile.FieldType.object "WideWholesModel$Whole"))) ∈ bg := tm_5 (List.mem_of_getElem? (i := 3) rfl) rfl
theorem tw_964 : (Jvm.Cond.methodLink "WideWholesModel" (14 : Nat) ({ cls := "WideWholesModel", name := "take", desc := "()LWideWholesModel$Whole;" } : Jvm.MethodName)) ∈ bg := tm_5 (List.mem_of_getElem? (i := 4) rfl) rfl
theorem tw_966 : (Jvm.Cond.instanceMethod ({ cls := "WideWholesModel", name := "take", desc := "()LWideWholesModel$Whole;" } : Jvm.MethodName)) ∈ bg := tm_5 (List.mem_of_getElem? (i := 6) rfl) rfl
theorem tw_967 : (Jvm.Cond.code ({ cls := "WideWholesModel", name := "take", desc := "()LWideWholesModel$Whole;" } : Jvm.MethodName) prog_12_method_2_code (1 : Nat) (Option.some (Jvm.ClassFile.FieldType.object "WideWholesModel$Whole"))) ∈ bg := tm_5 (List.mem_of_getElem? (i := 7) rfl) rfl
theorem tw_968 : (Jvm.Cond.constantLong "WideWholesModel" (24 : Nat) (65535 : Int64)) ∈ bg := tm_5 (List.mem_of_getElem? (i := 8) rfl) rfl
theorem tw_969 : (Jvm.Cond.methodLink "WideWholesModel" (26 : Nat) ({ cls := "WideWholesModel$Whole", name := "of", desc := "(ZI)LWideWholesModel$Whole;" } : Jvm.MethodName)) ∈ bg := tm_5 (List.mem_of_getElem? (i := 9) rfl) rfl
theorem tw_970 : (Jvm.Cond.instanceMethod ({ cls := "WideWholesModel$Whole", name := "of", desc := "(ZI)LWideWholesModel$Whole;" } : Jvm.MethodName)) ∈ bg := tm_5 (List.mem_of_getElem? (i := 10) rfl) rfl
theorem tw_971 : (Jvm.Cond.selects "WideWholesModel$Whole" ({ cls := "WideWholesModel$Whole", name := "of", desc := "(ZI)LWideWholesModel$Whole;" } : Jvm.MethodName) ({ cls := "WideWholesModel$Whole", name := "of", desc := "(ZI)LWideWholesModel$Whole;" } : Jvm.MethodName)) ∈ bg := tm_5 (List.mem_of_getElem? (i := 11) rfl) rfl
theorem tw_972 : (Jvm.Cond.code ({ cls := "WideWholesModel$Whole", name := "of", desc := "(ZI)LWideWholesModel$Whole;" } : Jvm.MethodName) prog_13_method_6_code (3 : Nat) (Option.some (Jvm.ClassFile.FieldType.object "WideWholesModel$Whole"))) ∈ bg := tm_5 (List.mem_of_getElem? (i := 12) rfl) rfl
theorem tw_973 : (Jvm.Cond.methodLink "WideWholesModel" (180 : Nat) ({ cls := "WideWholesModel", name := "keep", desc := "(ILWideWholesModel$Whole;)I" } : Jvm.MethodName)) ∈ bg := tm_5 (List.mem_of_getElem? (i := 13) rfl) rfl
theorem tw_975 : (Jvm.Cond.instanceMethod ({ cls := "WideWholesModel", name := "keep", desc := "(ILWideWholesModel$Whole;)I" } : Jvm.MethodName)) ∈ bg := tm_5 (List.mem_of_getElem? (i := 15) rfl) rfl
theorem tw_976 : (Jvm.Cond.code ({ cls := "WideWholesModel", name := "keep", desc := "(ILWideWholesModel$Whole;)I" } : Jvm.MethodName) prog_12_method_23_code (3 : Nat) (Option.some Jvm.ClassFile.FieldType.int)) ∈ bg := tm_5 (List.mem_of_getElem? (i := 16) rfl) rfl
theorem tw_977 : (Jvm.Cond.methodLink "WideWholesModel" (173 : Nat) ({ cls := "WideWholesModel", name := "fits", desc := "(LWideWholesModel$Whole;)Z" } : Jvm.MethodName)) ∈ bg := tm_5 (List.mem_of_getElem? (i := 17) rfl) rfl
theorem tw_978 : (Jvm.Cond.static ({ cls := "WideWholesModel", name := "fits", desc := "(LWideWholesModel$Whole;)Z" } : Jvm.MethodName)) ∈ bg := tm_5 (List.mem_of_getElem? (i := 18) rfl) rfl
theorem tw_979 : (Jvm.Cond.code ({ cls := "WideWholesModel", name := "fits", desc := "(LWideWholesModel$Whole;)Z" } : Jvm.MethodName) prog_12_method_19_code (1 : Nat) (Option.some Jvm.ClassFile.FieldType.boolean)) ∈ bg := tm_5 (List.mem_of_getElem? (i := 19) rfl) rfl
theorem tw_980 : (Jvm.Cond.methodLink "WideWholesModel" (131 : Nat) ({ cls := "WideWholesModel$Whole", name := "bits", desc := "()I" } : Jvm.MethodName)) ∈ bg := tm_5 (List.mem_of_getElem? (i := 20) rfl) rfl
theorem tw_981 : (Jvm.Cond.instanceMethod ({ cls := "WideWholesModel$Whole", name := "bits", desc := "()I" } : Jvm.MethodName)) ∈ bg := tm_5 (List.mem_of_getElem? (i := 21) rfl) rfl
theorem tw_982 : (Jvm.Cond.selects "WideWholesModel$Whole" ({ cls := "WideWholesModel$Whole", name := "bits", desc := "()I" } : Jvm.MethodName) ({ cls := "WideWholesModel$Whole", name := "bits", desc := "()I" } : Jvm.MethodName)) ∈ bg := tm_5 (List.mem_of_getElem? (i := 22) rfl) rfl
theorem tw_983 : (Jvm.Cond.code ({ cls := "WideWholesModel$Whole", name := "bits", desc := "()I" } : Jvm.MethodName) prog_13_method_3_code (1 : Nat) (Option.some Jvm.ClassFile.FieldType.int)) ∈ bg := tm_5 (List.mem_of_getElem? (i := 23) rfl) rfl
theorem tw_984 : (Jvm.Cond.methodLink "WideWholesModel$Whole" (19 : Nat) ({ cls := "java/lang/Integer", name := "numberOfLeadingZeros", desc := "(I)I" } : Jvm.MethodName)) ∈ bg := tm_5 (List.mem_of_getElem? (i := 24) rfl) rfl
theorem tw_985 : (Jvm.Cond.static ({ cls := "java/lang/Integer", name := "numberOfLeadingZeros", desc := "(I)I" } : Jvm.MethodName)) ∈ bg := tm_5 (List.mem_of_getElem? (i := 25) rfl) rfl
theorem tw_986 : (Jvm.Cond.code ({ cls := "java/lang/Integer", name := "numberOfLeadingZeros", desc := "(I)I" } : Jvm.MethodName) prog_16_method_47_code (2 : Nat) (Option.some Jvm.ClassFile.FieldType.int)) ∈ bg := tm_5 (List.mem_of_getElem? (i := 26) rfl) rfl
theorem tw_987 : (Jvm.Cond.constant "java/lang/Integer" (264 : Nat) (65536 : Int32)) ∈ bg := tm_5 (List.mem_of_getElem? (i := 27) rfl) rfl
theorem tw_988 : (Jvm.Cond.methodLink "WideWholesLaw" (30 : Nat) ({ cls := "WideWholesModel", name := "feed", desc := "(JI)I" } : Jvm.MethodName)) ∈ bg := tm_5 (List.mem_of_getElem? (i := 28) rfl) rfl
theorem tw_989 : (Jvm.Cond.instanceMethod ({ cls := "WideWholesModel", name := "feed", desc := "(JI)I" } : Jvm.MethodName)) ∈ bg := tm_5 (List.mem_of_getElem? (i := 29) rfl) rfl
theorem tw_990 : (Jvm.Cond.selects "WideWholesModel" ({ cls := "WideWholesModel", name := "feed", desc := "(JI)I" } : Jvm.MethodName) ({ cls := "WideWholesModel", name := "feed", desc := "(JI)I" } : Jvm.MethodName)) ∈ bg := tm_5 (List.mem_of_getElem? (i := 30) rfl) rfl
theorem tw_991 : (Jvm.Cond.code ({ cls := "WideWholesModel", name := "feed", desc := "(JI)I" } : Jvm.MethodName) prog_12_method_25_code (5 : Nat) (Option.some Jvm.ClassFile.FieldType.int)) ∈ bg := tm_5 (List.mem_of_getElem? (i := 31) rfl) rfl
theorem tw_992 : (Jvm.Cond.methodLink "WideWholesLaw" (35 : Nat) ({ cls := "WideWholesModel", name := "read", desc := "(II)I" } : Jvm.MethodName)) ∈ bg := tm_5 (List.mem_of_getElem? (i := 32) rfl) rfl
theorem tw_993 : (Jvm.Cond.instanceMethod ({ cls := "WideWholesModel", name := "read", desc := "(II)I" } : Jvm.MethodName)) ∈ bg := tm_5 (List.mem_of_getElem? (i := 33) rfl) rfl
theorem tw_994 : (Jvm.Cond.selects "WideWholesModel" ({ cls := "WideWholesModel", name := "read", desc := "(II)I" } : Jvm.MethodName) ({ cls := "WideWholesModel", name := "read", desc := "(II)I" } : Jvm.MethodName)) ∈ bg := tm_5 (List.mem_of_getElem? (i := 34) rfl) rfl
theorem tw_995 : (Jvm.Cond.code ({ cls := "WideWholesModel", name := "read", desc := "(II)I" } : Jvm.MethodName) prog_12_method_27_code (10 : Nat) (Option.some Jvm.ClassFile.FieldType.int)) ∈ bg := tm_5 (List.mem_of_getElem? (i := 35) rfl) rfl
theorem tw_996 : (Jvm.Cond.methodLink "WideWholesModel" (34 : Nat) ({ cls := "WideWholesModel", name := "copy", desc := "(LWideWholesModel$Whole;)LWideWholesModel$Whole;" } : Jvm.MethodName)) ∈ bg := tm_5 (List.mem_of_getElem? (i := 36) rfl) rfl
theorem tw_998 : (Jvm.Cond.instanceMethod ({ cls := "WideWholesModel", name := "copy", desc := "(LWideWholesModel$Whole;)LWideWholesModel$Whole;" } : Jvm.MethodName)) ∈ bg := tm_5 (List.mem_of_getElem? (i := 38) rfl) rfl
theorem tw_999 : (Jvm.Cond.code ({ cls := "WideWholesModel", name := "copy", desc := "(LWideWholesModel$Whole;)LWideWholesModel$Whole;" } : Jvm.MethodName) prog_12_method_4_code (3 : Nat) (Option.some (Jvm.ClassFile.FieldType.object "WideWholesModel$Whole"))) ∈ bg := tm_5 (List.mem_of_getElem? (i := 39) rfl) rfl
theorem tw_1000 : (Jvm.Cond.methodLink "WideWholesModel" (187 : Nat) ({ cls := "WideWholesModel", name := "digitOf", desc := "(I)I" } : Jvm.MethodName)) ∈ bg := tm_5 (List.mem_of_getElem? (i := 40) rfl) rfl
theorem tw_1001 : (Jvm.Cond.static ({ cls := "WideWholesModel", name := "digitOf", desc := "(I)I" } : Jvm.MethodName)) ∈ bg := tm_5 (List.mem_of_getElem? (i := 41) rfl) rfl
theorem tw_1002 : (Jvm.Cond.code ({ cls := "WideWholesModel", name := "digitOf", desc := "(I)I" } : Jvm.MethodName) prog_12_method_26_code (1 : Nat) (Option.some Jvm.ClassFile.FieldType.int)) ∈ bg := tm_5 (List.mem_of_getElem? (i := 42) rfl) rfl
theorem tw_1003 : (Jvm.Cond.methodLink "WideWholesModel" (122 : Nat) ({ cls := "WideWholesModel", name := "times", desc := "(LWideWholesModel$Whole;LWideWholesModel$Whole;)LWideWholesModel$Whole;" } : Jvm.MethodName)) ∈ bg := tm_5 (List.mem_of_getElem? (i := 43) rfl) rfl
theorem tw_1005 : (Jvm.Cond.instanceMethod ({ cls := "WideWholesModel", name := "times", desc := "(LWideWholesModel$Whole;LWideWholesModel$Whole;)LWideWholesModel$Whole;" } : Jvm.MethodName)) ∈ bg := tm_5 (List.mem_of_getElem? (i := 45) rfl) rfl
theorem tw_1006 : (Jvm.Cond.code ({ cls := "WideWholesModel", name := "times", desc := "(LWideWholesModel$Whole;LWideWholesModel$Whole;)LWideWholesModel$Whole;" } : Jvm.MethodName) prog_12_method_13_code (11 : Nat) (Option.some (Jvm.ClassFile.FieldType.object "WideWholesModel$Whole"))) ∈ bg := tm_5 (List.mem_of_getElem? (i := 46) rfl) rfl
theorem tw_1007 : (Jvm.Cond.methodLink "WideWholesModel" (116 : Nat) ({ cls := "WideWholesModel", name := "sum", desc := "(LWideWholesModel$Whole;LWideWholesModel$Whole;)LWideWholesModel$Whole;" } : Jvm.MethodName)) ∈ bg := tm_5 (List.mem_of_getElem? (i := 47) rfl) rfl
theorem tw_1009 : (Jvm.Cond.instanceMethod ({ cls := "WideWholesModel", name := "sum", desc := "(LWideWholesModel$Whole;LWideWholesModel$Whole;)LWideWholesModel$Whole;" } : Jvm.MethodName)) ∈ bg := tm_5 (List.mem_of_getElem? (i := 49) rfl) rfl
theorem tw_1010 : (Jvm.Cond.code ({ cls := "WideWholesModel", name := "sum", desc := "(LWideWholesModel$Whole;LWideWholesModel$Whole;)LWideWholesModel$Whole;" } : Jvm.MethodName) prog_12_method_10_code (3 : Nat) (Option.some (Jvm.ClassFile.FieldType.object "WideWholesModel$Whole"))) ∈ bg := tm_5 (List.mem_of_getElem? (i := 50) rfl) rfl
theorem tw_1011 : (Jvm.Cond.methodLink "WideWholesModel" (60 : Nat) ({ cls := "WideWholesModel$Whole", name := "isZero", desc := "()Z" } : Jvm.MethodName)) ∈ bg := tm_5 (List.mem_of_getElem? (i := 51) rfl) rfl
theorem tw_1012 : (Jvm.Cond.instanceMethod ({ cls := "WideWholesModel$Whole", name := "isZero", desc := "()Z" } : Jvm.MethodName)) ∈ bg := tm_5 (List.mem_of_getElem? (i := 52) rfl) rfl
theorem tw_1013 : (Jvm.Cond.selects "WideWholesModel$Whole" ({ cls := "WideWholesModel$Whole", name := "isZero", desc := "()Z" } : Jvm.MethodName) ({ cls := "WideWholesModel$Whole", name := "isZero", desc := "()Z" } : Jvm.MethodName)) ∈ bg := tm_5 (List.mem_of_getElem? (i := 53) rfl) rfl
theorem tw_1014 : (Jvm.Cond.code ({ cls := "WideWholesModel$Whole", name := "isZero", desc := "()Z" } : Jvm.MethodName) prog_13_method_2_code (1 : Nat) (Option.some Jvm.ClassFile.FieldType.boolean)) ∈ bg := tm_5 (List.mem_of_getElem? (i := 54) rfl) rfl
theorem tw_1015 : (Jvm.Cond.methodLink "WideWholesModel" (64 : Nat) ({ cls := "WideWholesModel", name := "sum", desc := "(LWideWholesModel$Whole;LWideWholesModel$Whole;Z)LWideWholesModel$Whole;" } : Jvm.MethodName)) ∈ bg := tm_5 (List.mem_of_getElem? (i := 55) rfl) rfl
theorem tw_1017 : (Jvm.Cond.instanceMethod ({ cls := "WideWholesModel", name := "sum", desc := "(LWideWholesModel$Whole;LWideWholesModel$Whole;Z)LWideWholesModel$Whole;" } : Jvm.MethodName)) ∈ bg := tm_5 (List.mem_of_getElem? (i := 57) rfl) rfl
theorem tw_1018 : (Jvm.Cond.code ({ cls := "WideWholesModel", name := "sum", desc := "(LWideWholesModel$Whole;LWideWholesModel$Whole;Z)LWideWholesModel$Whole;" } : Jvm.MethodName) prog_12_method_9_code (9 : Nat) (Option.some (Jvm.ClassFile.FieldType.object "WideWholesModel$Whole"))) ∈ bg := tm_5 (List.mem_of_getElem? (i := 58) rfl) rfl
theorem tw_1019 : (Jvm.Cond.methodLink "WideWholesModel" (45 : Nat) ({ cls := "WideWholesModel", name := "compareSizes", desc := "(LWideWholesModel$Whole;LWideWholesModel$Whole;)I" } : Jvm.MethodName)) ∈ bg := tm_5 (List.mem_of_getElem? (i := 59) rfl) rfl
theorem tw_1020 : (Jvm.Cond.static ({ cls := "WideWholesModel", name := "compareSizes", desc := "(LWideWholesModel$Whole;LWideWholesModel$Whole;)I" } : Jvm.MethodName)) ∈ bg := tm_5 (List.mem_of_getElem? (i := 60) rfl) rfl
theorem tw_1021 : (Jvm.Cond.code ({ cls := "WideWholesModel", name := "compareSizes", desc := "(LWideWholesModel$Whole;LWideWholesModel$Whole;)I" } : Jvm.MethodName) prog_12_method_7_code (3 : Nat) (Option.some Jvm.ClassFile.FieldType.int)) ∈ bg := tm_5 (List.mem_of_getElem? (i := 61) rfl) rfl
theorem tw_1022 : (Jvm.Cond.methodLink "WideWholesModel" (49 : Nat) ({ cls := "WideWholesModel", name := "lessSize", desc := "(LWideWholesModel$Whole;LWideWholesModel$Whole;Z)LWideWholesModel$Whole;" } : Jvm.MethodName)) ∈ bg := tm_5 (List.mem_of_getElem? (i := 62) rfl) rfl
theorem tw_1024 : (Jvm.Cond.instanceMethod ({ cls := "WideWholesModel", name := "lessSize", desc := "(LWideWholesModel$Whole;LWideWholesModel$Whole;Z)LWideWholesModel$Whole;" } : Jvm.MethodName)) ∈ bg := tm_5 (List.mem_of_getElem? (i := 64) rfl) rfl
theorem tw_1025 : (Jvm.Cond.code ({ cls := "WideWholesModel", name := "lessSize", desc := "(LWideWholesModel$Whole;LWideWholesModel$Whole;Z)LWideWholesModel$Whole;" } : Jvm.MethodName) prog_12_method_12_code (8 : Nat) (Option.some (Jvm.ClassFile.FieldType.object "WideWholesModel$Whole"))) ∈ bg := tm_5 (List.mem_of_getElem? (i := 65) rfl) rfl
theorem tw_1026 : (Jvm.Cond.constant "WideWholesModel" (59 : Nat) (65535 : Int32)) ∈ bg := tm_5 (List.mem_of_getElem? (i := 66) rfl) rfl
theorem tw_1027 : (Jvm.Cond.methodLink "WideWholesModel" (53 : Nat) ({ cls := "java/lang/Math", name := "max", desc := "(II)I" } : Jvm.MethodName)) ∈ bg := tm_5 (List.mem_of_getElem? (i := 67) rfl) rfl
theorem tw_1028 : (Jvm.Cond.methodLink "WideWholesModel" (67 : Nat) ({ cls := "WideWholesModel", name := "negative", desc := "(LWideWholesModel$Whole;)LWideWholesModel$Whole;" } : Jvm.MethodName)) ∈ bg := tm_5 (List.mem_of_getElem? (i := 68) rfl) rfl
theorem tw_1030 : (Jvm.Cond.instanceMethod ({ cls := "WideWholesModel", name := "negative", desc := "(LWideWholesModel$Whole;)LWideWholesModel$Whole;" } : Jvm.MethodName)) ∈ bg := tm_5 (List.mem_of_getElem? (i := 70) rfl) rfl
theorem tw_1031 : (Jvm.Cond.code ({ cls := "WideWholesModel", name := "negative", desc := "(LWideWholesModel$Whole;)LWideWholesModel$Whole;" } : Jvm.MethodName) prog_12_method_6_code (3 : Nat) (Option.some (Jvm.ClassFile.FieldType.object "WideWholesModel$Whole"))) ∈ bg := tm_5 (List.mem_of_getElem? (i := 71) rfl) rfl
theorem tw_1032 : (Jvm.Cond.methodLink "WideWholesLaw" (39 : Nat) ({ cls := "WideWholesModel", name := "write", desc := "(II)I" } : Jvm.MethodName)) ∈ bg := tm_5 (List.mem_of_getElem? (i := 72) rfl) rfl
theorem tw_1033 : (Jvm.Cond.instanceMethod ({ cls := "WideWholesModel", name := "write", desc := "(II)I" } : Jvm.MethodName)) ∈ bg := tm_5 (List.mem_of_getElem? (i := 73) rfl) rfl
theorem tw_1034 : (Jvm.Cond.selects "WideWholesModel" ({ cls := "WideWholesModel", name := "write", desc := "(II)I" } : Jvm.MethodName) ({ cls := "WideWholesModel", name := "write", desc := "(II)I" } : Jvm.MethodName)) ∈ bg := tm_5 (List.mem_of_getElem? (i := 74) rfl) rfl
theorem tw_1035 : (Jvm.Cond.code ({ cls := "WideWholesModel", name := "write", desc := "(II)I" } : Jvm.MethodName) prog_12_method_28_code (9 : Nat) (Option.some Jvm.ClassFile.FieldType.int)) ∈ bg := tm_5 (List.mem_of_getElem? (i := 75) rfl) rfl
theorem tw_1036 : (Jvm.Cond.methodLink "WideWholesModel" (81 : Nat) ({ cls := "WideWholesModel", name := "sized", desc := "(LWideWholesModel$Whole;)LWideWholesModel$Whole;" } : Jvm.MethodName)) ∈ bg := tm_5 (List.mem_of_getElem? (i := 76) rfl) rfl
theorem tw_1038 : (Jvm.Cond.instanceMethod ({ cls := "WideWholesModel", name := "sized", desc := "(LWideWholesModel$Whole;)LWideWholesModel$Whole;" } : Jvm.MethodName)) ∈ bg := tm_5 (List.mem_of_getElem? (i := 78) rfl) rfl
theorem tw_1039 : (Jvm.Cond.code ({ cls := "WideWholesModel", name := "sized", desc := "(LWideWholesModel$Whole;)LWideWholesModel$Whole;" } : Jvm.MethodName) prog_12_method_5_code (3 : Nat) (Option.some (Jvm.ClassFile.FieldType.object "WideWholesModel$Whole"))) ∈ bg := tm_5 (List.mem_of_getElem? (i := 79) rfl) rfl
theorem tw_1040 : (Jvm.Cond.methodLink "WideWholesModel" (110 : Nat) ({ cls := "WideWholesModel", name := "divide", desc := "(LWideWholesModel$Whole;LWideWholesModel$Whole;)V" } : Jvm.MethodName)) ∈ bg := tm_5 (List.mem_of_getElem? (i := 80) rfl) rfl
theorem tw_1042 : (Jvm.Cond.instanceMethod ({ cls := "WideWholesModel", name := "divide", desc := "(LWideWholesModel$Whole;LWideWholesModel$Whole;)V" } : Jvm.MethodName)) ∈ bg := tm_5 (List.mem_of_getElem? (i := 82) rfl) rfl
theorem tw_1043 : (Jvm.Cond.code ({ cls := "WideWholesModel", name := "divide", desc := "(LWideWholesModel$Whole;LWideWholesModel$Whole;)V" } : Jvm.MethodName) prog_12_method_15_code (9 : Nat) (Option.none : Option Jvm.ClassFile.FieldType)) ∈ bg := tm_5 (List.mem_of_getElem? (i := 83) rfl) rfl
theorem tw_1044 : (Jvm.Cond.methodLink "WideWholesModel" (90 : Nat) ({ cls := "WideWholesModel", name := "divideLong", desc := "(LWideWholesModel$Whole;LWideWholesModel$Whole;)V" } : Jvm.MethodName)) ∈ bg := tm_5 (List.mem_of_getElem? (i := 84) rfl) rfl
theorem tw_1046 : (Jvm.Cond.instanceMethod ({ cls := "WideWholesModel", name := "divideLong", desc := "(LWideWholesModel$Whole;LWideWholesModel$Whole;)V" } : Jvm.MethodName)) ∈ bg := tm_5 (List.mem_of_getElem? (i := 86) rfl) rfl
theorem tw_1047 : (Jvm.Cond.code ({ cls := "WideWholesModel", name := "divideLong", desc := "(LWideWholesModel$Whole;LWideWholesModel$Whole;)V" } : Jvm.MethodName) prog_12_method_16_code (21 : Nat) (Option.none : Option Jvm.ClassFile.FieldType)) ∈ bg := tm_5 (List.mem_of_getElem? (i := 87) rfl) rfl
theorem tw_1048 : (Jvm.Cond.methodLink "WideWholesModel" (94 : Nat) ({ cls := "java/lang/Integer", name := "numberOfLeadingZeros", desc := "(I)I" } : Jvm.MethodName)) ∈ bg := tm_5 (List.mem_of_getElem? (i := 88) rfl) rfl
theorem tw_1049 : (Jvm.Cond.methodLink "WideWholesModel" (100 : Nat) ({ cls := "WideWholesModel", name := "moved", desc := "(LWideWholesModel$Whole;I)LWideWholesModel$Whole;" } : Jvm.MethodName)) ∈ bg := tm_5 (List.mem_of_getElem? (i := 89) rfl) rfl
theorem tw_1051 : (Jvm.Cond.instanceMethod ({ cls := "WideWholesModel", name := "moved", desc := "(LWideWholesModel$Whole;I)LWideWholesModel$Whole;" } : Jvm.MethodName)) ∈ bg := tm_5 (List.mem_of_getElem? (i := 91) rfl) rfl
theorem tw_1052 : (Jvm.Cond.code ({ cls := "WideWholesModel", name := "moved", desc := "(LWideWholesModel$Whole;I)LWideWholesModel$Whole;" } : Jvm.MethodName) prog_12_method_14_code (7 : Nat) (Option.some (Jvm.ClassFile.FieldType.object "WideWholesModel$Whole"))) ∈ bg := tm_5 (List.mem_of_getElem? (i := 92) rfl) rfl
theorem tw_1053 : (Jvm.Cond.methodLink "WideWholesModel" (70 : Nat) ({ cls := "WideWholesModel$Whole", name := "bit", desc := "(I)Z" } : Jvm.MethodName)) ∈ bg := tm_5 (List.mem_of_getElem? (i := 93) rfl) rfl
theorem tw_1054 : (Jvm.Cond.instanceMethod ({ cls := "WideWholesModel$Whole", name := "bit", desc := "(I)Z" } : Jvm.MethodName)) ∈ bg := tm_5 (List.mem_of_getElem? (i := 94) rfl) rfl
theorem tw_1055 : (Jvm.Cond.selects "WideWholesModel$Whole" ({ cls := "WideWholesModel$Whole", name := "bit", desc := "(I)Z" } : Jvm.MethodName) ({ cls := "WideWholesModel$Whole", name := "bit", desc := "(I)Z" } : Jvm.MethodName)) ∈ bg := tm_5 (List.mem_of_getElem? (i := 95) rfl) rfl
theorem tw_1056 : (Jvm.Cond.code ({ cls := "WideWholesModel$Whole", name := "bit", desc := "(I)Z" } : Jvm.MethodName) prog_13_method_4_code (2 : Nat) (Option.some Jvm.ClassFile.FieldType.boolean)) ∈ bg := tm_5 (List.mem_of_getElem? (i := 96) rfl) rfl
theorem tw_1057 : (Jvm.Cond.methodLink "WideWholesModel" (104 : Nat) ({ cls := "java/lang/Math", name := "min", desc := "(JJ)J" } : Jvm.MethodName)) ∈ bg := tm_5 (List.mem_of_getElem? (i := 97) rfl) rfl
theorem tw_1058 : (Jvm.Cond.static ({ cls := "java/lang/Math", name := "min", desc := "(JJ)J" } : Jvm.MethodName)) ∈ bg := tm_5 (List.mem_of_getElem? (i := 98) rfl) rfl
theorem tw_1059 : (Jvm.Cond.code ({ cls := "java/lang/Math", name := "min", desc := "(JJ)J" } : Jvm.MethodName) prog_18_method_70_code (4 : Nat) (Option.some Jvm.ClassFile.FieldType.long)) ∈ bg := tm_5 (List.mem_of_getElem? (i := 99) rfl) rfl
theorem tw_1060 : (Jvm.Cond.constantLong "WideWholesModel" (108 : Nat) (65536 : Int64)) ∈ bg := tm_5 (List.mem_of_getElem? (i := 100) rfl) rfl
theorem tw_1061 : (Jvm.Cond.methodLink "WideWholesLaw" (45 : Nat) ({ cls := "WideWholesModel", name := "out", desc := "(I)I" } : Jvm.MethodName)) ∈ bg := tm_5 (List.mem_of_getElem? (i := 101) rfl) rfl
theorem tw_1062 : (Jvm.Cond.instanceMethod ({ cls := "WideWholesModel", name := "out", desc := "(I)I" } : Jvm.MethodName)) ∈ bg := tm_5 (List.mem_of_getElem? (i := 102) rfl) rfl
theorem tw_1063 : (Jvm.Cond.selects "WideWholesModel" ({ cls := "WideWholesModel", name := "out", desc := "(I)I" } : Jvm.MethodName) ({ cls := "WideWholesModel", name := "out", desc := "(I)I" } : Jvm.MethodName)) ∈ bg := tm_5 (List.mem_of_getElem? (i := 103) rfl) rfl
theorem tw_1064 : (Jvm.Cond.code ({ cls := "WideWholesModel", name := "out", desc := "(I)I" } : Jvm.MethodName) prog_12_method_29_code (2 : Nat) (Option.some Jvm.ClassFile.FieldType.int)) ∈ bg := tm_5 (List.mem_of_getElem? (i := 104) rfl) rfl
theorem tw_1065 : (Jvm.Cond.methodLink "WideWholesLaw" (54 : Nat) ({ cls := "WideWholesModel", name := "low", desc := "(I)J" } : Jvm.MethodName)) ∈ bg := tm_5 (List.mem_of_getElem? (i := 105) rfl) rfl
theorem tw_1066 : (Jvm.Cond.instanceMethod ({ cls := "WideWholesModel", name := "low", desc := "(I)J" } : Jvm.MethodName)) ∈ bg := tm_5 (List.mem_of_getElem? (i := 106) rfl) rfl
theorem tw_1067 : (Jvm.Cond.selects "WideWholesModel" ({ cls := "WideWholesModel", name := "low", desc := "(I)J" } : Jvm.MethodName) ({ cls := "WideWholesModel", name := "low", desc := "(I)J" } : Jvm.MethodName)) ∈ bg := tm_5 (List.mem_of_getElem? (i := 107) rfl) rfl
theorem tw_1068 : (Jvm.Cond.code ({ cls := "WideWholesModel", name := "low", desc := "(I)J" } : Jvm.MethodName) prog_12_method_31_code (2 : Nat) (Option.some Jvm.ClassFile.FieldType.long)) ∈ bg := tm_5 (List.mem_of_getElem? (i := 108) rfl) rfl
theorem tw_1069 : (Jvm.Cond.methodLink "WideWholesModel" (193 : Nat) ({ cls := "WideWholesModel", name := "lowest", desc := "(LWideWholesModel$Whole;)J" } : Jvm.MethodName)) ∈ bg := tm_5 (List.mem_of_getElem? (i := 109) rfl) rfl
theorem tw_1070 : (Jvm.Cond.static ({ cls := "WideWholesModel", name := "lowest", desc := "(LWideWholesModel$Whole;)J" } : Jvm.MethodName)) ∈ bg := tm_5 (List.mem_of_getElem? (i := 110) rfl) rfl
theorem tw_1071 : (Jvm.Cond.code ({ cls := "WideWholesModel", name := "lowest", desc := "(LWideWholesModel$Whole;)J" } : Jvm.MethodName) prog_12_method_30_code (4 : Nat) (Option.some Jvm.ClassFile.FieldType.long)) ∈ bg := tm_5 (List.mem_of_getElem? (i := 111) rfl) rfl
theorem tw_1072 : (Jvm.Cond.methodLink "WideWholesLaw" (58 : Nat) ({ cls := "WideWholesModel", name := "limbs", desc := "(I)I" } : Jvm.MethodName)) ∈ bg := tm_5 (List.mem_of_getElem? (i := 112) rfl) rfl
theorem tw_1073 : (Jvm.Cond.instanceMethod ({ cls := "WideWholesModel", name := "limbs", desc := "(I)I" } : Jvm.MethodName)) ∈ bg := tm_5 (List.mem_of_getElem? (i := 113) rfl) rfl
theorem tw_1074 : (Jvm.Cond.selects "WideWholesModel" ({ cls := "WideWholesModel", name := "limbs", desc := "(I)I" } : Jvm.MethodName) ({ cls := "WideWholesModel", name := "limbs", desc := "(I)I" } : Jvm.MethodName)) ∈ bg := tm_5 (List.mem_of_getElem? (i := 114) rfl) rfl
theorem tw_1075 : (Jvm.Cond.code ({ cls := "WideWholesModel", name := "limbs", desc := "(I)I" } : Jvm.MethodName) prog_12_method_33_code (2 : Nat) (Option.some Jvm.ClassFile.FieldType.int)) ∈ bg := tm_5 (List.mem_of_getElem? (i := 115) rfl) rfl
theorem tw_1076 : (Jvm.Cond.methodLink "WideWholesModel" (200 : Nat) ({ cls := "WideWholesModel", name := "isShort", desc := "(LWideWholesModel$Whole;)Z" } : Jvm.MethodName)) ∈ bg := tm_5 (List.mem_of_getElem? (i := 116) rfl) rfl
theorem tw_1078 : (Jvm.Cond.instanceMethod ({ cls := "WideWholesModel", name := "isShort", desc := "(LWideWholesModel$Whole;)Z" } : Jvm.MethodName)) ∈ bg := tm_5 (List.mem_of_getElem? (i := 118) rfl) rfl
theorem tw_1079 : (Jvm.Cond.code ({ cls := "WideWholesModel", name := "isShort", desc := "(LWideWholesModel$Whole;)Z" } : Jvm.MethodName) prog_12_method_32_code (2 : Nat) (Option.some Jvm.ClassFile.FieldType.boolean)) ∈ bg := tm_5 (List.mem_of_getElem? (i := 119) rfl) rfl
theorem tw_1080 : (Jvm.Cond.methodLink "WideWholesModel" (197 : Nat) ({ cls := "WideWholesModel", name := "compare", desc := "(LWideWholesModel$Whole;LWideWholesModel$Whole;)I" } : Jvm.MethodName)) ∈ bg := tm_5 (List.mem_of_getElem? (i := 120) rfl) rfl
theorem tw_1081 : (Jvm.Cond.static ({ cls := "WideWholesModel", name := "compare", desc := "(LWideWholesModel$Whole;LWideWholesModel$Whole;)I" } : Jvm.MethodName)) ∈ bg := tm_5 (List.mem_of_getElem? (i := 121) rfl) rfl
theorem tw_1082 : (Jvm.Cond.code ({ cls := "WideWholesModel", name := "compare", desc := "(LWideWholesModel$Whole;LWideWholesModel$Whole;)I" } : Jvm.MethodName) prog_12_method_8_code (3 : Nat) (Option.some Jvm.ClassFile.FieldType.int)) ∈ bg := tm_5 (List.mem_of_getElem? (i := 122) rfl) rfl
theorem tw_1083 : (Jvm.Cond.methodLink "WideWholesLaw" (63 : Nat) ({ cls := "WideWholesModel", name := "limb", desc := "(II)J" } : Jvm.MethodName)) ∈ bg := tm_5 (List.mem_of_getElem? (i := 123) rfl) rfl
theorem tw_1084 : (Jvm.Cond.instanceMethod ({ cls := "WideWholesModel", name := "limb", desc := "(II)J" } : Jvm.MethodName)) ∈ bg := tm_5 (List.mem_of_getElem? (i := 124) rfl) rfl
theorem tw_1085 : (Jvm.Cond.selects "WideWholesModel" ({ cls := "WideWholesModel", name := "limb", desc := "(II)J" } : Jvm.MethodName) ({ cls := "WideWholesModel", name := "limb", desc := "(II)J" } : Jvm.MethodName)) ∈ bg := tm_5 (List.mem_of_getElem? (i := 125) rfl) rfl
theorem tw_1086 : (Jvm.Cond.code ({ cls := "WideWholesModel", name := "limb", desc := "(II)J" } : Jvm.MethodName) prog_12_method_34_code (8 : Nat) (Option.some Jvm.ClassFile.FieldType.long)) ∈ bg := tm_5 (List.mem_of_getElem? (i := 126) rfl) rfl
theorem tw_1087 : (Jvm.Cond.methodLink "WideWholesLaw" (67 : Nat) ({ cls := "WideWholesModel", name := "compare", desc := "(II)I" } : Jvm.MethodName)) ∈ bg := tm_5 (List.mem_of_getElem? (i := 127) rfl) rfl
theorem tw_1088 : (Jvm.Cond.instanceMethod ({ cls := "WideWholesModel", name := "compare", desc := "(II)I" } : Jvm.MethodName)) ∈ bg := tm_5 (List.mem_of_getElem? (i := 128) rfl) rfl
theorem tw_1089 : (Jvm.Cond.selects "WideWholesModel" ({ cls := "WideWholesModel", name := "compare", desc := "(II)I" } : Jvm.MethodName) ({ cls := "WideWholesModel", name := "compare", desc := "(II)I" } : Jvm.MethodName)) ∈ bg := tm_5 (List.mem_of_getElem? (i := 129) rfl) rfl
theorem tw_1090 : (Jvm.Cond.code ({ cls := "WideWholesModel", name := "compare", desc := "(II)I" } : Jvm.MethodName) prog_12_method_35_code (3 : Nat) (Option.some Jvm.ClassFile.FieldType.int)) ∈ bg := tm_5 (List.mem_of_getElem? (i := 130) rfl) rfl
theorem tw_1091 : (Jvm.Cond.methodLink "WideWholesLaw" (72 : Nat) ({ cls := "WideWholesModel", name := "act", desc := "(IIII)I" } : Jvm.MethodName)) ∈ bg := tm_5 (List.mem_of_getElem? (i := 131) rfl) rfl
theorem tw_1092 : (Jvm.Cond.instanceMethod ({ cls := "WideWholesModel", name := "act", desc := "(IIII)I" } : Jvm.MethodName)) ∈ bg := tm_5 (List.mem_of_getElem? (i := 132) rfl) rfl
theorem tw_1093 : (Jvm.Cond.selects "WideWholesModel" ({ cls := "WideWholesModel", name := "act", desc := "(IIII)I" } : Jvm.MethodName) ({ cls := "WideWholesModel", name := "act", desc := "(IIII)I" } : Jvm.MethodName)) ∈ bg := tm_5 (List.mem_of_getElem? (i := 133) rfl) rfl
theorem tw_1094 : (Jvm.Cond.code ({ cls := "WideWholesModel", name := "act", desc := "(IIII)I" } : Jvm.MethodName) prog_12_method_37_code (5 : Nat) (Option.some Jvm.ClassFile.FieldType.int)) ∈ bg := tm_5 (List.mem_of_getElem? (i := 134) rfl) rfl
theorem tw_1095 : (Jvm.Cond.methodLink "WideWholesModel" (203 : Nat) ({ cls := "WideWholesModel", name := "acted", desc := "(ILWideWholesModel$Whole;LWideWholesModel$Whole;)LWideWholesModel$Whole;" } : Jvm.MethodName)) ∈ bg := tm_5 (List.mem_of_getElem? (i := 135) rfl) rfl
theorem tw_1097 : (Jvm.Cond.instanceMethod ({ cls := "WideWholesModel", name := "acted", desc := "(ILWideWholesModel$Whole;LWideWholesModel$Whole;)LWideWholesModel$Whole;" } : Jvm.MethodName)) ∈ bg := tm_5 (List.mem_of_getElem? (i := 137) rfl) rfl
theorem tw_1098 : (Jvm.Cond.code ({ cls := "WideWholesModel", name := "acted", desc := "(ILWideWholesModel$Whole;LWideWholesModel$Whole;)LWideWholesModel$Whole;" } : Jvm.MethodName) prog_12_method_36_code (4 : Nat) (Option.some (Jvm.ClassFile.FieldType.object "WideWholesModel$Whole"))) ∈ bg := tm_5 (List.mem_of_getElem? (i := 138) rfl) rfl
theorem tw_1099 : (Jvm.Cond.methodLink "WideWholesModel" (119 : Nat) ({ cls := "WideWholesModel", name := "less", desc := "(LWideWholesModel$Whole;LWideWholesModel$Whole;)LWideWholesModel$Whole;" } : Jvm.MethodName)) ∈ bg := tm_5 (List.mem_of_getElem? (i := 139) rfl) rfl
theorem tw_1101 : (Jvm.Cond.instanceMethod ({ cls := "WideWholesModel", name := "less", desc := "(LWideWholesModel$Whole;LWideWholesModel$Whole;)LWideWholesModel$Whole;" } : Jvm.MethodName)) ∈ bg := tm_5 (List.mem_of_getElem? (i := 141) rfl) rfl
theorem tw_1102 : (Jvm.Cond.code ({ cls := "WideWholesModel", name := "less", desc := "(LWideWholesModel$Whole;LWideWholesModel$Whole;)LWideWholesModel$Whole;" } : Jvm.MethodName) prog_12_method_11_code (3 : Nat) (Option.some (Jvm.ClassFile.FieldType.object "WideWholesModel$Whole"))) ∈ bg := tm_5 (List.mem_of_getElem? (i := 142) rfl) rfl
theorem tw_1103 : (Jvm.Cond.methodLink "WideWholesLaw" (77 : Nat) ({ cls := "WideWholesModel", name := "over", desc := "(IIIII)I" } : Jvm.MethodName)) ∈ bg := tm_5 (List.mem_of_getElem? (i := 143) rfl) rfl
theorem tw_1104 : (Jvm.Cond.instanceMethod ({ cls := "WideWholesModel", name := "over", desc := "(IIIII)I" } : Jvm.MethodName)) ∈ bg := tm_5 (List.mem_of_getElem? (i := 144) rfl) rfl
theorem tw_1105 : (Jvm.Cond.selects "WideWholesModel" ({ cls := "WideWholesModel", name := "over", desc := "(IIIII)I" } : Jvm.MethodName) ({ cls := "WideWholesModel", name := "over", desc := "(IIIII)I" } : Jvm.MethodName)) ∈ bg := tm_5 (List.mem_of_getElem? (i := 145) rfl) rfl
theorem tw_1106 : (Jvm.Cond.code ({ cls := "WideWholesModel", name := "over", desc := "(IIIII)I" } : Jvm.MethodName) prog_12_method_38_code (6 : Nat) (Option.some Jvm.ClassFile.FieldType.int)) ∈ bg := tm_5 (List.mem_of_getElem? (i := 146) rfl) rfl
theorem tw_1107 : (Jvm.Cond.methodLink "WideWholesModel" (207 : Nat) ({ cls := "WideWholesModel", name := "over", desc := "(ILWideWholesModel$Whole;LWideWholesModel$Whole;)V" } : Jvm.MethodName)) ∈ bg := tm_5 (List.mem_of_getElem? (i := 147) rfl) rfl
theorem tw_1109 : (Jvm.Cond.instanceMethod ({ cls := "WideWholesModel", name := "over", desc := "(ILWideWholesModel$Whole;LWideWholesModel$Whole;)V" } : Jvm.MethodName)) ∈ bg := tm_5 (List.mem_of_getElem? (i := 149) rfl) rfl
theorem tw_1110 : (Jvm.Cond.code ({ cls := "WideWholesModel", name := "over", desc := "(ILWideWholesModel$Whole;LWideWholesModel$Whole;)V" } : Jvm.MethodName) prog_12_method_17_code (6 : Nat) (Option.none : Option Jvm.ClassFile.FieldType)) ∈ bg := tm_5 (List.mem_of_getElem? (i := 150) rfl) rfl
theorem tw_1111 : (Jvm.Cond.methodLink "WideWholesLaw" (82 : Nat) ({ cls := "WideWholesModel", name := "divisor", desc := "(III)I" } : Jvm.MethodName)) ∈ bg := tm_5 (List.mem_of_getElem? (i := 151) rfl) rfl
theorem tw_1112 : (Jvm.Cond.instanceMethod ({ cls := "WideWholesModel", name := "divisor", desc := "(III)I" } : Jvm.MethodName)) ∈ bg := tm_5 (List.mem_of_getElem? (i := 152) rfl) rfl
theorem tw_1113 : (Jvm.Cond.selects "WideWholesModel" ({ cls := "WideWholesModel", name := "divisor", desc := "(III)I" } : Jvm.MethodName) ({ cls := "WideWholesModel", name := "divisor", desc := "(III)I" } : Jvm.MethodName)) ∈ bg := tm_5 (List.mem_of_getElem? (i := 153) rfl) rfl
theorem tw_1114 : (Jvm.Cond.code ({ cls := "WideWholesModel", name := "divisor", desc := "(III)I" } : Jvm.MethodName) prog_12_method_39_code (4 : Nat) (Option.some Jvm.ClassFile.FieldType.int)) ∈ bg := tm_5 (List.mem_of_getElem? (i := 154) rfl) rfl
theorem tw_1115 : (Jvm.Cond.methodLink "WideWholesModel" (211 : Nat) ({ cls := "WideWholesModel", name := "gcd", desc := "(LWideWholesModel$Whole;LWideWholesModel$Whole;)LWideWholesModel$Whole;" } : Jvm.MethodName)) ∈ bg := tm_5 (List.mem_of_getElem? (i := 155) rfl) rfl
theorem tw_1117 : (Jvm.Cond.instanceMethod ({ cls := "WideWholesModel", name := "gcd", desc := "(LWideWholesModel$Whole;LWideWholesModel$Whole;)LWideWholesModel$Whole;" } : Jvm.MethodName)) ∈ bg := tm_5 (List.mem_of_getElem? (i := 157) rfl) rfl
theorem tw_1118 : (Jvm.Cond.code ({ cls := "WideWholesModel", name := "gcd", desc := "(LWideWholesModel$Whole;LWideWholesModel$Whole;)LWideWholesModel$Whole;" } : Jvm.MethodName) prog_12_method_18_code (4 : Nat) (Option.some (Jvm.ClassFile.FieldType.object "WideWholesModel$Whole"))) ∈ bg := tm_5 (List.mem_of_getElem? (i := 158) rfl) rfl
theorem tw_1119 : (Jvm.Cond.methodLink "WideWholesLaw" (86 : Nat) ({ cls := "WideWholesModel", name := "power", desc := "(III)I" } : Jvm.MethodName)) ∈ bg := tm_5 (List.mem_of_getElem? (i := 159) rfl) rfl
theorem tw_1120 : (Jvm.Cond.instanceMethod ({ cls := "WideWholesModel", name := "power", desc := "(III)I" } : Jvm.MethodName)) ∈ bg := tm_5 (List.mem_of_getElem? (i := 160) rfl) rfl
theorem tw_1121 : (Jvm.Cond.selects "WideWholesModel" ({ cls := "WideWholesModel", name := "power", desc := "(III)I" } : Jvm.MethodName) ({ cls := "WideWholesModel", name := "power", desc := "(III)I" } : Jvm.MethodName)) ∈ bg := tm_5 (List.mem_of_getElem? (i := 161) rfl) rfl
theorem tw_1122 : (Jvm.Cond.code ({ cls := "WideWholesModel", name := "power", desc := "(III)I" } : Jvm.MethodName) prog_12_method_40_code (8 : Nat) (Option.some Jvm.ClassFile.FieldType.int)) ∈ bg := tm_5 (List.mem_of_getElem? (i := 162) rfl) rfl
theorem tw_1123 : (Jvm.Cond.methodLink "WideWholesLaw" (90 : Nat) ({ cls := "WideWholesModel", name := "root", desc := "(III)I" } : Jvm.MethodName)) ∈ bg := tm_5 (List.mem_of_getElem? (i := 163) rfl) rfl
theorem tw_1124 : (Jvm.Cond.instanceMethod ({ cls := "WideWholesModel", name := "root", desc := "(III)I" } : Jvm.MethodName)) ∈ bg := tm_5 (List.mem_of_getElem? (i := 164) rfl) rfl
theorem tw_1125 : (Jvm.Cond.selects "WideWholesModel" ({ cls := "WideWholesModel", name := "root", desc := "(III)I" } : Jvm.MethodName) ({ cls := "WideWholesModel", name := "root", desc := "(III)I" } : Jvm.MethodName)) ∈ bg := tm_5 (List.mem_of_getElem? (i := 165) rfl) rfl
theorem tw_1126 : (Jvm.Cond.code ({ cls := "WideWholesModel", name := "root", desc := "(III)I" } : Jvm.MethodName) prog_12_method_42_code (9 : Nat) (Option.some Jvm.ClassFile.FieldType.int)) ∈ bg := tm_5 (List.mem_of_getElem? (i := 166) rfl) rfl
theorem tw_1127 : (Jvm.Cond.methodLink "WideWholesModel" (214 : Nat) ({ cls := "WideWholesModel", name := "powered", desc := "(LWideWholesModel$Whole;I)LWideWholesModel$Whole;" } : Jvm.MethodName)) ∈ bg := tm_5 (List.mem_of_getElem? (i := 167) rfl) rfl
theorem tw_1129 : (Jvm.Cond.instanceMethod ({ cls := "WideWholesModel", name := "powered", desc := "(LWideWholesModel$Whole;I)LWideWholesModel$Whole;" } : Jvm.MethodName)) ∈ bg := tm_5 (List.mem_of_getElem? (i := 169) rfl) rfl
theorem tw_1130 : (Jvm.Cond.code ({ cls := "WideWholesModel", name := "powered", desc := "(LWideWholesModel$Whole;I)LWideWholesModel$Whole;" } : Jvm.MethodName) prog_12_method_41_code (6 : Nat) (Option.some (Jvm.ClassFile.FieldType.object "WideWholesModel$Whole"))) ∈ bg := tm_5 (List.mem_of_getElem? (i := 170) rfl) rfl
theorem tw_1131 : (Jvm.Cond.methodLink "WideWholesLaw" (94 : Nat) ({ cls := "WideWholesModel", name := "rest", desc := "(IIII)I" } : Jvm.MethodName)) ∈ bg := tm_5 (List.mem_of_getElem? (i := 171) rfl) rfl
theorem tw_1132 : (Jvm.Cond.instanceMethod ({ cls := "WideWholesModel", name := "rest", desc := "(IIII)I" } : Jvm.MethodName)) ∈ bg := tm_5 (List.mem_of_getElem? (i := 172) rfl) rfl
theorem tw_1133 : (Jvm.Cond.selects "WideWholesModel" ({ cls := "WideWholesModel", name := "rest", desc := "(IIII)I" } : Jvm.MethodName) ({ cls := "WideWholesModel", name := "rest", desc := "(IIII)I" } : Jvm.MethodName)) ∈ bg := tm_5 (List.mem_of_getElem? (i := 173) rfl) rfl
theorem tw_1134 : (Jvm.Cond.code ({ cls := "WideWholesModel", name := "rest", desc := "(IIII)I" } : Jvm.MethodName) prog_12_method_44_code (11 : Nat) (Option.some Jvm.ClassFile.FieldType.int)) ∈ bg := tm_5 (List.mem_of_getElem? (i := 174) rfl) rfl
theorem tw_1135 : (Jvm.Cond.constant "WideWholesModel" (217 : Nat) (1000000 : Int32)) ∈ bg := tm_5 (List.mem_of_getElem? (i := 175) rfl) rfl
theorem tw_1136 : (Jvm.Cond.methodLink "WideWholesModel" (218 : Nat) ({ cls := "WideWholesModel", name := "wrongRest", desc := "(LWideWholesModel$Whole;)I" } : Jvm.MethodName)) ∈ bg := tm_5 (List.mem_of_getElem? (i := 176) rfl) rfl
theorem tw_1138 : (Jvm.Cond.instanceMethod ({ cls := "WideWholesModel", name := "wrongRest", desc := "(LWideWholesModel$Whole;)I" } : Jvm.MethodName)) ∈ bg := tm_5 (List.mem_of_getElem? (i := 178) rfl) rfl
theorem tw_1139 : (Jvm.Cond.code ({ cls := "WideWholesModel", name := "wrongRest", desc := "(LWideWholesModel$Whole;)I" } : Jvm.MethodName) prog_12_method_43_code (2 : Nat) (Option.some Jvm.ClassFile.FieldType.int)) ∈ bg := tm_5 (List.mem_of_getElem? (i := 179) rfl) rfl
theorem tw_1140 : (Jvm.Cond.methodLink "WideWholesLaw" (98 : Nat) ({ cls := "WideWholesModel", name := "inverse", desc := "(III)I" } : Jvm.MethodName)) ∈ bg := tm_5 (List.mem_of_getElem? (i := 180) rfl) rfl
theorem tw_1141 : (Jvm.Cond.instanceMethod ({ cls := "WideWholesModel", name := "inverse", desc := "(III)I" } : Jvm.MethodName)) ∈ bg := tm_5 (List.mem_of_getElem? (i := 181) rfl) rfl
theorem tw_1142 : (Jvm.Cond.selects "WideWholesModel" ({ cls := "WideWholesModel", name := "inverse", desc := "(III)I" } : Jvm.MethodName) ({ cls := "WideWholesModel", name := "inverse", desc := "(III)I" } : Jvm.MethodName)) ∈ bg := tm_5 (List.mem_of_getElem? (i := 182) rfl) rfl
theorem tw_1143 : (Jvm.Cond.code ({ cls := "WideWholesModel", name := "inverse", desc := "(III)I" } : Jvm.MethodName) prog_12_method_45_code (12 : Nat) (Option.some Jvm.ClassFile.FieldType.int)) ∈ bg := tm_5 (List.mem_of_getElem? (i := 183) rfl) rfl
theorem tw_1144 : (Jvm.Cond.methodLink "WideWholesLaw" (102 : Nat) ({ cls := "WideWholesModel", name := "bits", desc := "(IIII)I" } : Jvm.MethodName)) ∈ bg := tm_5 (List.mem_of_getElem? (i := 184) rfl) rfl
theorem tw_1145 : (Jvm.Cond.instanceMethod ({ cls := "WideWholesModel", name := "bits", desc := "(IIII)I" } : Jvm.MethodName)) ∈ bg := tm_5 (List.mem_of_getElem? (i := 185) rfl) rfl
theorem tw_1146 : (Jvm.Cond.selects "WideWholesModel" ({ cls := "WideWholesModel", name := "bits", desc := "(IIII)I" } : Jvm.MethodName) ({ cls := "WideWholesModel", name := "bits", desc := "(IIII)I" } : Jvm.MethodName)) ∈ bg := tm_5 (List.mem_of_getElem? (i := 186) rfl) rfl
theorem tw_1147 : (Jvm.Cond.code ({ cls := "WideWholesModel", name := "bits", desc := "(IIII)I" } : Jvm.MethodName) prog_12_method_48_code (8 : Nat) (Option.some Jvm.ClassFile.FieldType.int)) ∈ bg := tm_5 (List.mem_of_getElem? (i := 187) rfl) rfl
theorem tw_1148 : (Jvm.Cond.methodLink "WideWholesModel" (223 : Nat) ({ cls := "WideWholesModel", name := "twos", desc := "(LWideWholesModel$Whole;[I)[I" } : Jvm.MethodName)) ∈ bg := tm_5 (List.mem_of_getElem? (i := 188) rfl) rfl
theorem tw_1150 : (Jvm.Cond.instanceMethod ({ cls := "WideWholesModel", name := "twos", desc := "(LWideWholesModel$Whole;[I)[I" } : Jvm.MethodName)) ∈ bg := tm_5 (List.mem_of_getElem? (i := 190) rfl) rfl
theorem tw_1151 : (Jvm.Cond.code ({ cls := "WideWholesModel", name := "twos", desc := "(LWideWholesModel$Whole;[I)[I" } : Jvm.MethodName) prog_12_method_46_code (6 : Nat) (Option.some (Jvm.ClassFile.FieldType.array Jvm.ClassFile.FieldType.int))) ∈ bg := tm_5 (List.mem_of_getElem? (i := 191) rfl) rfl
theorem tw_1152 : (Jvm.Cond.methodLink "WideWholesModel" (227 : Nat) ({ cls := "WideWholesModel", name := "fromTwos", desc := "([I)LWideWholesModel$Whole;" } : Jvm.MethodName)) ∈ bg := tm_5 (List.mem_of_getElem? (i := 192) rfl) rfl
theorem tw_1154 : (Jvm.Cond.instanceMethod ({ cls := "WideWholesModel", name := "fromTwos", desc := "([I)LWideWholesModel$Whole;" } : Jvm.MethodName)) ∈ bg := tm_5 (List.mem_of_getElem? (i := 194) rfl) rfl
theorem tw_1155 : (Jvm.Cond.code ({ cls := "WideWholesModel", name := "fromTwos", desc := "([I)LWideWholesModel$Whole;" } : Jvm.MethodName) prog_12_method_47_code (5 : Nat) (Option.some (Jvm.ClassFile.FieldType.object "WideWholesModel$Whole"))) ∈ bg := tm_5 (List.mem_of_getElem? (i := 195) rfl) rfl
theorem tw_1156 : (Jvm.Cond.constant "WideWholesModel" (222 : Nat) (32768 : Int32)) ∈ bg := tm_5 (List.mem_of_getElem? (i := 196) rfl) rfl
theorem tw_1157 : (Jvm.Cond.methodLink "WideWholesLaw" (106 : Nat) ({ cls := "WideWholesModel", name := "shift", desc := "(III)I" } : Jvm.MethodName)) ∈ bg := tm_5 (List.mem_of_getElem? (i := 197) rfl) rfl
theorem tw_1158 : (Jvm.Cond.instanceMethod ({ cls := "WideWholesModel", name := "shift", desc := "(III)I" } : Jvm.MethodName)) ∈ bg := tm_5 (List.mem_of_getElem? (i := 198) rfl) rfl
theorem tw_1159 : (Jvm.Cond.selects "WideWholesModel" ({ cls := "WideWholesModel", name := "shift", desc := "(III)I" } : Jvm.MethodName) ({ cls := "WideWholesModel", name := "shift", desc := "(III)I" } : Jvm.MethodName)) ∈ bg := tm_5 (List.mem_of_getElem? (i := 199) rfl) rfl
theorem tw_1160 : (Jvm.Cond.code ({ cls := "WideWholesModel", name := "shift", desc := "(III)I" } : Jvm.MethodName) prog_12_method_49_code (4 : Nat) (Option.some Jvm.ClassFile.FieldType.int)) ∈ bg := tm_5 (List.mem_of_getElem? (i := 200) rfl) rfl
theorem tw_1161 : (Jvm.Cond.methodLink "WideWholesLaw" (110 : Nat) ({ cls := "WideWholesModel", name := "bit", desc := "(II)I" } : Jvm.MethodName)) ∈ bg := tm_5 (List.mem_of_getElem? (i := 201) rfl) rfl
theorem tw_1162 : (Jvm.Cond.instanceMethod ({ cls := "WideWholesModel", name := "bit", desc := "(II)I" } : Jvm.MethodName)) ∈ bg := tm_5 (List.mem_of_getElem? (i := 202) rfl) rfl
theorem tw_1163 : (Jvm.Cond.selects "WideWholesModel" ({ cls := "WideWholesModel", name := "bit", desc := "(II)I" } : Jvm.MethodName) ({ cls := "WideWholesModel", name := "bit", desc := "(II)I" } : Jvm.MethodName)) ∈ bg := tm_5 (List.mem_of_getElem? (i := 203) rfl) rfl
theorem tw_1164 : (Jvm.Cond.code ({ cls := "WideWholesModel", name := "bit", desc := "(II)I" } : Jvm.MethodName) prog_12_method_50_code (5 : Nat) (Option.some Jvm.ClassFile.FieldType.int)) ∈ bg := tm_5 (List.mem_of_getElem? (i := 204) rfl) rfl
theorem tw_1165 : (Jvm.Cond.methodLink "WideWholesModel" (231 : Nat) ({ cls := "java/lang/Math", name := "min", desc := "(II)I" } : Jvm.MethodName)) ∈ bg := tm_5 (List.mem_of_getElem? (i := 205) rfl) rfl
theorem tw_1166 : (Jvm.Cond.methodLink "WideWholesLaw" (114 : Nat) ({ cls := "WideWholesModel", name := "length", desc := "(I)I" } : Jvm.MethodName)) ∈ bg := tm_5 (List.mem_of_getElem? (i := 206) rfl) rfl
theorem tw_1167 : (Jvm.Cond.instanceMethod ({ cls := "WideWholesModel", name := "length", desc := "(I)I" } : Jvm.MethodName)) ∈ bg := tm_5 (List.mem_of_getElem? (i := 207) rfl) rfl
theorem tw_1168 : (Jvm.Cond.selects "WideWholesModel" ({ cls := "WideWholesModel", name := "length", desc := "(I)I" } : Jvm.MethodName) ({ cls := "WideWholesModel", name := "length", desc := "(I)I" } : Jvm.MethodName)) ∈ bg := tm_5 (List.mem_of_getElem? (i := 208) rfl) rfl
theorem tw_1169 : (Jvm.Cond.code ({ cls := "WideWholesModel", name := "length", desc := "(I)I" } : Jvm.MethodName) prog_12_method_51_code (2 : Nat) (Option.some Jvm.ClassFile.FieldType.int)) ∈ bg := tm_5 (List.mem_of_getElem? (i := 209) rfl) rfl
theorem tw_1170 : (Jvm.Cond.methodLink "WideWholesLaw" (118 : Nat) ({ cls := "WideWholesModel", name := "ones", desc := "(I)I" } : Jvm.MethodName)) ∈ bg := tm_5 (List.mem_of_getElem? (i := 210) rfl) rfl
theorem tw_1171 : (Jvm.Cond.instanceMethod ({ cls := "WideWholesModel", name := "ones", desc := "(I)I" } : Jvm.MethodName)) ∈ bg := tm_5 (List.mem_of_getElem? (i := 211) rfl) rfl
theorem tw_1172 : (Jvm.Cond.selects "WideWholesModel" ({ cls := "WideWholesModel", name := "ones", desc := "(I)I" } : Jvm.MethodName) ({ cls := "WideWholesModel", name := "ones", desc := "(I)I" } : Jvm.MethodName)) ∈ bg := tm_5 (List.mem_of_getElem? (i := 212) rfl) rfl
theorem tw_1173 : (Jvm.Cond.code ({ cls := "WideWholesModel", name := "ones", desc := "(I)I" } : Jvm.MethodName) prog_12_method_52_code (5 : Nat) (Option.some Jvm.ClassFile.FieldType.int)) ∈ bg := tm_5 (List.mem_of_getElem? (i := 213) rfl) rfl
theorem tw_1174 : (Jvm.Cond.methodLink "WideWholesModel" (233 : Nat) ({ cls := "java/lang/Integer", name := "bitCount", desc := "(I)I" } : Jvm.MethodName)) ∈ bg := tm_5 (List.mem_of_getElem? (i := 214) rfl) rfl
theorem tw_1175 : (Jvm.Cond.static ({ cls := "java/lang/Integer", name := "bitCount", desc := "(I)I" } : Jvm.MethodName)) ∈ bg := tm_5 (List.mem_of_getElem? (i := 215) rfl) rfl
theorem tw_1176 : (Jvm.Cond.code ({ cls := "java/lang/Integer", name := "bitCount", desc := "(I)I" } : Jvm.MethodName) prog_16_method_49_code (1 : Nat) (Option.some Jvm.ClassFile.FieldType.int)) ∈ bg := tm_5 (List.mem_of_getElem? (i := 216) rfl) rfl
theorem tw_1177 : (Jvm.Cond.constant "java/lang/Integer" (265 : Nat) (1431655765 : Int32)) ∈ bg := tm_5 (List.mem_of_getElem? (i := 217) rfl) rfl
theorem tw_1178 : (Jvm.Cond.constant "java/lang/Integer" (266 : Nat) (858993459 : Int32)) ∈ bg := tm_5 (List.mem_of_getElem? (i := 218) rfl) rfl
theorem tw_1179 : (Jvm.Cond.constant "java/lang/Integer" (267 : Nat) (252645135 : Int32)) ∈ bg := tm_5 (List.mem_of_getElem? (i := 219) rfl) rfl
theorem tw_1180 : (Jvm.Cond.methodLink "WideWholesLaw" (122 : Nat) ({ cls := "WideWholesModel", name := "ratio", desc := "(III)I" } : Jvm.MethodName)) ∈ bg := tm_5 (List.mem_of_getElem? (i := 220) rfl) rfl
theorem tw_1181 : (Jvm.Cond.instanceMethod ({ cls := "WideWholesModel", name := "ratio", desc := "(III)I" } : Jvm.MethodName)) ∈ bg := tm_5 (List.mem_of_getElem? (i := 221) rfl) rfl
theorem tw_1182 : (Jvm.Cond.selects "WideWholesModel" ({ cls := "WideWholesModel", name := "ratio", desc := "(III)I" } : Jvm.MethodName) ({ cls := "WideWholesModel", name := "ratio", desc := "(III)I" } : Jvm.MethodName)) ∈ bg := tm_5 (List.mem_of_getElem? (i := 222) rfl) rfl
theorem tw_1183 : (Jvm.Cond.code ({ cls := "WideWholesModel", name := "ratio", desc := "(III)I" } : Jvm.MethodName) prog_12_method_54_code (4 : Nat) (Option.some Jvm.ClassFile.FieldType.int)) ∈ bg := tm_5 (List.mem_of_getElem? (i := 223) rfl) rfl
theorem tw_1184 : (Jvm.Cond.methodLink "WideWholesModel" (236 : Nat) ({ cls := "WideWholesModel", name := "isRatio", desc := "(I)Z" } : Jvm.MethodName)) ∈ bg := tm_5 (List.mem_of_getElem? (i := 224) rfl) rfl
theorem tw_1186 : (Jvm.Cond.instanceMethod ({ cls := "WideWholesModel", name := "isRatio", desc := "(I)Z" } : Jvm.MethodName)) ∈ bg := tm_5 (List.mem_of_getElem? (i := 226) rfl) rfl
theorem tw_1187 : (Jvm.Cond.code ({ cls := "WideWholesModel", name := "isRatio", desc := "(I)Z" } : Jvm.MethodName) prog_12_method_22_code (2 : Nat) (Option.some Jvm.ClassFile.FieldType.boolean)) ∈ bg := tm_5 (List.mem_of_getElem? (i := 227) rfl) rfl
theorem tw_1188 : (Jvm.Cond.methodLink "WideWholesModel" (239 : Nat) ({ cls := "WideWholesModel", name := "keepRatio", desc := "(ILWideWholesModel$Whole;LWideWholesModel$Whole;)I" } : Jvm.MethodName)) ∈ bg := tm_5 (List.mem_of_getElem? (i := 228) rfl) rfl
theorem tw_1190 : (Jvm.Cond.instanceMethod ({ cls := "WideWholesModel", name := "keepRatio", desc := "(ILWideWholesModel$Whole;LWideWholesModel$Whole;)I" } : Jvm.MethodName)) ∈ bg := tm_5 (List.mem_of_getElem? (i := 230) rfl) rfl
theorem tw_1191 : (Jvm.Cond.code ({ cls := "WideWholesModel", name := "keepRatio", desc := "(ILWideWholesModel$Whole;LWideWholesModel$Whole;)I" } : Jvm.MethodName) prog_12_method_53_code (7 : Nat) (Option.some Jvm.ClassFile.FieldType.int)) ∈ bg := tm_5 (List.mem_of_getElem? (i := 231) rfl) rfl
theorem tw_1192 : (Jvm.Cond.methodLink "WideWholesLaw" (126 : Nat) ({ cls := "WideWholesModel", name := "actRatio", desc := "(IIII)I" } : Jvm.MethodName)) ∈ bg := tm_5 (List.mem_of_getElem? (i := 232) rfl) rfl
theorem tw_1193 : (Jvm.Cond.instanceMethod ({ cls := "WideWholesModel", name := "actRatio", desc := "(IIII)I" } : Jvm.MethodName)) ∈ bg := tm_5 (List.mem_of_getElem? (i := 233) rfl) rfl
theorem tw_1194 : (Jvm.Cond.selects "WideWholesModel" ({ cls := "WideWholesModel", name := "actRatio", desc := "(IIII)I" } : Jvm.MethodName) ({ cls := "WideWholesModel", name := "actRatio", desc := "(IIII)I" } : Jvm.MethodName)) ∈ bg := tm_5 (List.mem_of_getElem? (i := 234) rfl) rfl
theorem tw_1195 : (Jvm.Cond.code ({ cls := "WideWholesModel", name := "actRatio", desc := "(IIII)I" } : Jvm.MethodName) prog_12_method_55_code (5 : Nat) (Option.some Jvm.ClassFile.FieldType.int)) ∈ bg := tm_5 (List.mem_of_getElem? (i := 235) rfl) rfl
theorem tw_1196 : (Jvm.Cond.methodLink "WideWholesLaw" (130 : Nat) ({ cls := "WideWholesModel", name := "compareRatio", desc := "(II)I" } : Jvm.MethodName)) ∈ bg := tm_5 (List.mem_of_getElem? (i := 236) rfl) rfl
theorem tw_1197 : (Jvm.Cond.instanceMethod ({ cls := "WideWholesModel", name := "compareRatio", desc := "(II)I" } : Jvm.MethodName)) ∈ bg := tm_5 (List.mem_of_getElem? (i := 237) rfl) rfl
theorem tw_1198 : (Jvm.Cond.selects "WideWholesModel" ({ cls := "WideWholesModel", name := "compareRatio", desc := "(II)I" } : Jvm.MethodName) ({ cls := "WideWholesModel", name := "compareRatio", desc := "(II)I" } : Jvm.MethodName)) ∈ bg := tm_5 (List.mem_of_getElem? (i := 238) rfl) rfl
theorem tw_1199 : (Jvm.Cond.code ({ cls := "WideWholesModel", name := "compareRatio", desc := "(II)I" } : Jvm.MethodName) prog_12_method_56_code (3 : Nat) (Option.some Jvm.ClassFile.FieldType.int)) ∈ bg := tm_5 (List.mem_of_getElem? (i := 239) rfl) rfl
theorem tw_1200 : (Jvm.Cond.methodLink "WideWholesLaw" (134 : Nat) ({ cls := "WideWholesModel", name := "part", desc := "(III)I" } : Jvm.MethodName)) ∈ bg := tm_6 (List.mem_of_getElem? (i := 0) rfl) rfl
theorem tw_1201 : (Jvm.Cond.instanceMethod ({ cls := "WideWholesModel", name := "part", desc := "(III)I" } : Jvm.MethodName)) ∈ bg := tm_6 (List.mem_of_getElem? (i := 1) rfl) rfl
theorem tw_1202 : (Jvm.Cond.selects "WideWholesModel" ({ cls := "WideWholesModel", name := "part", desc := "(III)I" } : Jvm.MethodName) ({ cls := "WideWholesModel", name := "part", desc := "(III)I" } : Jvm.MethodName)) ∈ bg := tm_6 (List.mem_of_getElem? (i := 2) rfl) rfl
theorem tw_1203 : (Jvm.Cond.code ({ cls := "WideWholesModel", name := "part", desc := "(III)I" } : Jvm.MethodName) prog_12_method_57_code (7 : Nat) (Option.some Jvm.ClassFile.FieldType.int)) ∈ bg := tm_6 (List.mem_of_getElem? (i := 3) rfl) rfl
theorem tw_1204 : (Jvm.Cond.methodLink "WideWholesLaw" (138 : Nat) ({ cls := "WideWholesModel", name := "digits", desc := "(II)I" } : Jvm.MethodName)) ∈ bg := tm_6 (List.mem_of_getElem? (i := 4) rfl) rfl
theorem tw_1205 : (Jvm.Cond.instanceMethod ({ cls := "WideWholesModel", name := "digits", desc := "(II)I" } : Jvm.MethodName)) ∈ bg := tm_6 (List.mem_of_getElem? (i := 5) rfl) rfl
theorem tw_1206 : (Jvm.Cond.selects "WideWholesModel" ({ cls := "WideWholesModel", name := "digits", desc := "(II)I" } : Jvm.MethodName) ({ cls := "WideWholesModel", name := "digits", desc := "(II)I" } : Jvm.MethodName)) ∈ bg := tm_6 (List.mem_of_getElem? (i := 6) rfl) rfl
theorem tw_1207 : (Jvm.Cond.code ({ cls := "WideWholesModel", name := "digits", desc := "(II)I" } : Jvm.MethodName) prog_12_method_58_code (7 : Nat) (Option.some Jvm.ClassFile.FieldType.int)) ∈ bg := tm_6 (List.mem_of_getElem? (i := 7) rfl) rfl
theorem tw_1208 : (Jvm.Cond.methodLink "WideWholesModel" (243 : Nat) ({ cls := "WideWholesModel", name := "told", desc := "(II)I" } : Jvm.MethodName)) ∈ bg := tm_6 (List.mem_of_getElem? (i := 8) rfl) rfl
theorem tw_1210 : (Jvm.Cond.instanceMethod ({ cls := "WideWholesModel", name := "told", desc := "(II)I" } : Jvm.MethodName)) ∈ bg := tm_6 (List.mem_of_getElem? (i := 10) rfl) rfl
theorem tw_1211 : (Jvm.Cond.code ({ cls := "WideWholesModel", name := "told", desc := "(II)I" } : Jvm.MethodName) prog_12_method_59_code (3 : Nat) (Option.some Jvm.ClassFile.FieldType.int)) ∈ bg := tm_6 (List.mem_of_getElem? (i := 11) rfl) rfl
theorem tw_1212 : (Jvm.Cond.methodLink "WideWholesModel" (246 : Nat) ({ cls := "java/lang/System", name := "arraycopy", desc := "(Ljava/lang/Object;ILjava/lang/Object;II)V" } : Jvm.MethodName)) ∈ bg := tm_6 (List.mem_of_getElem? (i := 12) rfl) rfl
theorem tw_1213 : (Jvm.Cond.methodLink "WideWholesLaw" (142 : Nat) ({ cls := "WideWholesModel", name := "digit", desc := "(I)I" } : Jvm.MethodName)) ∈ bg := tm_6 (List.mem_of_getElem? (i := 13) rfl) rfl
theorem tw_1214 : (Jvm.Cond.instanceMethod ({ cls := "WideWholesModel", name := "digit", desc := "(I)I" } : Jvm.MethodName)) ∈ bg := tm_6 (List.mem_of_getElem? (i := 14) rfl) rfl
theorem tw_1215 : (Jvm.Cond.selects "WideWholesModel" ({ cls := "WideWholesModel", name := "digit", desc := "(I)I" } : Jvm.MethodName) ({ cls := "WideWholesModel", name := "digit", desc := "(I)I" } : Jvm.MethodName)) ∈ bg := tm_6 (List.mem_of_getElem? (i := 15) rfl) rfl
theorem tw_1216 : (Jvm.Cond.code ({ cls := "WideWholesModel", name := "digit", desc := "(I)I" } : Jvm.MethodName) prog_12_method_60_code (2 : Nat) (Option.some Jvm.ClassFile.FieldType.int)) ∈ bg := tm_6 (List.mem_of_getElem? (i := 16) rfl) rfl
theorem tw_1217 : (Jvm.Cond.constantLong "WideWholesLaw" (19 : Nat) (4294967295 : Int64)) ∈ bg := tm_6 (List.mem_of_getElem? (i := 17) rfl) rfl
theorem ts_0 : Cond.selects (⟨"WideWholes$Tape", "signs", "()I"⟩ : MethodName).cls ⟨"WideWholes$Tape", "signs", "()I"⟩ ⟨"WideWholes$Tape", "signs", "()I"⟩ ∈ bg := List.mem_filter.mpr ⟨List.mem_append_left _ (List.mem_of_getElem? (i := 0) rfl), rfl⟩
theorem ts_1 : Cond.selects (⟨"WideWholes$Tape", "valueAt", "(I)I"⟩ : MethodName).cls ⟨"WideWholes$Tape", "valueAt", "(I)I"⟩ ⟨"WideWholes$Tape", "valueAt", "(I)I"⟩ ∈ bg := List.mem_filter.mpr ⟨List.mem_append_left _ (List.mem_of_getElem? (i := 1) rfl), rfl⟩
theorem ts_2 : Cond.selects (⟨"WideWholes", "keep", "(LWideWholes$Whole;I)I"⟩ : MethodName).cls ⟨"WideWholes", "keep", "(LWideWholes$Whole;I)I"⟩ ⟨"WideWholes", "keep", "(LWideWholes$Whole;I)I"⟩ ∈ bg := List.mem_filter.mpr ⟨List.mem_append_left _ (List.mem_of_getElem? (i := 2) rfl), rfl⟩
theorem ts_3 : Cond.selects (⟨"WideWholes$Text", "add", "(I)V"⟩ : MethodName).cls ⟨"WideWholes$Text", "add", "(I)V"⟩ ⟨"WideWholes$Text", "add", "(I)V"⟩ ∈ bg := List.mem_filter.mpr ⟨List.mem_append_left _ (List.mem_of_getElem? (i := 3) rfl), rfl⟩
theorem ts_4 : Cond.selects (⟨"WideWholes$Text", "turnRound", "()V"⟩ : MethodName).cls ⟨"WideWholes$Text", "turnRound", "()V"⟩ ⟨"WideWholes$Text", "turnRound", "()V"⟩ ∈ bg := List.mem_filter.mpr ⟨List.mem_append_left _ (List.mem_of_getElem? (i := 4) rfl), rfl⟩
theorem ts_5 : Cond.selects (⟨"WideWholes$Division", "divideLong", "(LWideWholes$Whole;LWideWholes$Whole;)V"⟩ : MethodName).cls ⟨"WideWholes$Division", "divideLong", "(LWideWholes$Whole;LWideWholes$Whole;)V"⟩ ⟨"WideWholes$Division", "divideLong", "(LWideWholes$Whole;LWideWholes$Whole;)V"⟩ ∈ bg := List.mem_filter.mpr ⟨List.mem_append_left _ (List.mem_of_getElem? (i := 5) rfl), rfl⟩
theorem ts_6 : Cond.selects (⟨"WideWholes$Division", "guess", "(II)J"⟩ : MethodName).cls ⟨"WideWholes$Division", "guess", "(II)J"⟩ ⟨"WideWholes$Division", "guess", "(II)J"⟩ ∈ bg := List.mem_filter.mpr ⟨List.mem_append_left _ (List.mem_of_getElem? (i := 6) rfl), rfl⟩
theorem ts_7 : Cond.selects (⟨"WideWholes$Division", "takeAway", "(IIJ)J"⟩ : MethodName).cls ⟨"WideWholes$Division", "takeAway", "(IIJ)J"⟩ ⟨"WideWholes$Division", "takeAway", "(IIJ)J"⟩ ∈ bg := List.mem_filter.mpr ⟨List.mem_append_left _ (List.mem_of_getElem? (i := 7) rfl), rfl⟩
theorem ts_8 : Cond.selects (⟨"WideWholes$Division", "giveBack", "(II)V"⟩ : MethodName).cls ⟨"WideWholes$Division", "giveBack", "(II)V"⟩ ⟨"WideWholes$Division", "giveBack", "(II)V"⟩ ∈ bg := List.mem_filter.mpr ⟨List.mem_append_left _ (List.mem_of_getElem? (i := 8) rfl), rfl⟩
theorem ts_9 : Cond.selects (⟨"WideWholes$Powers", "multiplyBy", "(LWideWholes$Whole;)Z"⟩ : MethodName).cls ⟨"WideWholes$Powers", "multiplyBy", "(LWideWholes$Whole;)Z"⟩ ⟨"WideWholes$Powers", "multiplyBy", "(LWideWholes$Whole;)Z"⟩ ∈ bg := List.mem_filter.mpr ⟨List.mem_append_left _ (List.mem_of_getElem? (i := 9) rfl), rfl⟩
theorem ts_10 : Cond.selects (⟨"WideWholes$Powers", "multiplyLeft", "(LWideWholes$Whole;LWideWholes$Whole;)V"⟩ : MethodName).cls ⟨"WideWholes$Powers", "multiplyLeft", "(LWideWholes$Whole;LWideWholes$Whole;)V"⟩ ⟨"WideWholes$Powers", "multiplyLeft", "(LWideWholes$Whole;LWideWholes$Whole;)V"⟩ ∈ bg := List.mem_filter.mpr ⟨List.mem_append_left _ (List.mem_of_getElem? (i := 10) rfl), rfl⟩
theorem ts_11 : Cond.selects (⟨"WideWholes$TwosForm", "negate", "()V"⟩ : MethodName).cls ⟨"WideWholes$TwosForm", "negate", "()V"⟩ ⟨"WideWholes$TwosForm", "negate", "()V"⟩ ∈ bg := List.mem_filter.mpr ⟨List.mem_append_left _ (List.mem_of_getElem? (i := 11) rfl), rfl⟩
theorem ts_12 : Cond.selects (⟨"WideWholes$TwosForm", "isBelow", "()Z"⟩ : MethodName).cls ⟨"WideWholes$TwosForm", "isBelow", "()Z"⟩ ⟨"WideWholes$TwosForm", "isBelow", "()Z"⟩ ∈ bg := List.mem_filter.mpr ⟨List.mem_append_left _ (List.mem_of_getElem? (i := 12) rfl), rfl⟩
theorem ts_13 : Cond.selects (⟨"WideWholes", "moveDown", "(LWideWholes$Whole;I)V"⟩ : MethodName).cls ⟨"WideWholes", "moveDown", "(LWideWholes$Whole;I)V"⟩ ⟨"WideWholes", "moveDown", "(LWideWholes$Whole;I)V"⟩ ∈ bg := List.mem_filter.mpr ⟨List.mem_append_left _ (List.mem_of_getElem? (i := 13) rfl), rfl⟩
theorem ts_14 : Cond.selects (⟨"WideWholes$Fractions", "cut", "(LWideWholes$Whole;LWideWholes$Whole;LWideWholes$Whole;)V"⟩ : MethodName).cls ⟨"WideWholes$Fractions", "cut", "(LWideWholes$Whole;LWideWholes$Whole;LWideWholes$Whole;)V"⟩ ⟨"WideWholes$Fractions", "cut", "(LWideWholes$Whole;LWideWholes$Whole;LWideWholes$Whole;)V"⟩ ∈ bg := List.mem_filter.mpr ⟨List.mem_append_left _ (List.mem_of_getElem? (i := 14) rfl), rfl⟩
theorem ts_15 : Cond.selects (⟨"WideWholes$Fractions", "raiseBottom", "()V"⟩ : MethodName).cls ⟨"WideWholes$Fractions", "raiseBottom", "()V"⟩ ⟨"WideWholes$Fractions", "raiseBottom", "()V"⟩ ∈ bg := List.mem_filter.mpr ⟨List.mem_append_left _ (List.mem_of_getElem? (i := 15) rfl), rfl⟩
theorem ts_16 : Cond.selects (⟨"WideWholes", "keepRatio", "(I)I"⟩ : MethodName).cls ⟨"WideWholes", "keepRatio", "(I)I"⟩ ⟨"WideWholes", "keepRatio", "(I)I"⟩ ∈ bg := List.mem_filter.mpr ⟨List.mem_append_left _ (List.mem_of_getElem? (i := 16) rfl), rfl⟩
theorem ts_17 : Cond.selects (⟨"WideWholes$Expansion", "countAhead", "(LWideWholes$Whole;I)I"⟩ : MethodName).cls ⟨"WideWholes$Expansion", "countAhead", "(LWideWholes$Whole;I)I"⟩ ⟨"WideWholes$Expansion", "countAhead", "(LWideWholes$Whole;I)I"⟩ ∈ bg := List.mem_filter.mpr ⟨List.mem_append_left _ (List.mem_of_getElem? (i := 17) rfl), rfl⟩
theorem ts_18 : Cond.selects (⟨"WideWholes$Expansion", "nextDigit", "(LWideWholes$Whole;I)I"⟩ : MethodName).cls ⟨"WideWholes$Expansion", "nextDigit", "(LWideWholes$Whole;I)I"⟩ ⟨"WideWholes$Expansion", "nextDigit", "(LWideWholes$Whole;I)I"⟩ ∈ bg := List.mem_filter.mpr ⟨List.mem_append_left _ (List.mem_of_getElem? (i := 18) rfl), rfl⟩
theorem ts_19 : Cond.selects (⟨"WideWholes$Expansion", "keepFresh", "(II)V"⟩ : MethodName).cls ⟨"WideWholes$Expansion", "keepFresh", "(II)V"⟩ ⟨"WideWholes$Expansion", "keepFresh", "(II)V"⟩ ∈ bg := List.mem_filter.mpr ⟨List.mem_append_left _ (List.mem_of_getElem? (i := 19) rfl), rfl⟩
theorem ts_20 : Cond.selects (⟨"java/lang/Throwable", "fillInStackTrace", "(I)Ljava/lang/Throwable;"⟩ : MethodName).cls ⟨"java/lang/Throwable", "fillInStackTrace", "(I)Ljava/lang/Throwable;"⟩ ⟨"java/lang/Throwable", "fillInStackTrace", "(I)Ljava/lang/Throwable;"⟩ ∈ bg := List.mem_filter.mpr ⟨List.mem_append_left _ (List.mem_of_getElem? (i := 20) rfl), rfl⟩
theorem ts_21 : Cond.selects (⟨"WideWholesModel", "isSlot", "(I)Z"⟩ : MethodName).cls ⟨"WideWholesModel", "isSlot", "(I)Z"⟩ ⟨"WideWholesModel", "isSlot", "(I)Z"⟩ ∈ bg := List.mem_filter.mpr ⟨List.mem_append_left _ (List.mem_of_getElem? (i := 21) rfl), rfl⟩
theorem ts_22 : Cond.selects (⟨"WideWholesModel", "of", "(J)LWideWholesModel$Whole;"⟩ : MethodName).cls ⟨"WideWholesModel", "of", "(J)LWideWholesModel$Whole;"⟩ ⟨"WideWholesModel", "of", "(J)LWideWholesModel$Whole;"⟩ ∈ bg := List.mem_filter.mpr ⟨List.mem_append_left _ (List.mem_of_getElem? (i := 22) rfl), rfl⟩
theorem ts_23 : Cond.selects (⟨"WideWholesModel", "take", "()LWideWholesModel$Whole;"⟩ : MethodName).cls ⟨"WideWholesModel", "take", "()LWideWholesModel$Whole;"⟩ ⟨"WideWholesModel", "take", "()LWideWholesModel$Whole;"⟩ ∈ bg := List.mem_filter.mpr ⟨List.mem_append_left _ (List.mem_of_getElem? (i := 23) rfl), rfl⟩
theorem ts_24 : Cond.selects (⟨"WideWholesModel", "keep", "(ILWideWholesModel$Whole;)I"⟩ : MethodName).cls ⟨"WideWholesModel", "keep", "(ILWideWholesModel$Whole;)I"⟩ ⟨"WideWholesModel", "keep", "(ILWideWholesModel$Whole;)I"⟩ ∈ bg := List.mem_filter.mpr ⟨List.mem_append_left _ (List.mem_of_getElem? (i := 24) rfl), rfl⟩
theorem ts_25 : Cond.selects (⟨"WideWholesModel", "copy", "(LWideWholesModel$Whole;)LWideWholesModel$Whole;"⟩ : MethodName).cls ⟨"WideWholesModel", "copy", "(LWideWholesModel$Whole;)LWideWholesModel$Whole;"⟩ ⟨"WideWholesModel", "copy", "(LWideWholesModel$Whole;)LWideWholesModel$Whole;"⟩ ∈ bg := List.mem_filter.mpr ⟨List.mem_append_left _ (List.mem_of_getElem? (i := 25) rfl), rfl⟩
theorem ts_26 : Cond.selects (⟨"WideWholesModel", "times", "(LWideWholesModel$Whole;LWideWholesModel$Whole;)LWideWholesModel$Whole;"⟩ : MethodName).cls ⟨"WideWholesModel", "times", "(LWideWholesModel$Whole;LWideWholesModel$Whole;)LWideWholesModel$Whole;"⟩ ⟨"WideWholesModel", "times", "(LWideWholesModel$Whole;LWideWholesModel$Whole;)LWideWholesModel$Whole;"⟩ ∈ bg := List.mem_filter.mpr ⟨List.mem_append_left _ (List.mem_of_getElem? (i := 26) rfl), rfl⟩
theorem ts_27 : Cond.selects (⟨"WideWholesModel", "sum", "(LWideWholesModel$Whole;LWideWholesModel$Whole;)LWideWholesModel$Whole;"⟩ : MethodName).cls ⟨"WideWholesModel", "sum", "(LWideWholesModel$Whole;LWideWholesModel$Whole;)LWideWholesModel$Whole;"⟩ ⟨"WideWholesModel", "sum", "(LWideWholesModel$Whole;LWideWholesModel$Whole;)LWideWholesModel$Whole;"⟩ ∈ bg := List.mem_filter.mpr ⟨List.mem_append_left _ (List.mem_of_getElem? (i := 27) rfl), rfl⟩
theorem ts_28 : Cond.selects (⟨"WideWholesModel", "sum", "(LWideWholesModel$Whole;LWideWholesModel$Whole;Z)LWideWholesModel$Whole;"⟩ : MethodName).cls ⟨"WideWholesModel", "sum", "(LWideWholesModel$Whole;LWideWholesModel$Whole;Z)LWideWholesModel$Whole;"⟩ ⟨"WideWholesModel", "sum", "(LWideWholesModel$Whole;LWideWholesModel$Whole;Z)LWideWholesModel$Whole;"⟩ ∈ bg := List.mem_filter.mpr ⟨List.mem_append_left _ (List.mem_of_getElem? (i := 28) rfl), rfl⟩
theorem ts_29 : Cond.selects (⟨"WideWholesModel", "lessSize", "(LWideWholesModel$Whole;LWideWholesModel$Whole;Z)LWideWholesModel$Whole;"⟩ : MethodName).cls ⟨"WideWholesModel", "lessSize", "(LWideWholesModel$Whole;LWideWholesModel$Whole;Z)LWideWholesModel$Whole;"⟩ ⟨"WideWholesModel", "lessSize", "(LWideWholesModel$Whole;LWideWholesModel$Whole;Z)LWideWholesModel$Whole;"⟩ ∈ bg := List.mem_filter.mpr ⟨List.mem_append_left _ (List.mem_of_getElem? (i := 29) rfl), rfl⟩
theorem ts_30 : Cond.selects (⟨"WideWholesModel", "negative", "(LWideWholesModel$Whole;)LWideWholesModel$Whole;"⟩ : MethodName).cls ⟨"WideWholesModel", "negative", "(LWideWholesModel$Whole;)LWideWholesModel$Whole;"⟩ ⟨"WideWholesModel", "negative", "(LWideWholesModel$Whole;)LWideWholesModel$Whole;"⟩ ∈ bg := List.mem_filter.mpr ⟨List.mem_append_left _ (List.mem_of_getElem? (i := 30) rfl), rfl⟩
theorem ts_31 : Cond.selects (⟨"WideWholesModel", "sized", "(LWideWholesModel$Whole;)LWideWholesModel$Whole;"⟩ : MethodName).cls ⟨"WideWholesModel", "sized", "(LWideWholesModel$Whole;)LWideWholesModel$Whole;"⟩ ⟨"WideWholesModel", "sized", "(LWideWholesModel$Whole;)LWideWholesModel$Whole;"⟩ ∈ bg := List.mem_filter.mpr ⟨List.mem_append_left _ (List.mem_of_getElem? (i := 31) rfl), rfl⟩
theorem ts_32 : Cond.selects (⟨"WideWholesModel", "divide", "(LWideWholesModel$Whole;LWideWholesModel$Whole;)V"⟩ : MethodName).cls ⟨"WideWholesModel", "divide", "(LWideWholesModel$Whole;LWideWholesModel$Whole;)V"⟩ ⟨"WideWholesModel", "divide", "(LWideWholesModel$Whole;LWideWholesModel$Whole;)V"⟩ ∈ bg := List.mem_filter.mpr ⟨List.mem_append_left _ (List.mem_of_getElem? (i := 32) rfl), rfl⟩
theorem ts_33 : Cond.selects (⟨"WideWholesModel", "divideLong", "(LWideWholesModel$Whole;LWideWholesModel$Whole;)V"⟩ : MethodName).cls ⟨"WideWholesModel", "divideLong", "(LWideWholesModel$Whole;LWideWholesModel$Whole;)V"⟩ ⟨"WideWholesModel", "divideLong", "(LWideWholesModel$Whole;LWideWholesModel$Whole;)V"⟩ ∈ bg := List.mem_filter.mpr ⟨List.mem_append_left _ (List.mem_of_getElem? (i := 33) rfl), rfl⟩
theorem ts_34 : Cond.selects (⟨"WideWholesModel", "moved", "(LWideWholesModel$Whole;I)LWideWholesModel$Whole;"⟩ : MethodName).cls ⟨"WideWholesModel", "moved", "(LWideWholesModel$Whole;I)LWideWholesModel$Whole;"⟩ ⟨"WideWholesModel", "moved", "(LWideWholesModel$Whole;I)LWideWholesModel$Whole;"⟩ ∈ bg := List.mem_filter.mpr ⟨List.mem_append_left _ (List.mem_of_getElem? (i := 34) rfl), rfl⟩
theorem ts_35 : Cond.selects (⟨"WideWholesModel", "isShort", "(LWideWholesModel$Whole;)Z"⟩ : MethodName).cls ⟨"WideWholesModel", "isShort", "(LWideWholesModel$Whole;)Z"⟩ ⟨"WideWholesModel", "isShort", "(LWideWholesModel$Whole;)Z"⟩ ∈ bg := List.mem_filter.mpr ⟨List.mem_append_left _ (List.mem_of_getElem? (i := 35) rfl), rfl⟩
theorem ts_36 : Cond.selects (⟨"WideWholesModel", "acted", "(ILWideWholesModel$Whole;LWideWholesModel$Whole;)LWideWholesModel$Whole;"⟩ : MethodName).cls ⟨"WideWholesModel", "acted", "(ILWideWholesModel$Whole;LWideWholesModel$Whole;)LWideWholesModel$Whole;"⟩ ⟨"WideWholesModel", "acted", "(ILWideWholesModel$Whole;LWideWholesModel$Whole;)LWideWholesModel$Whole;"⟩ ∈ bg := List.mem_filter.mpr ⟨List.mem_append_left _ (List.mem_of_getElem? (i := 36) rfl), rfl⟩
theorem ts_37 : Cond.selects (⟨"WideWholesModel", "less", "(LWideWholesModel$Whole;LWideWholesModel$Whole;)LWideWholesModel$Whole;"⟩ : MethodName).cls ⟨"WideWholesModel", "less", "(LWideWholesModel$Whole;LWideWholesModel$Whole;)LWideWholesModel$Whole;"⟩ ⟨"WideWholesModel", "less", "(LWideWholesModel$Whole;LWideWholesModel$Whole;)LWideWholesModel$Whole;"⟩ ∈ bg := List.mem_filter.mpr ⟨List.mem_append_left _ (List.mem_of_getElem? (i := 37) rfl), rfl⟩
theorem ts_38 : Cond.selects (⟨"WideWholesModel", "over", "(ILWideWholesModel$Whole;LWideWholesModel$Whole;)V"⟩ : MethodName).cls ⟨"WideWholesModel", "over", "(ILWideWholesModel$Whole;LWideWholesModel$Whole;)V"⟩ ⟨"WideWholesModel", "over", "(ILWideWholesModel$Whole;LWideWholesModel$Whole;)V"⟩ ∈ bg := List.mem_filter.mpr ⟨List.mem_append_left _ (List.mem_of_getElem? (i := 38) rfl), rfl⟩
theorem ts_39 : Cond.selects (⟨"WideWholesModel", "gcd", "(LWideWholesModel$Whole;LWideWholesModel$Whole;)LWideWholesModel$Whole;"⟩ : MethodName).cls ⟨"WideWholesModel", "gcd", "(LWideWholesModel$Whole;LWideWholesModel$Whole;)LWideWholesModel$Whole;"⟩ ⟨"WideWholesModel", "gcd", "(LWideWholesModel$Whole;LWideWholesModel$Whole;)LWideWholesModel$Whole;"⟩ ∈ bg := List.mem_filter.mpr ⟨List.mem_append_left _ (List.mem_of_getElem? (i := 39) rfl), rfl⟩
theorem ts_40 : Cond.selects (⟨"WideWholesModel", "powered", "(LWideWholesModel$Whole;I)LWideWholesModel$Whole;"⟩ : MethodName).cls ⟨"WideWholesModel", "powered", "(LWideWholesModel$Whole;I)LWideWholesModel$Whole;"⟩ ⟨"WideWholesModel", "powered", "(LWideWholesModel$Whole;I)LWideWholesModel$Whole;"⟩ ∈ bg := List.mem_filter.mpr ⟨List.mem_append_left _ (List.mem_of_getElem? (i := 40) rfl), rfl⟩
theorem ts_41 : Cond.selects (⟨"WideWholesModel", "wrongRest", "(LWideWholesModel$Whole;)I"⟩ : MethodName).cls ⟨"WideWholesModel", "wrongRest", "(LWideWholesModel$Whole;)I"⟩ ⟨"WideWholesModel", "wrongRest", "(LWideWholesModel$Whole;)I"⟩ ∈ bg := List.mem_filter.mpr ⟨List.mem_append_left _ (List.mem_of_getElem? (i := 41) rfl), rfl⟩
theorem ts_42 : Cond.selects (⟨"WideWholesModel", "twos", "(LWideWholesModel$Whole;[I)[I"⟩ : MethodName).cls ⟨"WideWholesModel", "twos", "(LWideWholesModel$Whole;[I)[I"⟩ ⟨"WideWholesModel", "twos", "(LWideWholesModel$Whole;[I)[I"⟩ ∈ bg := List.mem_filter.mpr ⟨List.mem_append_left _ (List.mem_of_getElem? (i := 42) rfl), rfl⟩
theorem ts_43 : Cond.selects (⟨"WideWholesModel", "fromTwos", "([I)LWideWholesModel$Whole;"⟩ : MethodName).cls ⟨"WideWholesModel", "fromTwos", "([I)LWideWholesModel$Whole;"⟩ ⟨"WideWholesModel", "fromTwos", "([I)LWideWholesModel$Whole;"⟩ ∈ bg := List.mem_filter.mpr ⟨List.mem_append_left _ (List.mem_of_getElem? (i := 43) rfl), rfl⟩
theorem ts_44 : Cond.selects (⟨"WideWholesModel", "isRatio", "(I)Z"⟩ : MethodName).cls ⟨"WideWholesModel", "isRatio", "(I)Z"⟩ ⟨"WideWholesModel", "isRatio", "(I)Z"⟩ ∈ bg := List.mem_filter.mpr ⟨List.mem_append_left _ (List.mem_of_getElem? (i := 44) rfl), rfl⟩
theorem ts_45 : Cond.selects (⟨"WideWholesModel", "keepRatio", "(ILWideWholesModel$Whole;LWideWholesModel$Whole;)I"⟩ : MethodName).cls ⟨"WideWholesModel", "keepRatio", "(ILWideWholesModel$Whole;LWideWholesModel$Whole;)I"⟩ ⟨"WideWholesModel", "keepRatio", "(ILWideWholesModel$Whole;LWideWholesModel$Whole;)I"⟩ ∈ bg := List.mem_filter.mpr ⟨List.mem_append_left _ (List.mem_of_getElem? (i := 45) rfl), rfl⟩
theorem ts_46 : Cond.selects (⟨"WideWholesModel", "told", "(II)I"⟩ : MethodName).cls ⟨"WideWholesModel", "told", "(II)I"⟩ ⟨"WideWholesModel", "told", "(II)I"⟩ ∈ bg := List.mem_filter.mpr ⟨List.mem_append_left _ (List.mem_of_getElem? (i := 46) rfl), rfl⟩
theorem bg_good : ∀ w ∈ bg, (w.onTables && w.keeps) = true ∨ ∃ ty, w = .arrayClass ty := fun w h => good_of_word (List.mem_filter.mp h).2
theorem inX0 : ∀ w ∈ wsX00, w ∈ bg := by decide +kernel
theorem inX1 : ∀ w ∈ wsX10, w ∈ bg := by decide +kernel
theorem inX2 : ∀ w ∈ wsX20, w ∈ bg := by decide +kernel
theorem inX3 : ∀ w ∈ wsX30, w ∈ bg := by decide +kernel
theorem inX4 : ∀ w ∈ wsX40, w ∈ bg := by decide +kernel
theorem inX5 : ∀ w ∈ wsX50, w ∈ bg := by decide +kernel
theorem inX6 : ∀ w ∈ wsX60, w ∈ bg := by decide +kernel
theorem inX7 : ∀ w ∈ wsX70, w ∈ bg := by decide +kernel
theorem inX8 : ∀ w ∈ wsX80, w ∈ bg := by decide +kernel
theorem inX9 : ∀ w ∈ wsX90, w ∈ bg := by decide +kernel
theorem inX10 : ∀ w ∈ wsX100, w ∈ bg := by decide +kernel
theorem inX11 : ∀ w ∈ wsX110, w ∈ bg := by decide +kernel
theorem inJ6 : ∀ w ∈ wsJ60, w ∈ bg := by decide +kernel
theorem inJ13 : ∀ w ∈ wsJ130, w ∈ bg := by decide +kernel
theorem inJ9 : ∀ w ∈ wsJ90, w ∈ bg := by decide +kernel
theorem inJ0 : ∀ w ∈ wsJ00, w ∈ bg := by decide +kernel
theorem inJ10 : ∀ w ∈ wsJ100, w ∈ bg := by decide +kernel
