section
-- ===== PART A: goes FIRST, ahead of the names: the tables' words, and 'selects' of the private methods out of them =====
/-- a private method of a class that the tables say can be made, by its rows of tables_1 -/
def lw_okq (q : MethodName × Nat) : Prop := (q.1.cls ≠ "java/lang/invoke/MethodHandle" ∧ q.1.cls ≠ "java/lang/invoke/VarHandle") ∧ Cond.instantiable q.1.cls q.2 ∈ tables_1 ∧ Cond.privateMethod q.1 ∈ tables_1 ∧ Cond.instanceMethod q.1 ∈ tables_1
theorem lw_p0 : lw_okq (⟨"ThinReadings$Parser", "readToken", "()V"⟩, 8) := ⟨⟨by decide +kernel, by decide +kernel⟩, List.mem_of_getElem? (i := 40) (by decide +kernel), List.mem_of_getElem? (i := 340) (by decide +kernel), List.mem_of_getElem? (i := 341) (by decide +kernel)⟩
theorem lw_p1 : lw_okq (⟨"ThinReadings$Parser", "readDigits", "()V"⟩, 8) := ⟨⟨by decide +kernel, by decide +kernel⟩, List.mem_of_getElem? (i := 40) (by decide +kernel), List.mem_of_getElem? (i := 352) (by decide +kernel), List.mem_of_getElem? (i := 353) (by decide +kernel)⟩
theorem lw_p2 : lw_okq (⟨"ThinReadings$Parser", "isPromiseItem", "()Z"⟩, 8) := ⟨⟨by decide +kernel, by decide +kernel⟩, List.mem_of_getElem? (i := 40) (by decide +kernel), List.mem_of_getElem? (i := 363) (by decide +kernel), List.mem_of_getElem? (i := 364) (by decide +kernel)⟩
theorem lw_p3 : lw_okq (⟨"ThinReadings$Parser", "isNumber", "(II)Z"⟩, 8) := ⟨⟨by decide +kernel, by decide +kernel⟩, List.mem_of_getElem? (i := 40) (by decide +kernel), List.mem_of_getElem? (i := 367) (by decide +kernel), List.mem_of_getElem? (i := 368) (by decide +kernel)⟩
theorem lw_p4 : lw_okq (⟨"ThinReadings$Parser", "isEnded", "()Z"⟩, 8) := ⟨⟨by decide +kernel, by decide +kernel⟩, List.mem_of_getElem? (i := 40) (by decide +kernel), List.mem_of_getElem? (i := 372) (by decide +kernel), List.mem_of_getElem? (i := 373) (by decide +kernel)⟩
theorem lw_p5 : lw_okq (⟨"ThinReadings$Parser", "isDelayItem", "()Z"⟩, 8) := ⟨⟨by decide +kernel, by decide +kernel⟩, List.mem_of_getElem? (i := 40) (by decide +kernel), List.mem_of_getElem? (i := 376) (by decide +kernel), List.mem_of_getElem? (i := 377) (by decide +kernel)⟩
theorem lw_p6 : lw_okq (⟨"ThinReadings$Parser", "isReadingItem", "(Z)Z"⟩, 8) := ⟨⟨by decide +kernel, by decide +kernel⟩, List.mem_of_getElem? (i := 40) (by decide +kernel), List.mem_of_getElem? (i := 380) (by decide +kernel), List.mem_of_getElem? (i := 381) (by decide +kernel)⟩
theorem lw_p7 : lw_okq (⟨"ThinReadings", "outdateAll", "()V"⟩, 10) := ⟨⟨by decide +kernel, by decide +kernel⟩, List.mem_of_getElem? (i := 16) (by decide +kernel), List.mem_of_getElem? (i := 421) (by decide +kernel), List.mem_of_getElem? (i := 422) (by decide +kernel)⟩
theorem lw_p8 : lw_okq (⟨"ThinReadings", "appendReading", "(II)I"⟩, 10) := ⟨⟨by decide +kernel, by decide +kernel⟩, List.mem_of_getElem? (i := 16) (by decide +kernel), List.mem_of_getElem? (i := 437) (by decide +kernel), List.mem_of_getElem? (i := 438) (by decide +kernel)⟩
theorem lw_p9 : lw_okq (⟨"ThinReadings", "rememberForUndo", "()V"⟩, 10) := ⟨⟨by decide +kernel, by decide +kernel⟩, List.mem_of_getElem? (i := 16) (by decide +kernel), List.mem_of_getElem? (i := 443) (by decide +kernel), List.mem_of_getElem? (i := 444) (by decide +kernel)⟩
theorem lw_p10 : lw_okq (⟨"ThinReadings$Lines", "measureNeedsFrom", "(I)V"⟩, 4) := ⟨⟨by decide +kernel, by decide +kernel⟩, List.mem_of_getElem? (i := 149) (by decide +kernel), List.mem_of_getElem? (i := 520) (by decide +kernel), List.mem_of_getElem? (i := 521) (by decide +kernel)⟩
theorem lw_p11 : lw_okq (⟨"ThinReadings$Thinning", "cutPieces", "()V"⟩, 10) := ⟨⟨by decide +kernel, by decide +kernel⟩, List.mem_of_getElem? (i := 169) (by decide +kernel), List.mem_of_getElem? (i := 541) (by decide +kernel), List.mem_of_getElem? (i := 542) (by decide +kernel)⟩
theorem lw_p12 : lw_okq (⟨"ThinReadings$Thinning", "fitsStrip", "(II)Z"⟩, 10) := ⟨⟨by decide +kernel, by decide +kernel⟩, List.mem_of_getElem? (i := 169) (by decide +kernel), List.mem_of_getElem? (i := 547) (by decide +kernel), List.mem_of_getElem? (i := 548) (by decide +kernel)⟩
theorem lw_p13 : lw_okq (⟨"ThinReadings$Thinning", "sendKept", "()V"⟩, 10) := ⟨⟨by decide +kernel, by decide +kernel⟩, List.mem_of_getElem? (i := 169) (by decide +kernel), List.mem_of_getElem? (i := 563) (by decide +kernel), List.mem_of_getElem? (i := 564) (by decide +kernel)⟩
theorem lw_p14 : lw_okq (⟨"ThinReadings$Thinning", "chooseLeast", "()I"⟩, 10) := ⟨⟨by decide +kernel, by decide +kernel⟩, List.mem_of_getElem? (i := 169) (by decide +kernel), List.mem_of_getElem? (i := 569) (by decide +kernel), List.mem_of_getElem? (i := 570) (by decide +kernel)⟩
theorem lw_p15 : lw_okq (⟨"ThinReadings$Thinning", "chooseNext", "(I)V"⟩, 10) := ⟨⟨by decide +kernel, by decide +kernel⟩, List.mem_of_getElem? (i := 169) (by decide +kernel), List.mem_of_getElem? (i := 574) (by decide +kernel), List.mem_of_getElem? (i := 575) (by decide +kernel)⟩
def lw_privs_1 : List (MethodName × Nat) := [(⟨"ThinReadings$Parser", "readToken", "()V"⟩, 8), (⟨"ThinReadings$Parser", "readDigits", "()V"⟩, 8), (⟨"ThinReadings$Parser", "isPromiseItem", "()Z"⟩, 8), (⟨"ThinReadings$Parser", "isNumber", "(II)Z"⟩, 8), (⟨"ThinReadings$Parser", "isEnded", "()Z"⟩, 8), (⟨"ThinReadings$Parser", "isDelayItem", "()Z"⟩, 8), (⟨"ThinReadings$Parser", "isReadingItem", "(Z)Z"⟩, 8), (⟨"ThinReadings", "outdateAll", "()V"⟩, 10), (⟨"ThinReadings", "appendReading", "(II)I"⟩, 10), (⟨"ThinReadings", "rememberForUndo", "()V"⟩, 10), (⟨"ThinReadings$Lines", "measureNeedsFrom", "(I)V"⟩, 4), (⟨"ThinReadings$Thinning", "cutPieces", "()V"⟩, 10), (⟨"ThinReadings$Thinning", "fitsStrip", "(II)Z"⟩, 10), (⟨"ThinReadings$Thinning", "sendKept", "()V"⟩, 10), (⟨"ThinReadings$Thinning", "chooseLeast", "()I"⟩, 10), (⟨"ThinReadings$Thinning", "chooseNext", "(I)V"⟩, 10)]
theorem lw_r1 : ∀ q ∈ lw_privs_1, lw_okq q := List.forall_mem_cons.mpr ⟨lw_p0, List.forall_mem_cons.mpr ⟨lw_p1, List.forall_mem_cons.mpr ⟨lw_p2, List.forall_mem_cons.mpr ⟨lw_p3, List.forall_mem_cons.mpr ⟨lw_p4, List.forall_mem_cons.mpr ⟨lw_p5, List.forall_mem_cons.mpr ⟨lw_p6, List.forall_mem_cons.mpr ⟨lw_p7, List.forall_mem_cons.mpr ⟨lw_p8, List.forall_mem_cons.mpr ⟨lw_p9, List.forall_mem_cons.mpr ⟨lw_p10, List.forall_mem_cons.mpr ⟨lw_p11, List.forall_mem_cons.mpr ⟨lw_p12, List.forall_mem_cons.mpr ⟨lw_p13, List.forall_mem_cons.mpr ⟨lw_p14, List.forall_mem_cons.mpr ⟨lw_p15, fun _ h => absurd h List.not_mem_nil⟩⟩⟩⟩⟩⟩⟩⟩⟩⟩⟩⟩⟩⟩⟩⟩
theorem lw_p16 : lw_okq (⟨"ThinReadings", "isLine", "(II)Z"⟩, 10) := ⟨⟨by decide +kernel, by decide +kernel⟩, List.mem_of_getElem? (i := 16) (by decide +kernel), List.mem_of_getElem? (i := 601) (by decide +kernel), List.mem_of_getElem? (i := 602) (by decide +kernel)⟩
theorem lw_p17 : lw_okq (⟨"ThinReadings$Survey", "swingAllDoors", "()V"⟩, 8) := ⟨⟨by decide +kernel, by decide +kernel⟩, List.mem_of_getElem? (i := 226) (by decide +kernel), List.mem_of_getElem? (i := 683) (by decide +kernel), List.mem_of_getElem? (i := 684) (by decide +kernel)⟩
theorem lw_p18 : lw_okq (⟨"ThinReadings$Survey", "countKept", "(I)I"⟩, 8) := ⟨⟨by decide +kernel, by decide +kernel⟩, List.mem_of_getElem? (i := 226) (by decide +kernel), List.mem_of_getElem? (i := 700) (by decide +kernel), List.mem_of_getElem? (i := 701) (by decide +kernel)⟩
theorem lw_p19 : lw_okq (⟨"ThinReadingsModel", "blanks", "()V"⟩, 23) := ⟨⟨by decide +kernel, by decide +kernel⟩, List.mem_of_getElem? (i := 736) (by decide +kernel), List.mem_of_getElem? (i := 831) (by decide +kernel), List.mem_of_getElem? (i := 832) (by decide +kernel)⟩
theorem lw_p20 : lw_okq (⟨"ThinReadingsModel", "readsItem", "()Z"⟩, 23) := ⟨⟨by decide +kernel, by decide +kernel⟩, List.mem_of_getElem? (i := 736) (by decide +kernel), List.mem_of_getElem? (i := 835) (by decide +kernel), List.mem_of_getElem? (i := 836) (by decide +kernel)⟩
theorem lw_p21 : lw_okq (⟨"ThinReadingsModel", "next", "()V"⟩, 23) := ⟨⟨by decide +kernel, by decide +kernel⟩, List.mem_of_getElem? (i := 736) (by decide +kernel), List.mem_of_getElem? (i := 839) (by decide +kernel), List.mem_of_getElem? (i := 840) (by decide +kernel)⟩
theorem lw_p22 : lw_okq (⟨"ThinReadingsModel", "isFigure", "()Z"⟩, 23) := ⟨⟨by decide +kernel, by decide +kernel⟩, List.mem_of_getElem? (i := 736) (by decide +kernel), List.mem_of_getElem? (i := 843) (by decide +kernel), List.mem_of_getElem? (i := 844) (by decide +kernel)⟩
theorem lw_p23 : lw_okq (⟨"ThinReadingsModel", "readsOnce", "(III)Z"⟩, 23) := ⟨⟨by decide +kernel, by decide +kernel⟩, List.mem_of_getElem? (i := 736) (by decide +kernel), List.mem_of_getElem? (i := 847) (by decide +kernel), List.mem_of_getElem? (i := 848) (by decide +kernel)⟩
theorem lw_p24 : lw_okq (⟨"ThinReadingsModel", "fails", "()Z"⟩, 23) := ⟨⟨by decide +kernel, by decide +kernel⟩, List.mem_of_getElem? (i := 736) (by decide +kernel), List.mem_of_getElem? (i := 854) (by decide +kernel), List.mem_of_getElem? (i := 855) (by decide +kernel)⟩
theorem lw_p25 : lw_okq (⟨"ThinReadingsModel", "number", "(II)Z"⟩, 23) := ⟨⟨by decide +kernel, by decide +kernel⟩, List.mem_of_getElem? (i := 736) (by decide +kernel), List.mem_of_getElem? (i := 858) (by decide +kernel), List.mem_of_getElem? (i := 859) (by decide +kernel)⟩
theorem lw_p26 : lw_okq (⟨"ThinReadingsModel", "ends", "()Z"⟩, 23) := ⟨⟨by decide +kernel, by decide +kernel⟩, List.mem_of_getElem? (i := 736) (by decide +kernel), List.mem_of_getElem? (i := 862) (by decide +kernel), List.mem_of_getElem? (i := 863) (by decide +kernel)⟩
theorem lw_p27 : lw_okq (⟨"ThinReadingsModel", "readsOne", "(Z)Z"⟩, 23) := ⟨⟨by decide +kernel, by decide +kernel⟩, List.mem_of_getElem? (i := 736) (by decide +kernel), List.mem_of_getElem? (i := 866) (by decide +kernel), List.mem_of_getElem? (i := 867) (by decide +kernel)⟩
theorem lw_p28 : lw_okq (⟨"ThinReadingsModel", "comes", "(II)I"⟩, 23) := ⟨⟨by decide +kernel, by decide +kernel⟩, List.mem_of_getElem? (i := 736) (by decide +kernel), List.mem_of_getElem? (i := 874) (by decide +kernel), List.mem_of_getElem? (i := 875) (by decide +kernel)⟩
theorem lw_p29 : lw_okq (⟨"ThinReadingsModel", "remember", "()V"⟩, 23) := ⟨⟨by decide +kernel, by decide +kernel⟩, List.mem_of_getElem? (i := 736) (by decide +kernel), List.mem_of_getElem? (i := 878) (by decide +kernel), List.mem_of_getElem? (i := 879) (by decide +kernel)⟩
theorem lw_p30 : lw_okq (⟨"ThinReadingsModel", "isReading", "(I)Z"⟩, 23) := ⟨⟨by decide +kernel, by decide +kernel⟩, List.mem_of_getElem? (i := 736) (by decide +kernel), List.mem_of_getElem? (i := 890) (by decide +kernel), List.mem_of_getElem? (i := 891) (by decide +kernel)⟩
theorem lw_p31 : lw_okq (⟨"ThinReadingsModel", "becomes", "(II)I"⟩, 23) := ⟨⟨by decide +kernel, by decide +kernel⟩, List.mem_of_getElem? (i := 736) (by decide +kernel), List.mem_of_getElem? (i := 898) (by decide +kernel), List.mem_of_getElem? (i := 899) (by decide +kernel)⟩
def lw_privs_2 : List (MethodName × Nat) := [(⟨"ThinReadings", "isLine", "(II)Z"⟩, 10), (⟨"ThinReadings$Survey", "swingAllDoors", "()V"⟩, 8), (⟨"ThinReadings$Survey", "countKept", "(I)I"⟩, 8), (⟨"ThinReadingsModel", "blanks", "()V"⟩, 23), (⟨"ThinReadingsModel", "readsItem", "()Z"⟩, 23), (⟨"ThinReadingsModel", "next", "()V"⟩, 23), (⟨"ThinReadingsModel", "isFigure", "()Z"⟩, 23), (⟨"ThinReadingsModel", "readsOnce", "(III)Z"⟩, 23), (⟨"ThinReadingsModel", "fails", "()Z"⟩, 23), (⟨"ThinReadingsModel", "number", "(II)Z"⟩, 23), (⟨"ThinReadingsModel", "ends", "()Z"⟩, 23), (⟨"ThinReadingsModel", "readsOne", "(Z)Z"⟩, 23), (⟨"ThinReadingsModel", "comes", "(II)I"⟩, 23), (⟨"ThinReadingsModel", "remember", "()V"⟩, 23), (⟨"ThinReadingsModel", "isReading", "(I)Z"⟩, 23), (⟨"ThinReadingsModel", "becomes", "(II)I"⟩, 23)]
theorem lw_r2 : ∀ q ∈ lw_privs_2, lw_okq q := List.forall_mem_cons.mpr ⟨lw_p16, List.forall_mem_cons.mpr ⟨lw_p17, List.forall_mem_cons.mpr ⟨lw_p18, List.forall_mem_cons.mpr ⟨lw_p19, List.forall_mem_cons.mpr ⟨lw_p20, List.forall_mem_cons.mpr ⟨lw_p21, List.forall_mem_cons.mpr ⟨lw_p22, List.forall_mem_cons.mpr ⟨lw_p23, List.forall_mem_cons.mpr ⟨lw_p24, List.forall_mem_cons.mpr ⟨lw_p25, List.forall_mem_cons.mpr ⟨lw_p26, List.forall_mem_cons.mpr ⟨lw_p27, List.forall_mem_cons.mpr ⟨lw_p28, List.forall_mem_cons.mpr ⟨lw_p29, List.forall_mem_cons.mpr ⟨lw_p30, List.forall_mem_cons.mpr ⟨lw_p31, fun _ h => absurd h List.not_mem_nil⟩⟩⟩⟩⟩⟩⟩⟩⟩⟩⟩⟩⟩⟩⟩⟩
theorem lw_p32 : lw_okq (⟨"ThinReadingsModel", "isKnown", "(I)Z"⟩, 23) := ⟨⟨by decide +kernel, by decide +kernel⟩, List.mem_of_getElem? (i := 736) (by decide +kernel), List.mem_of_getElem? (i := 914) (by decide +kernel), List.mem_of_getElem? (i := 915) (by decide +kernel)⟩
theorem lw_p33 : lw_okq (⟨"ThinReadingsModel", "door", "(I)I"⟩, 23) := ⟨⟨by decide +kernel, by decide +kernel⟩, List.mem_of_getElem? (i := 736) (by decide +kernel), List.mem_of_getElem? (i := 918) (by decide +kernel), List.mem_of_getElem? (i := 919) (by decide +kernel)⟩
theorem lw_p34 : lw_okq (⟨"ThinReadingsModel", "isFirst", "(I)Z"⟩, 23) := ⟨⟨by decide +kernel, by decide +kernel⟩, List.mem_of_getElem? (i := 736) (by decide +kernel), List.mem_of_getElem? (i := 922) (by decide +kernel), List.mem_of_getElem? (i := 923) (by decide +kernel)⟩
theorem lw_p35 : lw_okq (⟨"ThinReadingsModel", "isLast", "(I)Z"⟩, 23) := ⟨⟨by decide +kernel, by decide +kernel⟩, List.mem_of_getElem? (i := 736) (by decide +kernel), List.mem_of_getElem? (i := 926) (by decide +kernel), List.mem_of_getElem? (i := 927) (by decide +kernel)⟩
theorem lw_p36 : lw_okq (⟨"ThinReadingsModel", "doorFrom", "(II)I"⟩, 23) := ⟨⟨by decide +kernel, by decide +kernel⟩, List.mem_of_getElem? (i := 736) (by decide +kernel), List.mem_of_getElem? (i := 930) (by decide +kernel), List.mem_of_getElem? (i := 931) (by decide +kernel)⟩
theorem lw_p37 : lw_okq (⟨"ThinReadingsModel", "whyNot", "(III)I"⟩, 23) := ⟨⟨by decide +kernel, by decide +kernel⟩, List.mem_of_getElem? (i := 736) (by decide +kernel), List.mem_of_getElem? (i := 934) (by decide +kernel), List.mem_of_getElem? (i := 935) (by decide +kernel)⟩
theorem lw_p38 : lw_okq (⟨"ThinReadingsModel", "apartBy", "(III)I"⟩, 23) := ⟨⟨by decide +kernel, by decide +kernel⟩, List.mem_of_getElem? (i := 736) (by decide +kernel), List.mem_of_getElem? (i := 938) (by decide +kernel), List.mem_of_getElem? (i := 939) (by decide +kernel)⟩
theorem lw_p39 : lw_okq (⟨"ThinReadingsModel", "least", "()I"⟩, 23) := ⟨⟨by decide +kernel, by decide +kernel⟩, List.mem_of_getElem? (i := 736) (by decide +kernel), List.mem_of_getElem? (i := 942) (by decide +kernel), List.mem_of_getElem? (i := 943) (by decide +kernel)⟩
theorem lw_p40 : lw_okq (⟨"ThinReadingsModel", "pieces", "()I"⟩, 23) := ⟨⟨by decide +kernel, by decide +kernel⟩, List.mem_of_getElem? (i := 736) (by decide +kernel), List.mem_of_getElem? (i := 946) (by decide +kernel), List.mem_of_getElem? (i := 947) (by decide +kernel)⟩
theorem lw_p41 : lw_okq (⟨"ThinReadingsModel", "isStrip", "(II)Z"⟩, 23) := ⟨⟨by decide +kernel, by decide +kernel⟩, List.mem_of_getElem? (i := 736) (by decide +kernel), List.mem_of_getElem? (i := 950) (by decide +kernel), List.mem_of_getElem? (i := 951) (by decide +kernel)⟩
theorem lw_p42 : lw_okq (⟨"ThinReadingsModel", "layStrip", "(II)V"⟩, 23) := ⟨⟨by decide +kernel, by decide +kernel⟩, List.mem_of_getElem? (i := 736) (by decide +kernel), List.mem_of_getElem? (i := 954) (by decide +kernel), List.mem_of_getElem? (i := 955) (by decide +kernel)⟩
theorem lw_p43 : lw_okq (⟨"ThinReadingsModel", "greater", "(JJ)V"⟩, 23) := ⟨⟨by decide +kernel, by decide +kernel⟩, List.mem_of_getElem? (i := 736) (by decide +kernel), List.mem_of_getElem? (i := 959) (by decide +kernel), List.mem_of_getElem? (i := 960) (by decide +kernel)⟩
theorem lw_p44 : lw_okq (⟨"ThinReadingsModel", "stretchOf", "(I)I"⟩, 23) := ⟨⟨by decide +kernel, by decide +kernel⟩, List.mem_of_getElem? (i := 736) (by decide +kernel), List.mem_of_getElem? (i := 963) (by decide +kernel), List.mem_of_getElem? (i := 964) (by decide +kernel)⟩
theorem lw_p45 : lw_okq (⟨"ThinReadingsModel", "sentAt", "(II)I"⟩, 23) := ⟨⟨by decide +kernel, by decide +kernel⟩, List.mem_of_getElem? (i := 736) (by decide +kernel), List.mem_of_getElem? (i := 970) (by decide +kernel), List.mem_of_getElem? (i := 971) (by decide +kernel)⟩
theorem lw_p46 : lw_okq (⟨"ThinReadingsModel", "keptAhead", "(II)I"⟩, 23) := ⟨⟨by decide +kernel, by decide +kernel⟩, List.mem_of_getElem? (i := 736) (by decide +kernel), List.mem_of_getElem? (i := 974) (by decide +kernel), List.mem_of_getElem? (i := 975) (by decide +kernel)⟩
theorem lw_p47 : lw_okq (⟨"ThinReadingsModel", "isSide", "(II)Z"⟩, 23) := ⟨⟨by decide +kernel, by decide +kernel⟩, List.mem_of_getElem? (i := 736) (by decide +kernel), List.mem_of_getElem? (i := 982) (by decide +kernel), List.mem_of_getElem? (i := 983) (by decide +kernel)⟩
def lw_privs_3 : List (MethodName × Nat) := [(⟨"ThinReadingsModel", "isKnown", "(I)Z"⟩, 23), (⟨"ThinReadingsModel", "door", "(I)I"⟩, 23), (⟨"ThinReadingsModel", "isFirst", "(I)Z"⟩, 23), (⟨"ThinReadingsModel", "isLast", "(I)Z"⟩, 23), (⟨"ThinReadingsModel", "doorFrom", "(II)I"⟩, 23), (⟨"ThinReadingsModel", "whyNot", "(III)I"⟩, 23), (⟨"ThinReadingsModel", "apartBy", "(III)I"⟩, 23), (⟨"ThinReadingsModel", "least", "()I"⟩, 23), (⟨"ThinReadingsModel", "pieces", "()I"⟩, 23), (⟨"ThinReadingsModel", "isStrip", "(II)Z"⟩, 23), (⟨"ThinReadingsModel", "layStrip", "(II)V"⟩, 23), (⟨"ThinReadingsModel", "greater", "(JJ)V"⟩, 23), (⟨"ThinReadingsModel", "stretchOf", "(I)I"⟩, 23), (⟨"ThinReadingsModel", "sentAt", "(II)I"⟩, 23), (⟨"ThinReadingsModel", "keptAhead", "(II)I"⟩, 23), (⟨"ThinReadingsModel", "isSide", "(II)Z"⟩, 23)]
theorem lw_r3 : ∀ q ∈ lw_privs_3, lw_okq q := List.forall_mem_cons.mpr ⟨lw_p32, List.forall_mem_cons.mpr ⟨lw_p33, List.forall_mem_cons.mpr ⟨lw_p34, List.forall_mem_cons.mpr ⟨lw_p35, List.forall_mem_cons.mpr ⟨lw_p36, List.forall_mem_cons.mpr ⟨lw_p37, List.forall_mem_cons.mpr ⟨lw_p38, List.forall_mem_cons.mpr ⟨lw_p39, List.forall_mem_cons.mpr ⟨lw_p40, List.forall_mem_cons.mpr ⟨lw_p41, List.forall_mem_cons.mpr ⟨lw_p42, List.forall_mem_cons.mpr ⟨lw_p43, List.forall_mem_cons.mpr ⟨lw_p44, List.forall_mem_cons.mpr ⟨lw_p45, List.forall_mem_cons.mpr ⟨lw_p46, List.forall_mem_cons.mpr ⟨lw_p47, fun _ h => absurd h List.not_mem_nil⟩⟩⟩⟩⟩⟩⟩⟩⟩⟩⟩⟩⟩⟩⟩⟩
theorem lw_p48 : lw_okq (⟨"ThinReadingsModel", "layUnseen", "()I"⟩, 23) := ⟨⟨by decide +kernel, by decide +kernel⟩, List.mem_of_getElem? (i := 736) (by decide +kernel), List.mem_of_getElem? (i := 1013) (by decide +kernel), List.mem_of_getElem? (i := 1014) (by decide +kernel)⟩
theorem lw_p49 : lw_okq (⟨"ThinReadingsModel", "stretches", "()I"⟩, 23) := ⟨⟨by decide +kernel, by decide +kernel⟩, List.mem_of_getElem? (i := 736) (by decide +kernel), List.mem_of_getElem? (i := 1033) (by decide +kernel), List.mem_of_getElem? (i := 1034) (by decide +kernel)⟩
theorem lw_p50 : lw_okq (⟨"ThinReadingsModel", "late", "()I"⟩, 23) := ⟨⟨by decide +kernel, by decide +kernel⟩, List.mem_of_getElem? (i := 736) (by decide +kernel), List.mem_of_getElem? (i := 1037) (by decide +kernel), List.mem_of_getElem? (i := 1038) (by decide +kernel)⟩
def lw_privs_4 : List (MethodName × Nat) := [(⟨"ThinReadingsModel", "layUnseen", "()I"⟩, 23), (⟨"ThinReadingsModel", "stretches", "()I"⟩, 23), (⟨"ThinReadingsModel", "late", "()I"⟩, 23)]
theorem lw_r4 : ∀ q ∈ lw_privs_4, lw_okq q := List.forall_mem_cons.mpr ⟨lw_p48, List.forall_mem_cons.mpr ⟨lw_p49, List.forall_mem_cons.mpr ⟨lw_p50, fun _ h => absurd h List.not_mem_nil⟩⟩⟩
def lw_privs : List (MethodName × Nat) := lw_privs_1 ++ (lw_privs_2 ++ (lw_privs_3 ++ (lw_privs_4)))
def lw_tbl : List Cond := k2_sels lw_privs ++ tables_1
theorem lw_privs_ok : ∀ q ∈ lw_privs, lw_okq q := by
  show ∀ q ∈ lw_privs_1 ++ (lw_privs_2 ++ (lw_privs_3 ++ (lw_privs_4))), lw_okq q
  exact List.forall_mem_append.mpr ⟨lw_r1, List.forall_mem_append.mpr ⟨lw_r2, List.forall_mem_append.mpr ⟨lw_r3, lw_r4⟩⟩⟩
end
section
/-! ===== BEGIN words of one list among another's, by their places ===== -/
theorem goodIn_r {big : List Cond} (ws : List Cond) (ps : List Nat) (hp : ws = ps.filterMap (fun i => big[i]?)) (h : ws.all goodWord = true) : GoodIn big ws := by
  intro w hw
  have h1 := List.all_eq_true.mp h w hw
  rw [hp] at hw
  obtain ⟨i, -, hi⟩ := List.mem_filterMap.mp hw
  have hm : w ∈ big := by first | exact List.mem_of_getElem? hi | exact List.getElem?_mem hi
  exact ⟨hm, good_of_word h1⟩
theorem goodIn_app {big a b : List Cond} (ha : GoodIn big a) (hb : GoodIn big b) : GoodIn big (a ++ b) := fun w h => (List.mem_append.mp h).elim (ha w) (hb w)
theorem goodIn_ca {big a b : List Cond} {c : Cond} (ha : GoodIn big (c :: a)) (hb : GoodIn big b) : GoodIn big (c :: (a ++ b)) := fun w h => (List.mem_cons.mp h).elim (fun e => ha w (List.mem_cons.mpr (Or.inl e))) (fun h => (List.mem_append.mp h).elim (fun h => ha w (List.mem_cons.mpr (Or.inr h))) (hb w))
theorem goodIn_sub {big ws : List Cond} (hm : ∀ w ∈ ws, w ∈ big) (h : ws.all goodWord = true) : GoodIn big ws := fun w hw => ⟨hm w hw, good_of_word (List.all_eq_true.mp h w hw)⟩
/-! ===== END ===== -/

/-! ===== BEGIN printed: names, fields, word lists, decode rows ===== -/
def RX0 : String := "ThinReadings$Fraction"
def TX0 : u_T := fun k => match k with
  | 0 => ("ThinReadings$Fraction", "upper", "I", false)
  | _ => ("ThinReadings$Fraction", "lower", "I", false)
def tyX0 : Nat → FieldType := fun k => match k with
  | 0 => .int
  | _ => .int
abbrev wsX00 : List Cond := u_ws RX0 TX0 2
theorem nmX0 : ∀ a, a < 2 → ∀ b, b < 2 → a ≠ b → (TX0 a).2.1 ≠ (TX0 b).2.1 := by decide +kernel
theorem tyX0_ok : ∀ k, k < 2 → parseFieldDescriptor (TX0 k).2.2.1 = some (tyX0 k) := by decide +kernel
abbrev cX0_init : ByteArray := prog_2_method_1_code
def yX0_init : MethodName := ⟨RX0, "<init>", "()V"⟩
abbrev cX0_assign : ByteArray := prog_2_method_2_code
def yX0_assign : MethodName := ⟨RX0, "assign", "(II)V"⟩
abbrev cX0_isBelow : ByteArray := prog_2_method_3_code
def yX0_isBelow : MethodName := ⟨RX0, "isBelow", "(II)Z"⟩
abbrev cX0_part : ByteArray := prog_2_method_4_code
def yX0_part : MethodName := ⟨RX0, "part", "(I)I"⟩
abbrev cX0_commonDivisor : ByteArray := prog_2_method_5_code
def yX0_commonDivisor : MethodName := ⟨RX0, "commonDivisor", "(II)I"⟩
def RX1 : String := "ThinReadings$History"
def TX1 : u_T := fun k => match k with
  | 0 => ("ThinReadings$History", "ring", "LThinReadings$Shelf;", true)
  | 1 => ("ThinReadings$History", "next", "I", false)
  | _ => ("ThinReadings$History", "size", "I", false)
def tyX1 : Nat → FieldType := fun k => match k with
  | 0 => .object "ThinReadings$Shelf"
  | 1 => .int
  | _ => .int
abbrev wsX10 : List Cond := u_ws RX1 TX1 3
theorem nmX1 : ∀ a, a < 3 → ∀ b, b < 3 → a ≠ b → (TX1 a).2.1 ≠ (TX1 b).2.1 := by decide +kernel
theorem tyX1_ok : ∀ k, k < 3 → parseFieldDescriptor (TX1 k).2.2.1 = some (tyX1 k) := by decide +kernel
abbrev cX1_init : ByteArray := prog_3_method_1_code
def yX1_init : MethodName := ⟨RX1, "<init>", "()V"⟩
abbrev cX1_wipe : ByteArray := prog_3_method_2_code
def yX1_wipe : MethodName := ⟨RX1, "wipe", "()V"⟩
abbrev cX1_push : ByteArray := prog_3_method_3_code
def yX1_push : MethodName := ⟨RX1, "push", "(LThinReadings$Log;)V"⟩
abbrev cX1_pop : ByteArray := prog_3_method_4_code
def yX1_pop : MethodName := ⟨RX1, "pop", "(LThinReadings$Log;)V"⟩
def RX2 : String := "ThinReadings$Lines"
def TX2 : u_T := fun k => match k with
  | 0 => ("ThinReadings$Lines", "log", "LThinReadings$Log;", true)
  | 1 => ("ThinReadings$Lines", "stretch", "[I", true)
  | 2 => ("ThinReadings$Lines", "needs", "[I", true)
  | _ => ("ThinReadings$Lines", "stretches", "I", false)
def tyX2 : Nat → FieldType := fun k => match k with
  | 0 => .object "ThinReadings$Log"
  | 1 => .array .int
  | 2 => .array .int
  | _ => .int
abbrev wsX20 : List Cond := u_ws RX2 TX2 4
theorem nmX2 : ∀ a, a < 4 → ∀ b, b < 4 → a ≠ b → (TX2 a).2.1 ≠ (TX2 b).2.1 := by decide +kernel
theorem tyX2_ok : ∀ k, k < 4 → parseFieldDescriptor (TX2 k).2.2.1 = some (tyX2 k) := by decide +kernel
abbrev cX2_init : ByteArray := prog_4_method_1_code
def yX2_init : MethodName := ⟨RX2, "<init>", "(LThinReadings$Log;)V"⟩
abbrev cX2_measureAll : ByteArray := prog_4_method_2_code
def yX2_measureAll : MethodName := ⟨RX2, "measureAll", "()V"⟩
abbrev cX2_measureNeedsFrom : ByteArray := prog_4_method_3_code
def yX2_measureNeedsFrom : MethodName := ⟨RX2, "measureNeedsFrom", "(I)V"⟩
abbrev cX2_stretchAt : ByteArray := prog_4_method_4_code
def yX2_stretchAt : MethodName := ⟨RX2, "stretchAt", "(I)I"⟩
abbrev cX2_needOf : ByteArray := prog_4_method_5_code
def yX2_needOf : MethodName := ⟨RX2, "needOf", "(II)I"⟩
abbrev cX2_span : ByteArray := prog_4_method_6_code
def yX2_span : MethodName := ⟨RX2, "span", "(II)I"⟩
abbrev cX2_offset : ByteArray := prog_4_method_7_code
def yX2_offset : MethodName := ⟨RX2, "offset", "(III)I"⟩
abbrev cX2_farthest : ByteArray := prog_4_method_8_code
def yX2_farthest : MethodName := ⟨RX2, "farthest", "(II)I"⟩
abbrev cX2_firstBeyond : ByteArray := prog_4_method_9_code
def yX2_firstBeyond : MethodName := ⟨RX2, "firstBeyond", "(III)I"⟩
abbrev cX2_measureStrip : ByteArray := prog_4_method_10_code
def yX2_measureStrip : MethodName := ⟨RX2, "measureStrip", "(IILThinReadings$Fraction;)V"⟩
abbrev cX2_measureValue : ByteArray := prog_4_method_11_code
def yX2_measureValue : MethodName := ⟨RX2, "measureValue", "(IIILThinReadings$Fraction;)V"⟩
def RX3 : String := "ThinReadings$Log"
def TX3 : u_T := fun k => match k with
  | 0 => ("ThinReadings$Log", "times", "[I", true)
  | 1 => ("ThinReadings$Log", "values", "[I", true)
  | 2 => ("ThinReadings$Log", "size", "I", false)
  | 3 => ("ThinReadings$Log", "promise", "I", false)
  | _ => ("ThinReadings$Log", "delay", "I", false)
def tyX3 : Nat → FieldType := fun k => match k with
  | 0 => .array .int
  | 1 => .array .int
  | 2 => .int
  | 3 => .int
  | _ => .int
abbrev wsX30 : List Cond := u_ws RX3 TX3 5
theorem nmX3 : ∀ a, a < 5 → ∀ b, b < 5 → a ≠ b → (TX3 a).2.1 ≠ (TX3 b).2.1 := by decide +kernel
theorem tyX3_ok : ∀ k, k < 5 → parseFieldDescriptor (TX3 k).2.2.1 = some (tyX3 k) := by decide +kernel
abbrev cX3_init : ByteArray := prog_5_method_1_code
def yX3_init : MethodName := ⟨RX3, "<init>", "()V"⟩
abbrev cX3_startAnew : ByteArray := prog_5_method_2_code
def yX3_startAnew : MethodName := ⟨RX3, "startAnew", "()V"⟩
abbrev cX3_has : ByteArray := prog_5_method_3_code
def yX3_has : MethodName := ⟨RX3, "has", "(I)Z"⟩
abbrev cX3_isKnown : ByteArray := prog_5_method_4_code
def yX3_isKnown : MethodName := ⟨RX3, "isKnown", "(I)Z"⟩
abbrev cX3_isFirst : ByteArray := prog_5_method_5_code
def yX3_isFirst : MethodName := ⟨RX3, "isFirst", "(I)Z"⟩
abbrev cX3_isLast : ByteArray := prog_5_method_6_code
def yX3_isLast : MethodName := ⟨RX3, "isLast", "(I)Z"⟩
abbrev cX3_timeAt : ByteArray := prog_5_method_7_code
def yX3_timeAt : MethodName := ⟨RX3, "timeAt", "(I)I"⟩
abbrev cX3_valueAt : ByteArray := prog_5_method_8_code
def yX3_valueAt : MethodName := ⟨RX3, "valueAt", "(I)I"⟩
abbrev cX3_isFull : ByteArray := prog_5_method_9_code
def yX3_isFull : MethodName := ⟨RX3, "isFull", "()Z"⟩
abbrev cX3_isLater : ByteArray := prog_5_method_10_code
def yX3_isLater : MethodName := ⟨RX3, "isLater", "(I)Z"⟩
abbrev cX3_append : ByteArray := prog_5_method_11_code
def yX3_append : MethodName := ⟨RX3, "append", "(II)I"⟩
abbrev cX3_remove : ByteArray := prog_5_method_12_code
def yX3_remove : MethodName := ⟨RX3, "remove", "(I)V"⟩
abbrev cX3_lastUpTo : ByteArray := prog_5_method_13_code
def yX3_lastUpTo : MethodName := ⟨RX3, "lastUpTo", "(II)I"⟩
abbrev cX3_firstFrom : ByteArray := prog_5_method_14_code
def yX3_firstFrom : MethodName := ⟨RX3, "firstFrom", "(II)I"⟩
abbrev cX3_copy : ByteArray := prog_5_method_15_code
def yX3_copy : MethodName := ⟨RX3, "copy", "(LThinReadings$Log;)V"⟩
def RX4 : String := "ThinReadings$Parser"
def TX4 : u_T := fun k => match k with
  | 0 => ("ThinReadings$Parser", "text", "LThinReadings$Text;", true)
  | 1 => ("ThinReadings$Parser", "draft", "LThinReadings$Log;", true)
  | 2 => ("ThinReadings$Parser", "at", "I", false)
  | 3 => ("ThinReadings$Parser", "kind", "I", false)
  | 4 => ("ThinReadings$Parser", "place", "I", false)
  | 5 => ("ThinReadings$Parser", "number", "I", false)
  | 6 => ("ThinReadings$Parser", "isPromiseTold", "Z", false)
  | _ => ("ThinReadings$Parser", "isDelayTold", "Z", false)
def tyX4 : Nat → FieldType := fun k => match k with
  | 0 => .object "ThinReadings$Text"
  | 1 => .object "ThinReadings$Log"
  | 2 => .int
  | 3 => .int
  | 4 => .int
  | 5 => .int
  | 6 => .boolean
  | _ => .boolean
abbrev wsX40 : List Cond := u_ws RX4 TX4 8
theorem nmX4 : ∀ a, a < 8 → ∀ b, b < 8 → a ≠ b → (TX4 a).2.1 ≠ (TX4 b).2.1 := by decide +kernel
theorem tyX4_ok : ∀ k, k < 8 → parseFieldDescriptor (TX4 k).2.2.1 = some (tyX4 k) := by decide +kernel
abbrev cX4_init : ByteArray := prog_6_method_1_code
def yX4_init : MethodName := ⟨RX4, "<init>", "(LThinReadings$Text;)V"⟩
abbrev cX4_parse : ByteArray := prog_6_method_2_code
def yX4_parse : MethodName := ⟨RX4, "parse", "()I"⟩
abbrev cX4_isPromiseItem : ByteArray := prog_6_method_3_code
def yX4_isPromiseItem : MethodName := ⟨RX4, "isPromiseItem", "()Z"⟩
abbrev cX4_isDelayItem : ByteArray := prog_6_method_4_code
def yX4_isDelayItem : MethodName := ⟨RX4, "isDelayItem", "()Z"⟩
abbrev cX4_isReadingItem : ByteArray := prog_6_method_5_code
def yX4_isReadingItem : MethodName := ⟨RX4, "isReadingItem", "(Z)Z"⟩
abbrev cX4_isNumber : ByteArray := prog_6_method_6_code
def yX4_isNumber : MethodName := ⟨RX4, "isNumber", "(II)Z"⟩
abbrev cX4_isEnded : ByteArray := prog_6_method_7_code
def yX4_isEnded : MethodName := ⟨RX4, "isEnded", "()Z"⟩
abbrev cX4_readToken : ByteArray := prog_6_method_8_code
def yX4_readToken : MethodName := ⟨RX4, "readToken", "()V"⟩
abbrev cX4_kindOf : ByteArray := prog_6_method_9_code
def yX4_kindOf : MethodName := ⟨RX4, "kindOf", "(C)I"⟩
abbrev cX4_readDigits : ByteArray := prog_6_method_10_code
def yX4_readDigits : MethodName := ⟨RX4, "readDigits", "()V"⟩
def RX5 : String := "ThinReadings$Seen"
def TX5 : u_T := fun k => match k with
  | 0 => ("ThinReadings$Seen", "size", "I", false)
  | 1 => ("ThinReadings$Seen", "keptMask", "I", false)
  | _ => ("ThinReadings$Seen", "droppedMask", "I", false)
def tyX5 : Nat → FieldType := fun k => match k with
  | 0 => .int
  | 1 => .int
  | _ => .int
abbrev wsX50 : List Cond := u_ws RX5 TX5 3
theorem nmX5 : ∀ a, a < 3 → ∀ b, b < 3 → a ≠ b → (TX5 a).2.1 ≠ (TX5 b).2.1 := by decide +kernel
theorem tyX5_ok : ∀ k, k < 3 → parseFieldDescriptor (TX5 k).2.2.1 = some (tyX5 k) := by decide +kernel
abbrev cX5_init : ByteArray := prog_7_method_1_code
def yX5_init : MethodName := ⟨RX5, "<init>", "()V"⟩
abbrev cX5_isFull : ByteArray := prog_7_method_2_code
def yX5_isFull : MethodName := ⟨RX5, "isFull", "()Z"⟩
abbrev cX5_put : ByteArray := prog_7_method_3_code
def yX5_put : MethodName := ⟨RX5, "put", "(II)I"⟩
abbrev cX5_wipe : ByteArray := prog_7_method_4_code
def yX5_wipe : MethodName := ⟨RX5, "wipe", "()I"⟩
abbrev cX5_agreesWith : ByteArray := prog_7_method_5_code
def yX5_agreesWith : MethodName := ⟨RX5, "agreesWith", "(I)Z"⟩
def RX6 : String := "ThinReadings$Shelf"
def TX6 : u_T := fun k => match k with
  | 0 => ("ThinReadings$Shelf", "places", "I", true)
  | 1 => ("ThinReadings$Shelf", "cells", "[I", true)
  | _ => ("ThinReadings$Shelf", "filled", "I", false)
def tyX6 : Nat → FieldType := fun k => match k with
  | 0 => .int
  | 1 => .array .int
  | _ => .int
abbrev wsX60 : List Cond := u_ws RX6 TX6 3
theorem nmX6 : ∀ a, a < 3 → ∀ b, b < 3 → a ≠ b → (TX6 a).2.1 ≠ (TX6 b).2.1 := by decide +kernel
theorem tyX6_ok : ∀ k, k < 3 → parseFieldDescriptor (TX6 k).2.2.1 = some (tyX6 k) := by decide +kernel
abbrev cX6_init : ByteArray := prog_8_method_1_code
def yX6_init : MethodName := ⟨RX6, "<init>", "(I)V"⟩
abbrev cX6_wipe : ByteArray := prog_8_method_2_code
def yX6_wipe : MethodName := ⟨RX6, "wipe", "()V"⟩
abbrev cX6_holds : ByteArray := prog_8_method_3_code
def yX6_holds : MethodName := ⟨RX6, "holds", "(I)Z"⟩
abbrev cX6_put : ByteArray := prog_8_method_4_code
def yX6_put : MethodName := ⟨RX6, "put", "(ILThinReadings$Log;)V"⟩
abbrev cX6_take : ByteArray := prog_8_method_5_code
def yX6_take : MethodName := ⟨RX6, "take", "(ILThinReadings$Log;)V"⟩
def RX7 : String := "ThinReadings$Survey"
def TX7 : u_T := fun k => match k with
  | 0 => ("ThinReadings$Survey", "log", "LThinReadings$Log;", true)
  | 1 => ("ThinReadings$Survey", "thinning", "LThinReadings$Thinning;", true)
  | 2 => ("ThinReadings$Survey", "seen", "LThinReadings$Seen;", true)
  | 3 => ("ThinReadings$Survey", "doorMasks", "[I", true)
  | 4 => ("ThinReadings$Survey", "isOutdated", "Z", false)
  | 5 => ("ThinReadings$Survey", "possible", "I", false)
  | 6 => ("ThinReadings$Survey", "least", "I", false)
  | _ => ("ThinReadings$Survey", "greatest", "I", false)
def tyX7 : Nat → FieldType := fun k => match k with
  | 0 => .object "ThinReadings$Log"
  | 1 => .object "ThinReadings$Thinning"
  | 2 => .object "ThinReadings$Seen"
  | 3 => .array .int
  | 4 => .boolean
  | 5 => .int
  | 6 => .int
  | _ => .int
abbrev wsX70 : List Cond := u_ws RX7 TX7 8
theorem nmX7 : ∀ a, a < 8 → ∀ b, b < 8 → a ≠ b → (TX7 a).2.1 ≠ (TX7 b).2.1 := by decide +kernel
theorem tyX7_ok : ∀ k, k < 8 → parseFieldDescriptor (TX7 k).2.2.1 = some (tyX7 k) := by decide +kernel
abbrev cX7_init : ByteArray := prog_9_method_1_code
def yX7_init : MethodName := ⟨RX7, "<init>", "(LThinReadings$Log;LThinReadings$Thinning;LThinReadings$Seen;)V"⟩
abbrev cX7_outdate : ByteArray := prog_9_method_2_code
def yX7_outdate : MethodName := ⟨RX7, "outdate", "()V"⟩
abbrev cX7_run : ByteArray := prog_9_method_3_code
def yX7_run : MethodName := ⟨RX7, "run", "()V"⟩
abbrev cX7_swingAllDoors : ByteArray := prog_9_method_4_code
def yX7_swingAllDoors : MethodName := ⟨RX7, "swingAllDoors", "()V"⟩
abbrev cX7_bestReading : ByteArray := prog_9_method_5_code
def yX7_bestReading : MethodName := ⟨RX7, "bestReading", "()I"⟩
abbrev cX7_countKept : ByteArray := prog_9_method_6_code
def yX7_countKept : MethodName := ⟨RX7, "countKept", "(I)I"⟩
def RX8 : String := "ThinReadings$Text"
def TX8 : u_T := fun k => match k with
  | 0 => ("ThinReadings$Text", "letters", "[C", true)
  | _ => ("ThinReadings$Text", "length", "I", false)
def tyX8 : Nat → FieldType := fun k => match k with
  | 0 => .array .char
  | _ => .int
abbrev wsX80 : List Cond := u_ws RX8 TX8 2
theorem nmX8 : ∀ a, a < 2 → ∀ b, b < 2 → a ≠ b → (TX8 a).2.1 ≠ (TX8 b).2.1 := by decide +kernel
theorem tyX8_ok : ∀ k, k < 2 → parseFieldDescriptor (TX8 k).2.2.1 = some (tyX8 k) := by decide +kernel
abbrev cX8_init : ByteArray := prog_10_method_1_code
def yX8_init : MethodName := ⟨RX8, "<init>", "()V"⟩
abbrev cX8_isFull : ByteArray := prog_10_method_2_code
def yX8_isFull : MethodName := ⟨RX8, "isFull", "()Z"⟩
abbrev cX8_put : ByteArray := prog_10_method_3_code
def yX8_put : MethodName := ⟨RX8, "put", "(C)I"⟩
abbrev cX8_wipe : ByteArray := prog_10_method_4_code
def yX8_wipe : MethodName := ⟨RX8, "wipe", "()I"⟩
abbrev cX8_isDigit : ByteArray := prog_10_method_5_code
def yX8_isDigit : MethodName := ⟨RX8, "isDigit", "(I)Z"⟩
abbrev cX8_isBlank : ByteArray := prog_10_method_6_code
def yX8_isBlank : MethodName := ⟨RX8, "isBlank", "(I)Z"⟩
abbrev cX8_letterAt : ByteArray := prog_10_method_7_code
def yX8_letterAt : MethodName := ⟨RX8, "letterAt", "(I)C"⟩
def RX9 : String := "ThinReadings$Thinning"
def TX9 : u_T := fun k => match k with
  | 0 => ("ThinReadings$Thinning", "log", "LThinReadings$Log;", true)
  | 1 => ("ThinReadings$Thinning", "lines", "LThinReadings$Lines;", true)
  | 2 => ("ThinReadings$Thinning", "piece", "[I", true)
  | 3 => ("ThinReadings$Thinning", "sent", "[I", true)
  | 4 => ("ThinReadings$Thinning", "steps", "[I", true)
  | 5 => ("ThinReadings$Thinning", "next", "[I", true)
  | 6 => ("ThinReadings$Thinning", "isOutdated", "Z", false)
  | 7 => ("ThinReadings$Thinning", "pieces", "I", false)
  | 8 => ("ThinReadings$Thinning", "doorMask", "I", false)
  | _ => ("ThinReadings$Thinning", "leastMask", "I", false)
def tyX9 : Nat → FieldType := fun k => match k with
  | 0 => .object "ThinReadings$Log"
  | 1 => .object "ThinReadings$Lines"
  | 2 => .array .int
  | 3 => .array .int
  | 4 => .array .int
  | 5 => .array .int
  | 6 => .boolean
  | 7 => .int
  | 8 => .int
  | _ => .int
abbrev wsX90 : List Cond := u_ws RX9 TX9 10
theorem nmX9 : ∀ a, a < 10 → ∀ b, b < 10 → a ≠ b → (TX9 a).2.1 ≠ (TX9 b).2.1 := by decide +kernel
theorem tyX9_ok : ∀ k, k < 10 → parseFieldDescriptor (TX9 k).2.2.1 = some (tyX9 k) := by decide +kernel
abbrev cX9_init : ByteArray := prog_11_method_1_code
def yX9_init : MethodName := ⟨RX9, "<init>", "(LThinReadings$Log;LThinReadings$Lines;)V"⟩
abbrev cX9_outdate : ByteArray := prog_11_method_2_code
def yX9_outdate : MethodName := ⟨RX9, "outdate", "()V"⟩
abbrev cX9_refresh : ByteArray := prog_11_method_3_code
def yX9_refresh : MethodName := ⟨RX9, "refresh", "()V"⟩
abbrev cX9_pieceAt : ByteArray := prog_11_method_4_code
def yX9_pieceAt : MethodName := ⟨RX9, "pieceAt", "(I)I"⟩
abbrev cX9_sentAt : ByteArray := prog_11_method_5_code
def yX9_sentAt : MethodName := ⟨RX9, "sentAt", "(I)I"⟩
abbrev cX9_cutPieces : ByteArray := prog_11_method_6_code
def yX9_cutPieces : MethodName := ⟨RX9, "cutPieces", "()V"⟩
abbrev cX9_fitsStrip : ByteArray := prog_11_method_7_code
def yX9_fitsStrip : MethodName := ⟨RX9, "fitsStrip", "(II)Z"⟩
abbrev cX9_swingDoor : ByteArray := prog_11_method_8_code
def yX9_swingDoor : MethodName := ⟨RX9, "swingDoor", "(I)I"⟩
abbrev cX9_sendKept : ByteArray := prog_11_method_9_code
def yX9_sendKept : MethodName := ⟨RX9, "sendKept", "()V"⟩
abbrev cX9_longestWait : ByteArray := prog_11_method_10_code
def yX9_longestWait : MethodName := ⟨RX9, "longestWait", "()I"⟩
abbrev cX9_chooseLeast : ByteArray := prog_11_method_11_code
def yX9_chooseLeast : MethodName := ⟨RX9, "chooseLeast", "()I"⟩
abbrev cX9_chooseNext : ByteArray := prog_11_method_12_code
def yX9_chooseNext : MethodName := ⟨RX9, "chooseNext", "(I)V"⟩
def RX10 : String := "ThinReadings"
def TX10 : u_T := fun k => match k with
  | 0 => ("ThinReadings", "text", "LThinReadings$Text;", true)
  | 1 => ("ThinReadings", "parser", "LThinReadings$Parser;", true)
  | 2 => ("ThinReadings", "log", "LThinReadings$Log;", true)
  | 3 => ("ThinReadings", "history", "LThinReadings$History;", true)
  | 4 => ("ThinReadings", "images", "LThinReadings$Shelf;", true)
  | 5 => ("ThinReadings", "lines", "LThinReadings$Lines;", true)
  | 6 => ("ThinReadings", "thinning", "LThinReadings$Thinning;", true)
  | 7 => ("ThinReadings", "seen", "LThinReadings$Seen;", true)
  | 8 => ("ThinReadings", "survey", "LThinReadings$Survey;", true)
  | _ => ("ThinReadings", "fraction", "LThinReadings$Fraction;", true)
def tyX10 : Nat → FieldType := fun k => match k with
  | 0 => .object "ThinReadings$Text"
  | 1 => .object "ThinReadings$Parser"
  | 2 => .object "ThinReadings$Log"
  | 3 => .object "ThinReadings$History"
  | 4 => .object "ThinReadings$Shelf"
  | 5 => .object "ThinReadings$Lines"
  | 6 => .object "ThinReadings$Thinning"
  | 7 => .object "ThinReadings$Seen"
  | 8 => .object "ThinReadings$Survey"
  | _ => .object "ThinReadings$Fraction"
abbrev wsX100 : List Cond := u_ws RX10 TX10 10
theorem nmX10 : ∀ a, a < 10 → ∀ b, b < 10 → a ≠ b → (TX10 a).2.1 ≠ (TX10 b).2.1 := by decide +kernel
theorem tyX10_ok : ∀ k, k < 10 → parseFieldDescriptor (TX10 k).2.2.1 = some (tyX10 k) := by decide +kernel
abbrev cX10_init : ByteArray := prog_1_method_1_code
def yX10_init : MethodName := ⟨RX10, "<init>", "()V"⟩
abbrev cX10_type : ByteArray := prog_1_method_2_code
def yX10_type : MethodName := ⟨RX10, "type", "(I)I"⟩
abbrev cX10_clear : ByteArray := prog_1_method_3_code
def yX10_clear : MethodName := ⟨RX10, "clear", "()I"⟩
abbrev cX10_readings : ByteArray := prog_1_method_4_code
def yX10_readings : MethodName := ⟨RX10, "readings", "()I"⟩
abbrev cX10_adds : ByteArray := prog_1_method_5_code
def yX10_adds : MethodName := ⟨RX10, "adds", "(II)I"⟩
abbrev cX10_misses : ByteArray := prog_1_method_6_code
def yX10_misses : MethodName := ⟨RX10, "misses", "(I)I"⟩
abbrev cX10_strikes : ByteArray := prog_1_method_7_code
def yX10_strikes : MethodName := ⟨RX10, "strikes", "(I)I"⟩
abbrev cX10_promises : ByteArray := prog_1_method_8_code
def yX10_promises : MethodName := ⟨RX10, "promises", "(I)I"⟩
abbrev cX10_delays : ByteArray := prog_1_method_9_code
def yX10_delays : MethodName := ⟨RX10, "delays", "(I)I"⟩
abbrev cX10_undo : ByteArray := prog_1_method_10_code
def yX10_undo : MethodName := ⟨RX10, "undo", "()I"⟩
abbrev cX10_reading : ByteArray := prog_1_method_11_code
def yX10_reading : MethodName := ⟨RX10, "reading", "(II)I"⟩
abbrev cX10_apart : ByteArray := prog_1_method_12_code
def yX10_apart : MethodName := ⟨RX10, "apart", "(III)I"⟩
abbrev cX10_why : ByteArray := prog_1_method_13_code
def yX10_why : MethodName := ⟨RX10, "why", "(II)I"⟩
abbrev cX10_strip : ByteArray := prog_1_method_14_code
def yX10_strip : MethodName := ⟨RX10, "strip", "(III)I"⟩
abbrev cX10_told : ByteArray := prog_1_method_15_code
def yX10_told : MethodName := ⟨RX10, "told", "(III)I"⟩
abbrev cX10_sees : ByteArray := prog_1_method_16_code
def yX10_sees : MethodName := ⟨RX10, "sees", "(II)I"⟩
abbrev cX10_forget : ByteArray := prog_1_method_17_code
def yX10_forget : MethodName := ⟨RX10, "forget", "()I"⟩
abbrev cX10_unseen : ByteArray := prog_1_method_18_code
def yX10_unseen : MethodName := ⟨RX10, "unseen", "(I)I"⟩
abbrev cX10_ask : ByteArray := prog_1_method_19_code
def yX10_ask : MethodName := ⟨RX10, "ask", "()I"⟩
abbrev cX10_keep : ByteArray := prog_1_method_20_code
def yX10_keep : MethodName := ⟨RX10, "keep", "(I)I"⟩
abbrev cX10_back : ByteArray := prog_1_method_21_code
def yX10_back : MethodName := ⟨RX10, "back", "(I)I"⟩
abbrev cX10_count : ByteArray := prog_1_method_22_code
def yX10_count : MethodName := ⟨RX10, "count", "(I)I"⟩
abbrev cX10_appendReading : ByteArray := prog_1_method_23_code
def yX10_appendReading : MethodName := ⟨RX10, "appendReading", "(II)I"⟩
abbrev cX10_rememberForUndo : ByteArray := prog_1_method_24_code
def yX10_rememberForUndo : MethodName := ⟨RX10, "rememberForUndo", "()V"⟩
abbrev cX10_outdateAll : ByteArray := prog_1_method_25_code
def yX10_outdateAll : MethodName := ⟨RX10, "outdateAll", "()V"⟩
abbrev cX10_isLine : ByteArray := prog_1_method_26_code
def yX10_isLine : MethodName := ⟨RX10, "isLine", "(II)Z"⟩
abbrev cX10_isWithin : ByteArray := prog_1_method_27_code
def yX10_isWithin : MethodName := ⟨RX10, "isWithin", "(III)Z"⟩
abbrev cX10_bitAt : ByteArray := prog_1_method_28_code
def yX10_bitAt : MethodName := ⟨RX10, "bitAt", "(II)I"⟩
def RX11 : String := "ThinReadingsModel"
def TX11 : u_T := fun k => match k with
  | 0 => ("ThinReadingsModel", "now", "[I", true)
  | 1 => ("ThinReadingsModel", "undoMany", "I", false)
  | 2 => ("ThinReadingsModel", "undoAt", "I", false)
  | 3 => ("ThinReadingsModel", "undos", "[I", true)
  | 4 => ("ThinReadingsModel", "seenMany", "I", false)
  | 5 => ("ThinReadingsModel", "seen", "[I", true)
  | 6 => ("ThinReadingsModel", "seenAs", "[I", true)
  | 7 => ("ThinReadingsModel", "isKept", "[Z", true)
  | 8 => ("ThinReadingsModel", "kept", "[I", true)
  | 9 => ("ThinReadingsModel", "letterMany", "I", false)
  | 10 => ("ThinReadingsModel", "text", "[I", true)
  | 11 => ("ThinReadingsModel", "readAt", "I", false)
  | 12 => ("ThinReadingsModel", "tokenAt", "I", false)
  | 13 => ("ThinReadingsModel", "token", "I", false)
  | 14 => ("ThinReadingsModel", "value", "I", false)
  | 15 => ("ThinReadingsModel", "faultAt", "I", false)
  | 16 => ("ThinReadingsModel", "readOnce", "I", false)
  | 17 => ("ThinReadingsModel", "read", "[I", true)
  | 18 => ("ThinReadingsModel", "greatUpper", "J", false)
  | 19 => ("ThinReadingsModel", "greatLower", "J", false)
  | 20 => ("ThinReadingsModel", "fewest", "[I", true)
  | 21 => ("ThinReadingsModel", "doors", "[I", true)
  | _ => ("ThinReadingsModel", "isSo", "[Z", true)
def tyX11 : Nat → FieldType := fun k => match k with
  | 0 => .array .int
  | 1 => .int
  | 2 => .int
  | 3 => .array .int
  | 4 => .int
  | 5 => .array .int
  | 6 => .array .int
  | 7 => .array .boolean
  | 8 => .array .int
  | 9 => .int
  | 10 => .array .int
  | 11 => .int
  | 12 => .int
  | 13 => .int
  | 14 => .int
  | 15 => .int
  | 16 => .int
  | 17 => .array .int
  | 18 => .long
  | 19 => .long
  | 20 => .array .int
  | 21 => .array .int
  | _ => .array .boolean
abbrev wsX110 : List Cond := u_ws RX11 TX11 23
theorem nmX11 : ∀ a, a < 23 → ∀ b, b < 23 → a ≠ b → (TX11 a).2.1 ≠ (TX11 b).2.1 := by decide +kernel
theorem tyX11_ok : ∀ k, k < 23 → parseFieldDescriptor (TX11 k).2.2.1 = some (tyX11 k) := by decide +kernel
abbrev cX11_init : ByteArray := prog_13_method_1_code
def yX11_init : MethodName := ⟨RX11, "<init>", "()V"⟩
abbrev cX11_in : ByteArray := prog_13_method_2_code
def yX11_in : MethodName := ⟨RX11, "in", "(III)Z"⟩
abbrev cX11_has : ByteArray := prog_13_method_3_code
def yX11_has : MethodName := ⟨RX11, "has", "(II)Z"⟩
abbrev cX11_bits : ByteArray := prog_13_method_4_code
def yX11_bits : MethodName := ⟨RX11, "bits", "(I)I"⟩
abbrev cX11_begins : ByteArray := prog_13_method_5_code
def yX11_begins : MethodName := ⟨RX11, "begins", "([I)V"⟩
abbrev cX11_type : ByteArray := prog_13_method_6_code
def yX11_type : MethodName := ⟨RX11, "type", "(I)I"⟩
abbrev cX11_clear : ByteArray := prog_13_method_7_code
def yX11_clear : MethodName := ⟨RX11, "clear", "()I"⟩
abbrev cX11_isFigure : ByteArray := prog_13_method_8_code
def yX11_isFigure : MethodName := ⟨RX11, "isFigure", "()Z"⟩
abbrev cX11_blanks : ByteArray := prog_13_method_9_code
def yX11_blanks : MethodName := ⟨RX11, "blanks", "()V"⟩
abbrev cX11_next : ByteArray := prog_13_method_10_code
def yX11_next : MethodName := ⟨RX11, "next", "()V"⟩
abbrev cX11_fails : ByteArray := prog_13_method_11_code
def yX11_fails : MethodName := ⟨RX11, "fails", "()Z"⟩
abbrev cX11_number : ByteArray := prog_13_method_12_code
def yX11_number : MethodName := ⟨RX11, "number", "(II)Z"⟩
abbrev cX11_ends : ByteArray := prog_13_method_13_code
def yX11_ends : MethodName := ⟨RX11, "ends", "()Z"⟩
abbrev cX11_readsOnce : ByteArray := prog_13_method_14_code
def yX11_readsOnce : MethodName := ⟨RX11, "readsOnce", "(III)Z"⟩
abbrev cX11_readsOne : ByteArray := prog_13_method_15_code
def yX11_readsOne : MethodName := ⟨RX11, "readsOne", "(Z)Z"⟩
abbrev cX11_readsItem : ByteArray := prog_13_method_16_code
def yX11_readsItem : MethodName := ⟨RX11, "readsItem", "()Z"⟩
abbrev cX11_readings : ByteArray := prog_13_method_17_code
def yX11_readings : MethodName := ⟨RX11, "readings", "()I"⟩
abbrev cX11_isReading : ByteArray := prog_13_method_18_code
def yX11_isReading : MethodName := ⟨RX11, "isReading", "(I)Z"⟩
abbrev cX11_isKnown : ByteArray := prog_13_method_19_code
def yX11_isKnown : MethodName := ⟨RX11, "isKnown", "(I)Z"⟩
abbrev cX11_remember : ByteArray := prog_13_method_20_code
def yX11_remember : MethodName := ⟨RX11, "remember", "()V"⟩
abbrev cX11_comes : ByteArray := prog_13_method_21_code
def yX11_comes : MethodName := ⟨RX11, "comes", "(II)I"⟩
abbrev cX11_adds : ByteArray := prog_13_method_22_code
def yX11_adds : MethodName := ⟨RX11, "adds", "(II)I"⟩
abbrev cX11_misses : ByteArray := prog_13_method_23_code
def yX11_misses : MethodName := ⟨RX11, "misses", "(I)I"⟩
abbrev cX11_strikes : ByteArray := prog_13_method_24_code
def yX11_strikes : MethodName := ⟨RX11, "strikes", "(I)I"⟩
abbrev cX11_becomes : ByteArray := prog_13_method_25_code
def yX11_becomes : MethodName := ⟨RX11, "becomes", "(II)I"⟩
abbrev cX11_promises : ByteArray := prog_13_method_26_code
def yX11_promises : MethodName := ⟨RX11, "promises", "(I)I"⟩
abbrev cX11_delays : ByteArray := prog_13_method_27_code
def yX11_delays : MethodName := ⟨RX11, "delays", "(I)I"⟩
abbrev cX11_undo : ByteArray := prog_13_method_28_code
def yX11_undo : MethodName := ⟨RX11, "undo", "()I"⟩
abbrev cX11_isFirst : ByteArray := prog_13_method_29_code
def yX11_isFirst : MethodName := ⟨RX11, "isFirst", "(I)Z"⟩
abbrev cX11_isLast : ByteArray := prog_13_method_30_code
def yX11_isLast : MethodName := ⟨RX11, "isLast", "(I)Z"⟩
abbrev cX11_stretchOf : ByteArray := prog_13_method_31_code
def yX11_stretchOf : MethodName := ⟨RX11, "stretchOf", "(I)I"⟩
abbrev cX11_apartBy : ByteArray := prog_13_method_32_code
def yX11_apartBy : MethodName := ⟨RX11, "apartBy", "(III)I"⟩
abbrev cX11_whyNot : ByteArray := prog_13_method_33_code
def yX11_whyNot : MethodName := ⟨RX11, "whyNot", "(III)I"⟩
abbrev cX11_doorFrom : ByteArray := prog_13_method_34_code
def yX11_doorFrom : MethodName := ⟨RX11, "doorFrom", "(II)I"⟩
abbrev cX11_door : ByteArray := prog_13_method_35_code
def yX11_door : MethodName := ⟨RX11, "door", "(I)I"⟩
abbrev cX11_keptAhead : ByteArray := prog_13_method_36_code
def yX11_keptAhead : MethodName := ⟨RX11, "keptAhead", "(II)I"⟩
abbrev cX11_sentAt : ByteArray := prog_13_method_37_code
def yX11_sentAt : MethodName := ⟨RX11, "sentAt", "(II)I"⟩
abbrev cX11_greater : ByteArray := prog_13_method_38_code
def yX11_greater : MethodName := ⟨RX11, "greater", "(JJ)V"⟩
abbrev cX11_layStrip : ByteArray := prog_13_method_39_code
def yX11_layStrip : MethodName := ⟨RX11, "layStrip", "(II)V"⟩
abbrev cX11_isStrip : ByteArray := prog_13_method_40_code
def yX11_isStrip : MethodName := ⟨RX11, "isStrip", "(II)Z"⟩
abbrev cX11_pieces : ByteArray := prog_13_method_41_code
def yX11_pieces : MethodName := ⟨RX11, "pieces", "()I"⟩
abbrev cX11_least : ByteArray := prog_13_method_42_code
def yX11_least : MethodName := ⟨RX11, "least", "()I"⟩
abbrev cX11_reading : ByteArray := prog_13_method_43_code
def yX11_reading : MethodName := ⟨RX11, "reading", "(II)I"⟩
abbrev cX11_isSide : ByteArray := prog_13_method_44_code
def yX11_isSide : MethodName := ⟨RX11, "isSide", "(II)Z"⟩
abbrev cX11_lowest : ByteArray := prog_13_method_45_code
def yX11_lowest : MethodName := ⟨RX11, "lowest", "(JJZ)I"⟩
abbrev cX11_apart : ByteArray := prog_13_method_46_code
def yX11_apart : MethodName := ⟨RX11, "apart", "(III)I"⟩
abbrev cX11_why : ByteArray := prog_13_method_47_code
def yX11_why : MethodName := ⟨RX11, "why", "(II)I"⟩
abbrev cX11_strip : ByteArray := prog_13_method_48_code
def yX11_strip : MethodName := ⟨RX11, "strip", "(III)I"⟩
abbrev cX11_told : ByteArray := prog_13_method_49_code
def yX11_told : MethodName := ⟨RX11, "told", "(III)I"⟩
abbrev cX11_layUnseen : ByteArray := prog_13_method_50_code
def yX11_layUnseen : MethodName := ⟨RX11, "layUnseen", "()I"⟩
abbrev cX11_sees : ByteArray := prog_13_method_51_code
def yX11_sees : MethodName := ⟨RX11, "sees", "(II)I"⟩
abbrev cX11_forget : ByteArray := prog_13_method_52_code
def yX11_forget : MethodName := ⟨RX11, "forget", "()I"⟩
abbrev cX11_unseen : ByteArray := prog_13_method_53_code
def yX11_unseen : MethodName := ⟨RX11, "unseen", "(I)I"⟩
abbrev cX11_ask : ByteArray := prog_13_method_54_code
def yX11_ask : MethodName := ⟨RX11, "ask", "()I"⟩
abbrev cX11_keep : ByteArray := prog_13_method_55_code
def yX11_keep : MethodName := ⟨RX11, "keep", "(I)I"⟩
abbrev cX11_back : ByteArray := prog_13_method_56_code
def yX11_back : MethodName := ⟨RX11, "back", "(I)I"⟩
abbrev cX11_stretches : ByteArray := prog_13_method_57_code
def yX11_stretches : MethodName := ⟨RX11, "stretches", "()I"⟩
abbrev cX11_late : ByteArray := prog_13_method_58_code
def yX11_late : MethodName := ⟨RX11, "late", "()I"⟩
abbrev cX11_count : ByteArray := prog_13_method_59_code
def yX11_count : MethodName := ⟨RX11, "count", "(I)I"⟩
def RJ6 : String := "java/lang/Integer"
def TJ6 : u_T := fun k => match k with
  | _ => ("", "", "", false)
def tyJ6 : Nat → FieldType := fun k => match k with
  | _ => .int
abbrev wsJ60 : List Cond := u_ws RJ6 TJ6 0
theorem nmJ6 : ∀ a, a < 0 → ∀ b, b < 0 → a ≠ b → (TJ6 a).2.1 ≠ (TJ6 b).2.1 := by decide +kernel
theorem tyJ6_ok : ∀ k, k < 0 → parseFieldDescriptor (TJ6 k).2.2.1 = some (tyJ6 k) := by decide +kernel
abbrev cJ6_bitCount_0f7a4 : ByteArray := prog_14_method_49_code
def yJ6_bitCount_0f7a4 : MethodName := ⟨RJ6, "bitCount", "(I)I"⟩
def RJ9 : String := "java/lang/Math"
def TJ9 : u_T := fun k => match k with
  | _ => ("", "", "", false)
def tyJ9 : Nat → FieldType := fun k => match k with
  | _ => .int
abbrev wsJ90 : List Cond := u_ws RJ9 TJ9 0
theorem nmJ9 : ∀ a, a < 0 → ∀ b, b < 0 → a ≠ b → (TJ9 a).2.1 ≠ (TJ9 b).2.1 := by decide +kernel
theorem tyJ9_ok : ∀ k, k < 0 → parseFieldDescriptor (TJ9 k).2.2.1 = some (tyJ9 k) := by decide +kernel
abbrev cJ9_abs_0f7a4 : ByteArray := prog_15_method_59_code
def yJ9_abs_0f7a4 : MethodName := ⟨RJ9, "abs", "(I)I"⟩
abbrev cJ9_max_7cf53 : ByteArray := prog_15_method_65_code
def yJ9_max_7cf53 : MethodName := ⟨RJ9, "max", "(II)I"⟩
abbrev cJ9_min_7cf53 : ByteArray := prog_15_method_69_code
def yJ9_min_7cf53 : MethodName := ⟨RJ9, "min", "(II)I"⟩
def RL : String := "ThinReadingsLaw"
abbrev cL_law : ByteArray := code
def yL_law : MethodName := ⟨RL, "law", "([I)Z"⟩
def wsL_law_r1 : List Cond := [Cond.classLink RL 7 RX10, Cond.instantiable RX10 10, Cond.initialized RX10, Cond.classLink RL 10 RX11, Cond.instantiable RX11 23, Cond.initialized RX11, Cond.methodLink RL 9 yX10_init, Cond.instanceMethod yX10_init, Cond.code yX10_init cX10_init 1 none, Cond.methodLink RX10 3 objectInit, Cond.instanceMethod objectInit, Cond.code objectInit ⟨#[0xb1]⟩ 1 none, Cond.classLink RX10 9 RX8, Cond.instantiable RX8 2, Cond.initialized RX8, Cond.fieldLink RX10 12 "ThinReadings" "text" "LThinReadings$Text;", Cond.classLink RX10 16 RX4, Cond.instantiable RX4 8, Cond.initialized RX4, Cond.fieldLink RX10 21 "ThinReadings" "parser" "LThinReadings$Parser;", Cond.classLink RX10 25 RX3, Cond.instantiable RX3 5, Cond.initialized RX3, Cond.fieldLink RX10 28 "ThinReadings" "log" "LThinReadings$Log;"]
def wsL_law_r2 : List Cond := [Cond.classLink RX10 32 RX1, Cond.instantiable RX1 3, Cond.initialized RX1, Cond.fieldLink RX10 35 "ThinReadings" "history" "LThinReadings$History;", Cond.classLink RX10 39 RX6, Cond.instantiable RX6 3, Cond.initialized RX6, Cond.fieldLink RX10 44 "ThinReadings" "images" "LThinReadings$Shelf;", Cond.classLink RX10 48 RX2, Cond.instantiable RX2 4, Cond.initialized RX2, Cond.fieldLink RX10 53 "ThinReadings" "lines" "LThinReadings$Lines;", Cond.classLink RX10 57 RX9, Cond.instantiable RX9 10, Cond.initialized RX9, Cond.fieldLink RX10 62 "ThinReadings" "thinning" "LThinReadings$Thinning;", Cond.classLink RX10 66 RX5, Cond.instantiable RX5 3, Cond.initialized RX5, Cond.fieldLink RX10 69 "ThinReadings" "seen" "LThinReadings$Seen;", Cond.classLink RX10 73 RX7, Cond.instantiable RX7 8, Cond.initialized RX7, Cond.fieldLink RX10 78 "ThinReadings" "survey" "LThinReadings$Survey;"]
def wsL_law_r3 : List Cond := [Cond.classLink RX10 82 RX0, Cond.instantiable RX0 2, Cond.initialized RX0, Cond.fieldLink RX10 85 "ThinReadings" "fraction" "LThinReadings$Fraction;", Cond.methodLink RX10 11 yX8_init, Cond.instanceMethod yX8_init, Cond.code yX8_init cX8_init 1 none, Cond.methodLink RX8 3 objectInit, Cond.arrayClass .char, Cond.fieldLink RX8 9 "ThinReadings$Text" "letters" "[C", Cond.fieldLink RX8 15 "ThinReadings$Text" "length" "I", Cond.methodLink RX10 18 yX4_init, Cond.instanceMethod yX4_init, Cond.code yX4_init cX4_init 2 none, Cond.methodLink RX4 3 objectInit, Cond.fieldLink RX4 9 "ThinReadings$Parser" "text" "LThinReadings$Text;", Cond.classLink RX4 15 RX3, Cond.fieldLink RX4 18 "ThinReadings$Parser" "draft" "LThinReadings$Log;", Cond.methodLink RX4 17 yX3_init, Cond.instanceMethod yX3_init, Cond.code yX3_init cX3_init 1 none, Cond.methodLink RX3 3 objectInit, Cond.arrayClass .int, Cond.fieldLink RX3 9 "ThinReadings$Log" "times" "[I"]
def wsL_law_r4 : List Cond := [Cond.fieldLink RX3 15 "ThinReadings$Log" "values" "[I", Cond.fieldLink RX3 18 "ThinReadings$Log" "size" "I", Cond.fieldLink RX3 22 "ThinReadings$Log" "promise" "I", Cond.fieldLink RX3 25 "ThinReadings$Log" "delay" "I", Cond.methodLink RX10 27 yX3_init, Cond.methodLink RX10 34 yX1_init, Cond.instanceMethod yX1_init, Cond.code yX1_init cX1_init 1 none, Cond.methodLink RX1 3 objectInit, Cond.classLink RX1 9 RX6, Cond.fieldLink RX1 14 "ThinReadings$History" "ring" "LThinReadings$Shelf;", Cond.fieldLink RX1 20 "ThinReadings$History" "next" "I", Cond.fieldLink RX1 24 "ThinReadings$History" "size" "I", Cond.methodLink RX1 11 yX6_init, Cond.instanceMethod yX6_init, Cond.code yX6_init cX6_init 2 none, Cond.methodLink RX6 5 objectInit, Cond.fieldLink RX6 11 "ThinReadings$Shelf" "places" "I", Cond.fieldLink RX6 15 "ThinReadings$Shelf" "cells" "[I", Cond.fieldLink RX6 19 "ThinReadings$Shelf" "filled" "I", Cond.methodLink RX10 41 yX6_init, Cond.methodLink RX10 50 yX2_init, Cond.instanceMethod yX2_init, Cond.code yX2_init cX2_init 2 none]
def wsL_law_r5 : List Cond := [Cond.methodLink RX2 3 objectInit, Cond.fieldLink RX2 9 "ThinReadings$Lines" "log" "LThinReadings$Log;", Cond.fieldLink RX2 15 "ThinReadings$Lines" "stretch" "[I", Cond.fieldLink RX2 19 "ThinReadings$Lines" "needs" "[I", Cond.fieldLink RX2 22 "ThinReadings$Lines" "stretches" "I", Cond.methodLink RX10 59 yX9_init, Cond.instanceMethod yX9_init, Cond.code yX9_init cX9_init 3 none, Cond.methodLink RX9 3 objectInit, Cond.fieldLink RX9 9 "ThinReadings$Thinning" "log" "LThinReadings$Log;", Cond.fieldLink RX9 15 "ThinReadings$Thinning" "lines" "LThinReadings$Lines;", Cond.fieldLink RX9 19 "ThinReadings$Thinning" "piece" "[I", Cond.fieldLink RX9 23 "ThinReadings$Thinning" "sent" "[I", Cond.fieldLink RX9 26 "ThinReadings$Thinning" "steps" "[I", Cond.fieldLink RX9 29 "ThinReadings$Thinning" "next" "[I", Cond.fieldLink RX9 32 "ThinReadings$Thinning" "isOutdated" "Z", Cond.fieldLink RX9 36 "ThinReadings$Thinning" "pieces" "I", Cond.fieldLink RX9 40 "ThinReadings$Thinning" "doorMask" "I", Cond.fieldLink RX9 43 "ThinReadings$Thinning" "leastMask" "I", Cond.methodLink RX10 68 yX5_init, Cond.instanceMethod yX5_init, Cond.code yX5_init cX5_init 1 none, Cond.methodLink RX5 3 objectInit, Cond.fieldLink RX5 9 "ThinReadings$Seen" "size" "I"]
def wsL_law_r6 : List Cond := [Cond.fieldLink RX5 15 "ThinReadings$Seen" "keptMask" "I", Cond.fieldLink RX5 18 "ThinReadings$Seen" "droppedMask" "I", Cond.methodLink RX10 75 yX7_init, Cond.instanceMethod yX7_init, Cond.code yX7_init cX7_init 4 none, Cond.methodLink RX7 3 objectInit, Cond.fieldLink RX7 9 "ThinReadings$Survey" "log" "LThinReadings$Log;", Cond.fieldLink RX7 15 "ThinReadings$Survey" "thinning" "LThinReadings$Thinning;", Cond.fieldLink RX7 19 "ThinReadings$Survey" "seen" "LThinReadings$Seen;", Cond.fieldLink RX7 23 "ThinReadings$Survey" "doorMasks" "[I", Cond.fieldLink RX7 27 "ThinReadings$Survey" "isOutdated" "Z", Cond.fieldLink RX7 31 "ThinReadings$Survey" "possible" "I", Cond.fieldLink RX7 35 "ThinReadings$Survey" "least" "I", Cond.fieldLink RX7 38 "ThinReadings$Survey" "greatest" "I", Cond.methodLink RX10 84 yX0_init, Cond.instanceMethod yX0_init, Cond.code yX0_init cX0_init 1 none, Cond.methodLink RX0 1 objectInit, Cond.fieldLink RX0 7 "ThinReadings$Fraction" "upper" "I", Cond.fieldLink RX0 13 "ThinReadings$Fraction" "lower" "I", Cond.methodLink RL 12 yX11_init, Cond.instanceMethod yX11_init, Cond.code yX11_init cX11_init 1 none, Cond.methodLink RX11 1 objectInit]
def wsL_law_r7 : List Cond := [Cond.fieldLink RX11 7 "ThinReadingsModel" "now" "[I", Cond.fieldLink RX11 13 "ThinReadingsModel" "undos" "[I", Cond.fieldLink RX11 16 "ThinReadingsModel" "seen" "[I", Cond.fieldLink RX11 19 "ThinReadingsModel" "seenAs" "[I", Cond.arrayClass .boolean, Cond.fieldLink RX11 22 "ThinReadingsModel" "isKept" "[Z", Cond.fieldLink RX11 26 "ThinReadingsModel" "kept" "[I", Cond.fieldLink RX11 29 "ThinReadingsModel" "text" "[I", Cond.fieldLink RX11 32 "ThinReadingsModel" "read" "[I", Cond.fieldLink RX11 35 "ThinReadingsModel" "fewest" "[I", Cond.fieldLink RX11 38 "ThinReadingsModel" "doors" "[I", Cond.fieldLink RX11 41 "ThinReadingsModel" "isSo" "[Z", Cond.methodLink RX11 44 yX11_begins, Cond.static yX11_begins, Cond.code yX11_begins cX11_begins 2 none, Cond.methodLink RL 13 yX10_type, Cond.instanceMethod yX10_type, Cond.selects RX10 yX10_type yX10_type, Cond.code yX10_type cX10_type 2 (some .int), Cond.methodLink RX10 89 yX10_isWithin, Cond.static yX10_isWithin, Cond.code yX10_isWithin cX10_isWithin 3 (some .boolean), Cond.methodLink RX10 93 yX8_isFull, Cond.instanceMethod yX8_isFull]
def wsL_law_r8 : List Cond := [Cond.selects RX8 yX8_isFull yX8_isFull, Cond.code yX8_isFull cX8_isFull 1 (some .boolean), Cond.methodLink RX10 97 yX8_put, Cond.instanceMethod yX8_put, Cond.selects RX8 yX8_put yX8_put, Cond.code yX8_put cX8_put 2 (some .int), Cond.methodLink RX8 19 yX8_isFull, Cond.methodLink RL 17 yX11_type, Cond.instanceMethod yX11_type, Cond.selects RX11 yX11_type yX11_type, Cond.code yX11_type cX11_type 2 (some .int), Cond.fieldLink RX11 52 "ThinReadingsModel" "letterMany" "I", Cond.methodLink RX11 48 yX11_in, Cond.static yX11_in, Cond.code yX11_in cX11_in 3 (some .boolean), Cond.methodLink RL 18 yX10_clear, Cond.instanceMethod yX10_clear, Cond.selects RX10 yX10_clear yX10_clear, Cond.code yX10_clear cX10_clear 1 (some .int), Cond.methodLink RX10 101 yX8_wipe, Cond.instanceMethod yX8_wipe, Cond.selects RX8 yX8_wipe yX8_wipe, Cond.code yX8_wipe cX8_wipe 2 (some .int), Cond.methodLink RL 22 yX11_clear]
def wsL_law_r9 : List Cond := [Cond.instanceMethod yX11_clear, Cond.selects RX11 yX11_clear yX11_clear, Cond.code yX11_clear cX11_clear 2 (some .int), Cond.methodLink RL 23 yX10_readings, Cond.instanceMethod yX10_readings, Cond.selects RX10 yX10_readings yX10_readings, Cond.code yX10_readings cX10_readings 2 (some .int), Cond.methodLink RX10 105 yX4_parse, Cond.instanceMethod yX4_parse, Cond.selects RX4 yX4_parse yX4_parse, Cond.code yX4_parse cX4_parse 3 (some .int), Cond.fieldLink RX4 25 "ThinReadings$Parser" "at" "I", Cond.fieldLink RX4 29 "ThinReadings$Parser" "isPromiseTold" "Z", Cond.fieldLink RX4 33 "ThinReadings$Parser" "isDelayTold" "Z", Cond.fieldLink RX4 39 "ThinReadings$Parser" "kind" "I", Cond.fieldLink RX4 53 "ThinReadings$Parser" "place" "I", Cond.methodLink RX4 22 yX3_startAnew, Cond.instanceMethod yX3_startAnew, Cond.selects RX3 yX3_startAnew yX3_startAnew, Cond.code yX3_startAnew cX3_startAnew 1 none, Cond.methodLink RX4 36 yX4_readToken, Cond.instanceMethod yX4_readToken, Cond.selects RX4 yX4_readToken yX4_readToken, Cond.code yX4_readToken cX4_readToken 1 none]
def wsL_law_r10 : List Cond := [Cond.methodLink RX4 87 yX8_isBlank, Cond.instanceMethod yX8_isBlank, Cond.selects RX8 yX8_isBlank yX8_isBlank, Cond.code yX8_isBlank cX8_isBlank 2 (some .boolean), Cond.methodLink RX4 95 yX8_isDigit, Cond.instanceMethod yX8_isDigit, Cond.selects RX8 yX8_isDigit yX8_isDigit, Cond.code yX8_isDigit cX8_isDigit 2 (some .boolean), Cond.methodLink RX4 98 yX4_readDigits, Cond.instanceMethod yX4_readDigits, Cond.selects RX4 yX4_readDigits yX4_readDigits, Cond.code yX4_readDigits cX4_readDigits 2 none, Cond.fieldLink RX4 60 "ThinReadings$Parser" "number" "I", Cond.methodLink RX4 101 yX8_letterAt, Cond.instanceMethod yX8_letterAt, Cond.selects RX8 yX8_letterAt yX8_letterAt, Cond.code yX8_letterAt cX8_letterAt 2 (some .char), Cond.methodLink RX4 105 yX4_kindOf, Cond.static yX4_kindOf, Cond.code yX4_kindOf cX4_kindOf 1 (some .int), Cond.methodLink RX4 42 yX4_isPromiseItem, Cond.instanceMethod yX4_isPromiseItem, Cond.selects RX4 yX4_isPromiseItem yX4_isPromiseItem, Cond.code yX4_isPromiseItem cX4_isPromiseItem 1 (some .boolean)]
def wsL_law_r11 : List Cond := [Cond.methodLink RX4 56 yX4_isNumber, Cond.instanceMethod yX4_isNumber, Cond.selects RX4 yX4_isNumber yX4_isNumber, Cond.code yX4_isNumber cX4_isNumber 3 (some .boolean), Cond.methodLink RX4 66 yX4_isEnded, Cond.instanceMethod yX4_isEnded, Cond.selects RX4 yX4_isEnded yX4_isEnded, Cond.code yX4_isEnded cX4_isEnded 1 (some .boolean), Cond.methodLink RX4 46 yX4_isDelayItem, Cond.instanceMethod yX4_isDelayItem, Cond.selects RX4 yX4_isDelayItem yX4_isDelayItem, Cond.code yX4_isDelayItem cX4_isDelayItem 1 (some .boolean), Cond.methodLink RX4 49 yX4_isReadingItem, Cond.instanceMethod yX4_isReadingItem, Cond.selects RX4 yX4_isReadingItem yX4_isReadingItem, Cond.code yX4_isReadingItem cX4_isReadingItem 3 (some .boolean), Cond.methodLink RX4 72 yX3_isFull, Cond.instanceMethod yX3_isFull, Cond.selects RX3 yX3_isFull yX3_isFull, Cond.code yX3_isFull cX3_isFull 1 (some .boolean), Cond.methodLink RX4 75 yX3_isLater, Cond.instanceMethod yX3_isLater, Cond.selects RX3 yX3_isLater yX3_isLater, Cond.code yX3_isLater cX3_isLater 2 (some .boolean)]
def wsL_law_r12 : List Cond := [Cond.methodLink RX3 35 yX3_timeAt, Cond.instanceMethod yX3_timeAt, Cond.selects RX3 yX3_timeAt yX3_timeAt, Cond.code yX3_timeAt cX3_timeAt 2 (some .int), Cond.methodLink RX3 28 yX3_has, Cond.instanceMethod yX3_has, Cond.selects RX3 yX3_has yX3_has, Cond.code yX3_has cX3_has 2 (some .boolean), Cond.methodLink RX4 79 yX3_append, Cond.instanceMethod yX3_append, Cond.selects RX3 yX3_append yX3_append, Cond.code yX3_append cX3_append 3 (some .int), Cond.methodLink RX3 39 yX3_isFull, Cond.methodLink RX10 111 yX3_copy, Cond.instanceMethod yX3_copy, Cond.selects RX3 yX3_copy yX3_copy, Cond.code yX3_copy cX3_copy 3 none, Cond.methodLink RX10 114 yX1_wipe, Cond.instanceMethod yX1_wipe, Cond.selects RX1 yX1_wipe yX1_wipe, Cond.code yX1_wipe cX1_wipe 1 none, Cond.methodLink RX10 116 yX6_wipe, Cond.instanceMethod yX6_wipe, Cond.selects RX6 yX6_wipe yX6_wipe]
def wsL_law_r13 : List Cond := [Cond.code yX6_wipe cX6_wipe 1 none, Cond.methodLink RX10 117 yX5_wipe, Cond.instanceMethod yX5_wipe, Cond.selects RX5 yX5_wipe yX5_wipe, Cond.code yX5_wipe cX5_wipe 2 (some .int), Cond.methodLink RX10 118 yX10_outdateAll, Cond.instanceMethod yX10_outdateAll, Cond.selects RX10 yX10_outdateAll yX10_outdateAll, Cond.code yX10_outdateAll cX10_outdateAll 1 none, Cond.methodLink RX10 273 yX9_outdate, Cond.instanceMethod yX9_outdate, Cond.selects RX9 yX9_outdate yX9_outdate, Cond.code yX9_outdate cX9_outdate 1 none, Cond.methodLink RX10 276 yX7_outdate, Cond.instanceMethod yX7_outdate, Cond.selects RX7 yX7_outdate yX7_outdate, Cond.code yX7_outdate cX7_outdate 1 none, Cond.methodLink RL 26 yX11_readings, Cond.instanceMethod yX11_readings, Cond.selects RX11 yX11_readings yX11_readings, Cond.code yX11_readings cX11_readings 3 (some .int), Cond.fieldLink RX11 84 "ThinReadingsModel" "readOnce" "I", Cond.fieldLink RX11 56 "ThinReadingsModel" "readAt" "I", Cond.fieldLink RX11 75 "ThinReadingsModel" "faultAt" "I"]
def wsL_law_r14 : List Cond := [Cond.fieldLink RX11 107 "ThinReadingsModel" "undoMany" "I", Cond.fieldLink RX11 110 "ThinReadingsModel" "seenMany" "I", Cond.methodLink RX11 59 yX11_blanks, Cond.instanceMethod yX11_blanks, Cond.selects RX11 yX11_blanks yX11_blanks, Cond.code yX11_blanks cX11_blanks 1 none, Cond.methodLink RX11 104 yX11_readsItem, Cond.instanceMethod yX11_readsItem, Cond.selects RX11 yX11_readsItem yX11_readsItem, Cond.code yX11_readsItem cX11_readsItem 1 (some .boolean), Cond.fieldLink RX11 65 "ThinReadingsModel" "token" "I", Cond.methodLink RX11 78 yX11_next, Cond.instanceMethod yX11_next, Cond.selects RX11 yX11_next yX11_next, Cond.code yX11_next cX11_next 2 none, Cond.fieldLink RX11 62 "ThinReadingsModel" "tokenAt" "I", Cond.fieldLink RX11 72 "ThinReadingsModel" "value" "I", Cond.methodLink RX11 68 yX11_isFigure, Cond.instanceMethod yX11_isFigure, Cond.selects RX11 yX11_isFigure yX11_isFigure, Cond.code yX11_isFigure cX11_isFigure 1 (some .boolean), Cond.methodLink RX11 97 yX11_readsOnce, Cond.instanceMethod yX11_readsOnce, Cond.selects RX11 yX11_readsOnce yX11_readsOnce]
def wsL_law_r15 : List Cond := [Cond.code yX11_readsOnce cX11_readsOnce 4 (some .boolean), Cond.methodLink RX11 87 yX11_has, Cond.static yX11_has, Cond.code yX11_has cX11_has 2 (some .boolean), Cond.methodLink RX11 81 yX11_fails, Cond.instanceMethod yX11_fails, Cond.selects RX11 yX11_fails yX11_fails, Cond.code yX11_fails cX11_fails 1 (some .boolean), Cond.methodLink RX11 91 yX11_number, Cond.instanceMethod yX11_number, Cond.selects RX11 yX11_number yX11_number, Cond.code yX11_number cX11_number 3 (some .boolean), Cond.methodLink RX11 94 yX11_ends, Cond.instanceMethod yX11_ends, Cond.selects RX11 yX11_ends yX11_ends, Cond.code yX11_ends cX11_ends 1 (some .boolean), Cond.methodLink RX11 100 yX11_readsOne, Cond.instanceMethod yX11_readsOne, Cond.selects RX11 yX11_readsOne yX11_readsOne, Cond.code yX11_readsOne cX11_readsOne 3 (some .boolean), Cond.methodLink RL 27 yX10_adds, Cond.instanceMethod yX10_adds, Cond.selects RX10 yX10_adds yX10_adds, Cond.code yX10_adds cX10_adds 3 (some .int)]
def wsL_law_r16 : List Cond := [Cond.methodLink RX10 121 yX10_appendReading, Cond.instanceMethod yX10_appendReading, Cond.selects RX10 yX10_appendReading yX10_appendReading, Cond.code yX10_appendReading cX10_appendReading 3 (some .int), Cond.methodLink RX10 263 yX3_isLater, Cond.methodLink RX10 266 yX3_isFull, Cond.methodLink RX10 129 yX10_rememberForUndo, Cond.instanceMethod yX10_rememberForUndo, Cond.selects RX10 yX10_rememberForUndo yX10_rememberForUndo, Cond.code yX10_rememberForUndo cX10_rememberForUndo 1 none, Cond.methodLink RX10 270 yX1_push, Cond.instanceMethod yX1_push, Cond.selects RX1 yX1_push yX1_push, Cond.code yX1_push cX1_push 2 none, Cond.methodLink RX1 31 Lib.Math.min.name, Cond.static Lib.Math.min.name, Cond.initialized "java/lang/Math", Cond.code Lib.Math.min.name Lib.Math.min.code 2 (some .int), Cond.methodLink RX1 27 yX6_put, Cond.instanceMethod yX6_put, Cond.selects RX6 yX6_put yX6_put, Cond.code yX6_put cX6_put 5 none, Cond.methodLink RX10 267 yX3_append, Cond.methodLink RL 31 yX11_adds]
def wsL_law_r17 : List Cond := [Cond.instanceMethod yX11_adds, Cond.selects RX11 yX11_adds yX11_adds, Cond.code yX11_adds cX11_adds 3 (some .int), Cond.methodLink RX11 123 yX11_comes, Cond.instanceMethod yX11_comes, Cond.selects RX11 yX11_comes yX11_comes, Cond.code yX11_comes cX11_comes 4 (some .int), Cond.methodLink RX11 120 yX11_remember, Cond.instanceMethod yX11_remember, Cond.selects RX11 yX11_remember yX11_remember, Cond.code yX11_remember cX11_remember 2 none, Cond.fieldLink RX11 117 "ThinReadingsModel" "undoAt" "I", Cond.methodLink RL 32 yX10_misses, Cond.instanceMethod yX10_misses, Cond.selects RX10 yX10_misses yX10_misses, Cond.code yX10_misses cX10_misses 2 (some .int), Cond.methodLink RL 35 yX11_misses, Cond.instanceMethod yX11_misses, Cond.selects RX11 yX11_misses yX11_misses, Cond.code yX11_misses cX11_misses 2 (some .int), Cond.methodLink RL 36 yX10_strikes, Cond.instanceMethod yX10_strikes, Cond.selects RX10 yX10_strikes yX10_strikes, Cond.code yX10_strikes cX10_strikes 2 (some .int)]
def wsL_law_r18 : List Cond := [Cond.methodLink RX10 125 yX3_has, Cond.methodLink RX10 132 yX3_remove, Cond.instanceMethod yX3_remove, Cond.selects RX3 yX3_remove yX3_remove, Cond.code yX3_remove cX3_remove 3 none, Cond.methodLink RL 39 yX11_strikes, Cond.instanceMethod yX11_strikes, Cond.selects RX11 yX11_strikes yX11_strikes, Cond.code yX11_strikes cX11_strikes 3 (some .int), Cond.methodLink RX11 113 yX11_isReading, Cond.instanceMethod yX11_isReading, Cond.selects RX11 yX11_isReading yX11_isReading, Cond.code yX11_isReading cX11_isReading 2 (some .boolean), Cond.methodLink RL 40 yX10_promises, Cond.instanceMethod yX10_promises, Cond.selects RX10 yX10_promises yX10_promises, Cond.code yX10_promises cX10_promises 3 (some .int), Cond.methodLink RL 43 yX11_promises, Cond.instanceMethod yX11_promises, Cond.selects RX11 yX11_promises yX11_promises, Cond.code yX11_promises cX11_promises 2 (some .int), Cond.methodLink RX11 127 yX11_becomes, Cond.instanceMethod yX11_becomes, Cond.selects RX11 yX11_becomes yX11_becomes]
def wsL_law_r19 : List Cond := [Cond.code yX11_becomes cX11_becomes 4 (some .int), Cond.methodLink RL 44 yX10_delays, Cond.instanceMethod yX10_delays, Cond.selects RX10 yX10_delays yX10_delays, Cond.code yX10_delays cX10_delays 3 (some .int), Cond.methodLink RL 47 yX11_delays, Cond.instanceMethod yX11_delays, Cond.selects RX11 yX11_delays yX11_delays, Cond.code yX11_delays cX11_delays 2 (some .int), Cond.methodLink RL 48 yX10_undo, Cond.instanceMethod yX10_undo, Cond.selects RX10 yX10_undo yX10_undo, Cond.code yX10_undo cX10_undo 1 (some .int), Cond.methodLink RX10 146 yX1_pop, Cond.instanceMethod yX1_pop, Cond.selects RX1 yX1_pop yX1_pop, Cond.code yX1_pop cX1_pop 2 none, Cond.methodLink RX1 37 yX6_take, Cond.instanceMethod yX6_take, Cond.selects RX6 yX6_take yX6_take, Cond.code yX6_take cX6_take 5 none, Cond.methodLink RX6 43 yX6_holds, Cond.instanceMethod yX6_holds, Cond.selects RX6 yX6_holds yX6_holds]
def wsL_law_r20 : List Cond := [Cond.code yX6_holds cX6_holds 2 (some .boolean), Cond.static yX10_bitAt, Cond.code yX10_bitAt cX10_bitAt 2 (some .int), Cond.methodLink RL 51 yX11_undo, Cond.instanceMethod yX11_undo, Cond.selects RX11 yX11_undo yX11_undo, Cond.code yX11_undo cX11_undo 2 (some .int), Cond.methodLink RL 52 yX10_reading, Cond.instanceMethod yX10_reading, Cond.selects RX10 yX10_reading yX10_reading, Cond.code yX10_reading cX10_reading 3 (some .int), Cond.methodLink RX10 149 yX9_refresh, Cond.instanceMethod yX9_refresh, Cond.selects RX9 yX9_refresh yX9_refresh, Cond.code yX9_refresh cX9_refresh 1 none, Cond.methodLink RX9 46 yX2_measureAll, Cond.instanceMethod yX2_measureAll, Cond.selects RX2 yX2_measureAll yX2_measureAll, Cond.code yX2_measureAll cX2_measureAll 2 none, Cond.methodLink RX2 31 yX3_isFirst, Cond.instanceMethod yX3_isFirst, Cond.selects RX3 yX3_isFirst yX3_isFirst, Cond.code yX3_isFirst cX3_isFirst 2 (some .boolean), Cond.methodLink RX3 32 yX3_isKnown]
def wsL_law_r21 : List Cond := [Cond.instanceMethod yX3_isKnown, Cond.selects RX3 yX3_isKnown yX3_isKnown, Cond.code yX3_isKnown cX3_isKnown 2 (some .boolean), Cond.methodLink RX2 35 yX3_isKnown, Cond.methodLink RX2 38 yX2_measureNeedsFrom, Cond.instanceMethod yX2_measureNeedsFrom, Cond.selects RX2 yX2_measureNeedsFrom yX2_measureNeedsFrom, Cond.code yX2_measureNeedsFrom cX2_measureNeedsFrom 6 none, Cond.methodLink RX2 42 yX2_farthest, Cond.instanceMethod yX2_farthest, Cond.selects RX2 yX2_farthest yX2_farthest, Cond.code yX2_farthest cX2_farthest 7 (some .int), Cond.methodLink RX2 49 yX2_offset, Cond.instanceMethod yX2_offset, Cond.selects RX2 yX2_offset yX2_offset, Cond.code yX2_offset cX2_offset 6 (some .int), Cond.methodLink RX2 66 Lib.Math.abs.name, Cond.static Lib.Math.abs.name, Cond.code Lib.Math.abs.name Lib.Math.abs.code 1 (some .int), Cond.methodLink RX2 53 yX3_has, Cond.methodLink RX2 46 yX2_span, Cond.instanceMethod yX2_span, Cond.selects RX2 yX2_span yX2_span, Cond.code yX2_span cX2_span 3 (some .int)]
def wsL_law_r22 : List Cond := [Cond.methodLink RX2 56 yX3_timeAt, Cond.methodLink RX9 51 yX9_cutPieces, Cond.instanceMethod yX9_cutPieces, Cond.selects RX9 yX9_cutPieces yX9_cutPieces, Cond.code yX9_cutPieces cX9_cutPieces 3 none, Cond.methodLink RX9 77 yX3_isFirst, Cond.methodLink RX9 80 yX3_isKnown, Cond.methodLink RX9 83 yX9_fitsStrip, Cond.instanceMethod yX9_fitsStrip, Cond.selects RX9 yX9_fitsStrip yX9_fitsStrip, Cond.code yX9_fitsStrip cX9_fitsStrip 4 (some .boolean), Cond.methodLink RX9 87 yX2_needOf, Cond.instanceMethod yX2_needOf, Cond.selects RX2 yX2_needOf yX2_needOf, Cond.code yX2_needOf cX2_needOf 4 (some .int), Cond.methodLink RX9 59 yX9_swingDoor, Cond.instanceMethod yX9_swingDoor, Cond.selects RX9 yX9_swingDoor yX9_swingDoor, Cond.code yX9_swingDoor cX9_swingDoor 5 (some .int), Cond.methodLink RX9 94 yX3_isLast, Cond.instanceMethod yX3_isLast, Cond.selects RX3 yX3_isLast yX3_isLast, Cond.code yX3_isLast cX3_isLast 2 (some .boolean), Cond.methodLink RX9 63 yX9_sendKept]
def wsL_law_r23 : List Cond := [Cond.instanceMethod yX9_sendKept, Cond.selects RX9 yX9_sendKept yX9_sendKept, Cond.code yX9_sendKept cX9_sendKept 4 none, Cond.methodLink RX9 100 yX3_timeAt, Cond.methodLink RX9 66 yX9_chooseLeast, Cond.instanceMethod yX9_chooseLeast, Cond.selects RX9 yX9_chooseLeast yX9_chooseLeast, Cond.code yX9_chooseLeast cX9_chooseLeast 4 (some .int), Cond.methodLink RX9 111 Lib.Math.min.name, Cond.methodLink RX9 114 yX9_chooseNext, Cond.instanceMethod yX9_chooseNext, Cond.selects RX9 yX9_chooseNext yX9_chooseNext, Cond.code yX9_chooseNext cX9_chooseNext 4 none, Cond.methodLink RX10 152 yX3_timeAt, Cond.methodLink RX10 156 yX3_valueAt, Cond.instanceMethod yX3_valueAt, Cond.selects RX3 yX3_valueAt yX3_valueAt, Cond.code yX3_valueAt cX3_valueAt 2 (some .int), Cond.methodLink RX10 159 yX2_stretchAt, Cond.instanceMethod yX2_stretchAt, Cond.selects RX2 yX2_stretchAt yX2_stretchAt, Cond.code yX2_stretchAt cX2_stretchAt 2 (some .int), Cond.methodLink RX10 162 yX9_pieceAt, Cond.instanceMethod yX9_pieceAt]
def wsL_law_r24 : List Cond := [Cond.selects RX9 yX9_pieceAt yX9_pieceAt, Cond.code yX9_pieceAt cX9_pieceAt 2 (some .int), Cond.methodLink RX9 70 yX3_has, Cond.methodLink RX10 168 yX10_bitAt, Cond.methodLink RX10 171 yX9_sentAt, Cond.instanceMethod yX9_sentAt, Cond.selects RX9 yX9_sentAt yX9_sentAt, Cond.code yX9_sentAt cX9_sentAt 2 (some .int), Cond.methodLink RL 55 yX11_reading, Cond.instanceMethod yX11_reading, Cond.selects RX11 yX11_reading yX11_reading, Cond.code yX11_reading cX11_reading 5 (some .int), Cond.methodLink RX11 130 yX11_isKnown, Cond.instanceMethod yX11_isKnown, Cond.selects RX11 yX11_isKnown yX11_isKnown, Cond.code yX11_isKnown cX11_isKnown 2 (some .boolean), Cond.methodLink RX11 172 yX11_door, Cond.instanceMethod yX11_door, Cond.selects RX11 yX11_door yX11_door, Cond.code yX11_door cX11_door 5 (some .int), Cond.methodLink RX11 133 yX11_isFirst, Cond.instanceMethod yX11_isFirst, Cond.selects RX11 yX11_isFirst yX11_isFirst, Cond.code yX11_isFirst cX11_isFirst 2 (some .boolean)]
def wsL_law_r25 : List Cond := [Cond.methodLink RX11 140 yX11_isLast, Cond.instanceMethod yX11_isLast, Cond.selects RX11 yX11_isLast yX11_isLast, Cond.code yX11_isLast cX11_isLast 2 (some .boolean), Cond.methodLink RX11 146 yX11_doorFrom, Cond.instanceMethod yX11_doorFrom, Cond.selects RX11 yX11_doorFrom yX11_doorFrom, Cond.code yX11_doorFrom cX11_doorFrom 4 (some .int), Cond.methodLink RX11 143 yX11_whyNot, Cond.instanceMethod yX11_whyNot, Cond.selects RX11 yX11_whyNot yX11_whyNot, Cond.code yX11_whyNot cX11_whyNot 5 (some .int), Cond.methodLink RX11 136 yX11_apartBy, Cond.instanceMethod yX11_apartBy, Cond.selects RX11 yX11_apartBy yX11_apartBy, Cond.code yX11_apartBy cX11_apartBy 6 (some .int), Cond.methodLink RX11 176 yX11_least, Cond.instanceMethod yX11_least, Cond.selects RX11 yX11_least yX11_least, Cond.code yX11_least cX11_least 5 (some .int), Cond.methodLink RX11 180 yX11_pieces, Cond.instanceMethod yX11_pieces, Cond.selects RX11 yX11_pieces yX11_pieces, Cond.code yX11_pieces cX11_pieces 5 (some .int)]
def wsL_law_r26 : List Cond := [Cond.methodLink RX11 169 yX11_isStrip, Cond.instanceMethod yX11_isStrip, Cond.selects RX11 yX11_isStrip yX11_isStrip, Cond.code yX11_isStrip cX11_isStrip 3 (some .boolean), Cond.fieldLink RX11 156 "ThinReadingsModel" "greatUpper" "J", Cond.fieldLink RX11 152 "ThinReadingsModel" "greatLower" "J", Cond.methodLink RX11 165 yX11_layStrip, Cond.instanceMethod yX11_layStrip, Cond.selects RX11 yX11_layStrip yX11_layStrip, Cond.code yX11_layStrip cX11_layStrip 6 none, Cond.constantLong RX11 159 (2), Cond.methodLink RX11 161 yX11_greater, Cond.instanceMethod yX11_greater, Cond.selects RX11 yX11_greater yX11_greater, Cond.code yX11_greater cX11_greater 5 none, Cond.methodLink RX11 183 yX11_stretchOf, Cond.instanceMethod yX11_stretchOf, Cond.selects RX11 yX11_stretchOf yX11_stretchOf, Cond.code yX11_stretchOf cX11_stretchOf 4 (some .int), Cond.methodLink RX11 186 yX11_bits, Cond.static yX11_bits, Cond.code yX11_bits cX11_bits 3 (some .int), Cond.methodLink RX11 189 yX11_sentAt, Cond.instanceMethod yX11_sentAt]
def wsL_law_r27 : List Cond := [Cond.selects RX11 yX11_sentAt yX11_sentAt, Cond.code yX11_sentAt cX11_sentAt 4 (some .int), Cond.methodLink RX11 149 yX11_keptAhead, Cond.instanceMethod yX11_keptAhead, Cond.selects RX11 yX11_keptAhead yX11_keptAhead, Cond.code yX11_keptAhead cX11_keptAhead 4 (some .int), Cond.methodLink RL 56 yX10_apart, Cond.instanceMethod yX10_apart, Cond.selects RX10 yX10_apart yX10_apart, Cond.code yX10_apart cX10_apart 5 (some .int), Cond.methodLink RX10 177 yX10_isLine, Cond.instanceMethod yX10_isLine, Cond.selects RX10 yX10_isLine yX10_isLine, Cond.code yX10_isLine cX10_isLine 3 (some .boolean), Cond.methodLink RX10 201 yX3_isKnown, Cond.methodLink RX10 181 yX2_farthest, Cond.methodLink RX10 184 yX2_offset, Cond.methodLink RX10 188 yX2_span, Cond.methodLink RX10 191 yX0_assign, Cond.instanceMethod yX0_assign, Cond.selects RX0 yX0_assign yX0_assign, Cond.code yX0_assign cX0_assign 4 none, Cond.methodLink RX0 16 yX0_commonDivisor, Cond.static yX0_commonDivisor]
def wsL_law_r28 : List Cond := [Cond.code yX0_commonDivisor cX0_commonDivisor 6 (some .int), Cond.methodLink RX10 195 yX0_part, Cond.instanceMethod yX0_part, Cond.selects RX0 yX0_part yX0_part, Cond.code yX0_part cX0_part 2 (some .int), Cond.methodLink RL 60 yX11_apart, Cond.instanceMethod yX11_apart, Cond.selects RX11 yX11_apart yX11_apart, Cond.code yX11_apart cX11_apart 8 (some .int), Cond.methodLink RX11 192 yX11_isSide, Cond.instanceMethod yX11_isSide, Cond.selects RX11 yX11_isSide yX11_isSide, Cond.code yX11_isSide cX11_isSide 3 (some .boolean), Cond.methodLink RX11 195 yX11_lowest, Cond.static yX11_lowest, Cond.code yX11_lowest cX11_lowest 11 (some .int), Cond.methodLink RL 61 yX10_why, Cond.instanceMethod yX10_why, Cond.selects RX10 yX10_why yX10_why, Cond.code yX10_why cX10_why 3 (some .int), Cond.methodLink RX10 198 yX2_firstBeyond, Cond.instanceMethod yX2_firstBeyond, Cond.selects RX2 yX2_firstBeyond yX2_firstBeyond, Cond.code yX2_firstBeyond cX2_firstBeyond 6 (some .int)]
def wsL_law_r29 : List Cond := [Cond.methodLink RL 64 yX11_why, Cond.instanceMethod yX11_why, Cond.selects RX11 yX11_why yX11_why, Cond.code yX11_why cX11_why 3 (some .int), Cond.methodLink RL 65 yX10_strip, Cond.instanceMethod yX10_strip, Cond.selects RX10 yX10_strip yX10_strip, Cond.code yX10_strip cX10_strip 5 (some .int), Cond.methodLink RX10 204 yX2_measureStrip, Cond.instanceMethod yX2_measureStrip, Cond.selects RX2 yX2_measureStrip yX2_measureStrip, Cond.code yX2_measureStrip cX2_measureStrip 8 none, Cond.methodLink RX2 71 yX0_assign, Cond.methodLink RX2 77 yX0_isBelow, Cond.instanceMethod yX0_isBelow, Cond.selects RX0 yX0_isBelow yX0_isBelow, Cond.code yX0_isBelow cX0_isBelow 3 (some .boolean), Cond.methodLink RL 68 yX11_strip, Cond.instanceMethod yX11_strip, Cond.selects RX11 yX11_strip yX11_strip, Cond.code yX11_strip cX11_strip 4 (some .int), Cond.methodLink RL 69 yX10_told, Cond.instanceMethod yX10_told, Cond.selects RX10 yX10_told yX10_told]
def wsL_law_r30 : List Cond := [Cond.code yX10_told cX10_told 7 (some .int), Cond.methodLink RX10 208 yX3_lastUpTo, Cond.instanceMethod yX3_lastUpTo, Cond.selects RX3 yX3_lastUpTo yX3_lastUpTo, Cond.code yX3_lastUpTo cX3_lastUpTo 5 (some .int), Cond.methodLink RX10 211 yX3_firstFrom, Cond.instanceMethod yX3_firstFrom, Cond.selects RX3 yX3_firstFrom yX3_firstFrom, Cond.code yX3_firstFrom cX3_firstFrom 4 (some .int), Cond.methodLink RX10 214 yX2_measureValue, Cond.instanceMethod yX2_measureValue, Cond.selects RX2 yX2_measureValue yX2_measureValue, Cond.code yX2_measureValue cX2_measureValue 8 none, Cond.methodLink RX2 81 yX3_valueAt, Cond.methodLink RL 72 yX11_told, Cond.instanceMethod yX11_told, Cond.selects RX11 yX11_told yX11_told, Cond.code yX11_told cX11_told 9 (some .int), Cond.methodLink RL 73 yX10_sees, Cond.instanceMethod yX10_sees, Cond.selects RX10 yX10_sees yX10_sees, Cond.code yX10_sees cX10_sees 3 (some .int), Cond.methodLink RX10 218 yX5_isFull, Cond.instanceMethod yX5_isFull]
def wsL_law_r31 : List Cond := [Cond.selects RX5 yX5_isFull yX5_isFull, Cond.code yX5_isFull cX5_isFull 1 (some .boolean), Cond.methodLink RX10 219 yX5_put, Cond.instanceMethod yX5_put, Cond.selects RX5 yX5_put yX5_put, Cond.code yX5_put cX5_put 3 (some .int), Cond.methodLink RL 76 yX11_sees, Cond.instanceMethod yX11_sees, Cond.selects RX11 yX11_sees yX11_sees, Cond.code yX11_sees cX11_sees 3 (some .int), Cond.methodLink RL 77 yX10_forget, Cond.instanceMethod yX10_forget, Cond.selects RX10 yX10_forget yX10_forget, Cond.code yX10_forget cX10_forget 1 (some .int), Cond.methodLink RL 80 yX11_forget, Cond.instanceMethod yX11_forget, Cond.selects RX11 yX11_forget yX11_forget, Cond.code yX11_forget cX11_forget 2 (some .int), Cond.methodLink RL 81 yX10_unseen, Cond.instanceMethod yX10_unseen, Cond.selects RX10 yX10_unseen yX10_unseen, Cond.code yX10_unseen cX10_unseen 2 (some .int), Cond.methodLink RX10 221 yX7_run, Cond.instanceMethod yX7_run]
def wsL_law_r32 : List Cond := [Cond.selects RX7 yX7_run yX7_run, Cond.code yX7_run cX7_run 2 none, Cond.methodLink RX7 41 yX7_swingAllDoors, Cond.instanceMethod yX7_swingAllDoors, Cond.selects RX7 yX7_swingAllDoors yX7_swingAllDoors, Cond.code yX7_swingAllDoors cX7_swingAllDoors 2 none, Cond.methodLink RX7 50 yX9_swingDoor, Cond.methodLink RX7 44 yX5_agreesWith, Cond.instanceMethod yX5_agreesWith, Cond.selects RX5 yX5_agreesWith yX5_agreesWith, Cond.code yX5_agreesWith cX5_agreesWith 2 (some .boolean), Cond.methodLink RL 84 yX11_unseen, Cond.instanceMethod yX11_unseen, Cond.selects RX11 yX11_unseen yX11_unseen, Cond.code yX11_unseen cX11_unseen 6 (some .int), Cond.methodLink RX11 199 yX11_layUnseen, Cond.instanceMethod yX11_layUnseen, Cond.selects RX11 yX11_layUnseen yX11_layUnseen, Cond.code yX11_layUnseen cX11_layUnseen 5 (some .int), Cond.methodLink RL 85 yX10_ask, Cond.instanceMethod yX10_ask, Cond.selects RX10 yX10_ask yX10_ask, Cond.code yX10_ask cX10_ask 1 (some .int), Cond.methodLink RX10 233 yX7_bestReading]
def wsL_law_r33 : List Cond := [Cond.instanceMethod yX7_bestReading, Cond.selects RX7 yX7_bestReading yX7_bestReading, Cond.code yX7_bestReading cX7_bestReading 6 (some .int), Cond.methodLink RX7 64 Lib.Math.max.name, Cond.static Lib.Math.max.name, Cond.code Lib.Math.max.name Lib.Math.max.code 2 (some .int), Cond.methodLink RX7 61 yX7_countKept, Cond.instanceMethod yX7_countKept, Cond.selects RX7 yX7_countKept yX7_countKept, Cond.code yX7_countKept cX7_countKept 4 (some .int), Cond.methodLink RX7 70 yX3_isKnown, Cond.methodLink RL 88 yX11_ask, Cond.instanceMethod yX11_ask, Cond.selects RX11 yX11_ask yX11_ask, Cond.code yX11_ask cX11_ask 8 (some .int), Cond.methodLink RL 89 yX10_keep, Cond.instanceMethod yX10_keep, Cond.selects RX10 yX10_keep yX10_keep, Cond.code yX10_keep cX10_keep 2 (some .int), Cond.methodLink RX10 236 yX6_put, Cond.methodLink RL 92 yX11_keep, Cond.instanceMethod yX11_keep, Cond.selects RX11 yX11_keep yX11_keep, Cond.code yX11_keep cX11_keep 3 (some .int)]
def wsL_law_r34 : List Cond := [Cond.methodLink RL 93 yX10_back, Cond.instanceMethod yX10_back, Cond.selects RX10 yX10_back yX10_back, Cond.code yX10_back cX10_back 2 (some .int), Cond.methodLink RX10 239 yX6_holds, Cond.methodLink RX10 242 yX6_take, Cond.methodLink RL 96 yX11_back, Cond.instanceMethod yX11_back, Cond.selects RX11 yX11_back yX11_back, Cond.code yX11_back cX11_back 3 (some .int), Cond.methodLink RL 97 yX10_count, Cond.instanceMethod yX10_count, Cond.selects RX10 yX10_count yX10_count, Cond.code yX10_count cX10_count 2 (some .int), Cond.methodLink RX10 248 yJ6_bitCount_0f7a4, Cond.static yJ6_bitCount_0f7a4, Cond.initialized RJ6, Cond.code yJ6_bitCount_0f7a4 cJ6_bitCount_0f7a4 1 (some .int), Cond.constant RJ6 265 (1431655765), Cond.constant RJ6 266 (858993459), Cond.constant RJ6 267 (252645135), Cond.methodLink RX10 256 yX9_longestWait, Cond.instanceMethod yX9_longestWait, Cond.selects RX9 yX9_longestWait yX9_longestWait]
def wsL_law_r35 : List Cond := [Cond.code yX9_longestWait cX9_longestWait 4 (some .int), Cond.methodLink RX9 106 Lib.Math.max.name, Cond.methodLink RX9 103 yX9_sentAt, Cond.methodLink RL 100 yX11_count, Cond.instanceMethod yX11_count, Cond.selects RX11 yX11_count yX11_count, Cond.code yX11_count cX11_count 2 (some .int), Cond.methodLink RX11 202 yX11_stretches, Cond.instanceMethod yX11_stretches, Cond.selects RX11 yX11_stretches yX11_stretches, Cond.code yX11_stretches cX11_stretches 3 (some .int), Cond.methodLink RX11 205 yX11_late, Cond.instanceMethod yX11_late, Cond.selects RX11 yX11_late yX11_late, Cond.code yX11_late cX11_late 6 (some .int)]
def wsL_law : List Cond := (wsL_law_r1 ++ (wsL_law_r2 ++ (wsL_law_r3 ++ (wsL_law_r4 ++ (wsL_law_r5 ++ (wsL_law_r6 ++ (wsL_law_r7 ++ (wsL_law_r8 ++ (wsL_law_r9 ++ (wsL_law_r10 ++ (wsL_law_r11 ++ (wsL_law_r12 ++ (wsL_law_r13 ++ (wsL_law_r14 ++ (wsL_law_r15 ++ (wsL_law_r16 ++ (wsL_law_r17 ++ (wsL_law_r18 ++ (wsL_law_r19 ++ (wsL_law_r20 ++ (wsL_law_r21 ++ (wsL_law_r22 ++ (wsL_law_r23 ++ (wsL_law_r24 ++ (wsL_law_r25 ++ (wsL_law_r26 ++ (wsL_law_r27 ++ (wsL_law_r28 ++ (wsL_law_r29 ++ (wsL_law_r30 ++ (wsL_law_r31 ++ (wsL_law_r32 ++ (wsL_law_r33 ++ (wsL_law_r34 ++ wsL_law_r35)))))))))))))))))))))))))))))))))) ++ wsX100 ++ wsX110 ++ wsX80 ++ wsX40 ++ wsX30 ++ wsX10 ++ wsX60 ++ wsX20 ++ wsX90 ++ wsX50 ++ wsX70 ++ wsX00 ++ ([] : List Cond)
theorem inlX0 : ∀ w ∈ wsX00, w ∈ wsL_law := fun _ h => List.mem_append_left _ (List.mem_append_right _ h)
theorem inlX1 : ∀ w ∈ wsX10, w ∈ wsL_law := fun _ h => List.mem_append_left _ (List.mem_append_left _ (List.mem_append_left _ (List.mem_append_left _ (List.mem_append_left _ (List.mem_append_left _ (List.mem_append_left _ (List.mem_append_right _ h)))))))
theorem inlX2 : ∀ w ∈ wsX20, w ∈ wsL_law := fun _ h => List.mem_append_left _ (List.mem_append_left _ (List.mem_append_left _ (List.mem_append_left _ (List.mem_append_left _ (List.mem_append_right _ h)))))
theorem inlX3 : ∀ w ∈ wsX30, w ∈ wsL_law := fun _ h => List.mem_append_left _ (List.mem_append_left _ (List.mem_append_left _ (List.mem_append_left _ (List.mem_append_left _ (List.mem_append_left _ (List.mem_append_left _ (List.mem_append_left _ (List.mem_append_right _ h))))))))
theorem inlX4 : ∀ w ∈ wsX40, w ∈ wsL_law := fun _ h => List.mem_append_left _ (List.mem_append_left _ (List.mem_append_left _ (List.mem_append_left _ (List.mem_append_left _ (List.mem_append_left _ (List.mem_append_left _ (List.mem_append_left _ (List.mem_append_left _ (List.mem_append_right _ h)))))))))
theorem inlX5 : ∀ w ∈ wsX50, w ∈ wsL_law := fun _ h => List.mem_append_left _ (List.mem_append_left _ (List.mem_append_left _ (List.mem_append_right _ h)))
theorem inlX6 : ∀ w ∈ wsX60, w ∈ wsL_law := fun _ h => List.mem_append_left _ (List.mem_append_left _ (List.mem_append_left _ (List.mem_append_left _ (List.mem_append_left _ (List.mem_append_left _ (List.mem_append_right _ h))))))
theorem inlX7 : ∀ w ∈ wsX70, w ∈ wsL_law := fun _ h => List.mem_append_left _ (List.mem_append_left _ (List.mem_append_right _ h))
theorem inlX8 : ∀ w ∈ wsX80, w ∈ wsL_law := fun _ h => List.mem_append_left _ (List.mem_append_left _ (List.mem_append_left _ (List.mem_append_left _ (List.mem_append_left _ (List.mem_append_left _ (List.mem_append_left _ (List.mem_append_left _ (List.mem_append_left _ (List.mem_append_left _ (List.mem_append_right _ h))))))))))
theorem inlX9 : ∀ w ∈ wsX90, w ∈ wsL_law := fun _ h => List.mem_append_left _ (List.mem_append_left _ (List.mem_append_left _ (List.mem_append_left _ (List.mem_append_right _ h))))
theorem inlX10 : ∀ w ∈ wsX100, w ∈ wsL_law := fun _ h => List.mem_append_left _ (List.mem_append_left _ (List.mem_append_left _ (List.mem_append_left _ (List.mem_append_left _ (List.mem_append_left _ (List.mem_append_left _ (List.mem_append_left _ (List.mem_append_left _ (List.mem_append_left _ (List.mem_append_left _ (List.mem_append_left _ (List.mem_append_right _ h))))))))))))
theorem inlX11 : ∀ w ∈ wsX110, w ∈ wsL_law := fun _ h => List.mem_append_left _ (List.mem_append_left _ (List.mem_append_left _ (List.mem_append_left _ (List.mem_append_left _ (List.mem_append_left _ (List.mem_append_left _ (List.mem_append_left _ (List.mem_append_left _ (List.mem_append_left _ (List.mem_append_left _ (List.mem_append_right _ h)))))))))))
abbrev vwCl : List vw_C := [(RX0, TX0, 2), (RX1, TX1, 3), (RX2, TX2, 4), (RX3, TX3, 5), (RX4, TX4, 8), (RX5, TX5, 3), (RX6, TX6, 3), (RX7, TX7, 8), (RX8, TX8, 2), (RX9, TX9, 10), (RX10, TX10, 10), (RX11, TX11, 23)]
end
section
theorem dX0_init_0 : decode cX0_init 0 = .ok (.aload_n 0, 1) := by decide +kernel
theorem dX0_init_1 : decode cX0_init 1 = .ok (.invokespecial 1, 3) := by decide +kernel
theorem dX0_init_4 : decode cX0_init 4 = .ok (.aload_n 0, 1) := by decide +kernel
theorem dX0_init_5 : decode cX0_init 5 = .ok (.iconst 0, 1) := by decide +kernel
theorem dX0_init_6 : decode cX0_init 6 = .ok (.putfield 7, 3) := by decide +kernel
theorem dX0_init_9 : decode cX0_init 9 = .ok (.aload_n 0, 1) := by decide +kernel
theorem dX0_init_10 : decode cX0_init 10 = .ok (.iconst 1, 1) := by decide +kernel
theorem dX0_init_11 : decode cX0_init 11 = .ok (.putfield 13, 3) := by decide +kernel
theorem dX0_init_14 : decode cX0_init 14 = .ok (.return_, 1) := by decide +kernel
theorem dX0_assign_0 : decode cX0_assign 0 = .ok (.iload_n 1, 1) := by decide +kernel
theorem dX0_assign_1 : decode cX0_assign 1 = .ok (.iload_n 2, 1) := by decide +kernel
theorem dX0_assign_2 : decode cX0_assign 2 = .ok (.invokestatic 16, 3) := by decide +kernel
theorem dX0_assign_5 : decode cX0_assign 5 = .ok (.istore_n 3, 1) := by decide +kernel
theorem dX0_assign_6 : decode cX0_assign 6 = .ok (.iload_n 3, 1) := by decide +kernel
theorem dX0_assign_7 : decode cX0_assign 7 = .ok (.iconst 1, 1) := by decide +kernel
theorem dX0_assign_8 : decode cX0_assign 8 = .ok (.if_icmp .ge 4, 3) := by decide +kernel
theorem dX0_assign_11 : decode cX0_assign 11 = .ok (.return_, 1) := by decide +kernel
theorem dX0_assign_12 : decode cX0_assign 12 = .ok (.aload_n 0, 1) := by decide +kernel
theorem dX0_assign_13 : decode cX0_assign 13 = .ok (.iload_n 1, 1) := by decide +kernel
theorem dX0_assign_14 : decode cX0_assign 14 = .ok (.iload_n 3, 1) := by decide +kernel
theorem dX0_assign_15 : decode cX0_assign 15 = .ok (.idiv, 1) := by decide +kernel
theorem dX0_assign_16 : decode cX0_assign 16 = .ok (.putfield 7, 3) := by decide +kernel
theorem dX0_assign_19 : decode cX0_assign 19 = .ok (.aload_n 0, 1) := by decide +kernel
theorem dX0_assign_20 : decode cX0_assign 20 = .ok (.iload_n 2, 1) := by decide +kernel
theorem dX0_assign_21 : decode cX0_assign 21 = .ok (.iload_n 3, 1) := by decide +kernel
theorem dX0_assign_22 : decode cX0_assign 22 = .ok (.idiv, 1) := by decide +kernel
theorem dX0_assign_23 : decode cX0_assign 23 = .ok (.putfield 13, 3) := by decide +kernel
theorem dX0_assign_26 : decode cX0_assign 26 = .ok (.return_, 1) := by decide +kernel
theorem dX0_isBelow_0 : decode cX0_isBelow 0 = .ok (.aload_n 0, 1) := by decide +kernel
theorem dX0_isBelow_1 : decode cX0_isBelow 1 = .ok (.getfield 7, 3) := by decide +kernel
theorem dX0_isBelow_4 : decode cX0_isBelow 4 = .ok (.i2l, 1) := by decide +kernel
theorem dX0_isBelow_5 : decode cX0_isBelow 5 = .ok (.iload_n 2, 1) := by decide +kernel
theorem dX0_isBelow_6 : decode cX0_isBelow 6 = .ok (.i2l, 1) := by decide +kernel
theorem dX0_isBelow_7 : decode cX0_isBelow 7 = .ok (.lmul, 1) := by decide +kernel
theorem dX0_isBelow_8 : decode cX0_isBelow 8 = .ok (.iload_n 1, 1) := by decide +kernel
theorem dX0_isBelow_9 : decode cX0_isBelow 9 = .ok (.i2l, 1) := by decide +kernel
theorem dX0_isBelow_10 : decode cX0_isBelow 10 = .ok (.aload_n 0, 1) := by decide +kernel
theorem dX0_isBelow_11 : decode cX0_isBelow 11 = .ok (.getfield 13, 3) := by decide +kernel
theorem dX0_isBelow_14 : decode cX0_isBelow 14 = .ok (.i2l, 1) := by decide +kernel
theorem dX0_isBelow_15 : decode cX0_isBelow 15 = .ok (.lmul, 1) := by decide +kernel
theorem dX0_isBelow_16 : decode cX0_isBelow 16 = .ok (.lcmp, 1) := by decide +kernel
theorem dX0_isBelow_17 : decode cX0_isBelow 17 = .ok (.ifCond .ge 7, 3) := by decide +kernel
theorem dX0_isBelow_20 : decode cX0_isBelow 20 = .ok (.iconst 1, 1) := by decide +kernel
theorem dX0_isBelow_21 : decode cX0_isBelow 21 = .ok (.goto 4, 3) := by decide +kernel
theorem dX0_isBelow_24 : decode cX0_isBelow 24 = .ok (.iconst 0, 1) := by decide +kernel
theorem dX0_isBelow_25 : decode cX0_isBelow 25 = .ok (.ireturn, 1) := by decide +kernel
theorem dX0_part_0 : decode cX0_part 0 = .ok (.iload_n 1, 1) := by decide +kernel
theorem dX0_part_1 : decode cX0_part 1 = .ok (.ifCond .ne 10, 3) := by decide +kernel
theorem dX0_part_4 : decode cX0_part 4 = .ok (.aload_n 0, 1) := by decide +kernel
theorem dX0_part_5 : decode cX0_part 5 = .ok (.getfield 7, 3) := by decide +kernel
theorem dX0_part_8 : decode cX0_part 8 = .ok (.goto 7, 3) := by decide +kernel
theorem dX0_part_11 : decode cX0_part 11 = .ok (.aload_n 0, 1) := by decide +kernel
theorem dX0_part_12 : decode cX0_part 12 = .ok (.getfield 13, 3) := by decide +kernel
theorem dX0_part_15 : decode cX0_part 15 = .ok (.ireturn, 1) := by decide +kernel
theorem dX0_commonDivisor_0 : decode cX0_commonDivisor 0 = .ok (.iload_n 0, 1) := by decide +kernel
theorem dX0_commonDivisor_1 : decode cX0_commonDivisor 1 = .ok (.istore_n 2, 1) := by decide +kernel
theorem dX0_commonDivisor_2 : decode cX0_commonDivisor 2 = .ok (.iload_n 1, 1) := by decide +kernel
theorem dX0_commonDivisor_3 : decode cX0_commonDivisor 3 = .ok (.istore_n 3, 1) := by decide +kernel
theorem dX0_commonDivisor_4 : decode cX0_commonDivisor 4 = .ok (.iconst 0, 1) := by decide +kernel
theorem dX0_commonDivisor_5 : decode cX0_commonDivisor 5 = .ok (.istore 4, 2) := by decide +kernel
theorem dX0_commonDivisor_7 : decode cX0_commonDivisor 7 = .ok (.iload 4, 2) := by decide +kernel
theorem dX0_commonDivisor_9 : decode cX0_commonDivisor 9 = .ok (.bipush 64, 2) := by decide +kernel
theorem dX0_commonDivisor_11 : decode cX0_commonDivisor 11 = .ok (.if_icmp .ge 23, 3) := by decide +kernel
theorem dX0_commonDivisor_14 : decode cX0_commonDivisor 14 = .ok (.iload_n 3, 1) := by decide +kernel
theorem dX0_commonDivisor_15 : decode cX0_commonDivisor 15 = .ok (.ifCond .eq 19, 3) := by decide +kernel
theorem dX0_commonDivisor_18 : decode cX0_commonDivisor 18 = .ok (.iload_n 2, 1) := by decide +kernel
theorem dX0_commonDivisor_19 : decode cX0_commonDivisor 19 = .ok (.iload_n 3, 1) := by decide +kernel
theorem dX0_commonDivisor_20 : decode cX0_commonDivisor 20 = .ok (.irem, 1) := by decide +kernel
theorem dX0_commonDivisor_21 : decode cX0_commonDivisor 21 = .ok (.istore 5, 2) := by decide +kernel
theorem dX0_commonDivisor_23 : decode cX0_commonDivisor 23 = .ok (.iload_n 3, 1) := by decide +kernel
theorem dX0_commonDivisor_24 : decode cX0_commonDivisor 24 = .ok (.istore_n 2, 1) := by decide +kernel
theorem dX0_commonDivisor_25 : decode cX0_commonDivisor 25 = .ok (.iload 5, 2) := by decide +kernel
theorem dX0_commonDivisor_27 : decode cX0_commonDivisor 27 = .ok (.istore_n 3, 1) := by decide +kernel
theorem dX0_commonDivisor_28 : decode cX0_commonDivisor 28 = .ok (.iinc 4 1, 3) := by decide +kernel
theorem dX0_commonDivisor_31 : decode cX0_commonDivisor 31 = .ok (.goto (-24), 3) := by decide +kernel
theorem dX0_commonDivisor_34 : decode cX0_commonDivisor 34 = .ok (.iload_n 2, 1) := by decide +kernel
theorem dX0_commonDivisor_35 : decode cX0_commonDivisor 35 = .ok (.ireturn, 1) := by decide +kernel
theorem dX1_init_0 : decode cX1_init 0 = .ok (.aload_n 0, 1) := by decide +kernel
theorem dX1_init_1 : decode cX1_init 1 = .ok (.invokespecial 3, 3) := by decide +kernel
theorem dX1_init_4 : decode cX1_init 4 = .ok (.aload_n 0, 1) := by decide +kernel
theorem dX1_init_5 : decode cX1_init 5 = .ok (.new 9, 3) := by decide +kernel
theorem dX1_init_8 : decode cX1_init 8 = .ok (.dup, 1) := by decide +kernel
theorem dX1_init_9 : decode cX1_init 9 = .ok (.bipush 10, 2) := by decide +kernel
theorem dX1_init_11 : decode cX1_init 11 = .ok (.invokespecial 11, 3) := by decide +kernel
theorem dX1_init_14 : decode cX1_init 14 = .ok (.putfield 14, 3) := by decide +kernel
theorem dX1_init_17 : decode cX1_init 17 = .ok (.aload_n 0, 1) := by decide +kernel
theorem dX1_init_18 : decode cX1_init 18 = .ok (.iconst 0, 1) := by decide +kernel
theorem dX1_init_19 : decode cX1_init 19 = .ok (.putfield 20, 3) := by decide +kernel
theorem dX1_init_22 : decode cX1_init 22 = .ok (.aload_n 0, 1) := by decide +kernel
theorem dX1_init_23 : decode cX1_init 23 = .ok (.iconst 0, 1) := by decide +kernel
theorem dX1_init_24 : decode cX1_init 24 = .ok (.putfield 24, 3) := by decide +kernel
theorem dX1_init_27 : decode cX1_init 27 = .ok (.return_, 1) := by decide +kernel
theorem dX1_wipe_0 : decode cX1_wipe 0 = .ok (.aload_n 0, 1) := by decide +kernel
theorem dX1_wipe_1 : decode cX1_wipe 1 = .ok (.iconst 0, 1) := by decide +kernel
theorem dX1_wipe_2 : decode cX1_wipe 2 = .ok (.putfield 24, 3) := by decide +kernel
theorem dX1_wipe_5 : decode cX1_wipe 5 = .ok (.return_, 1) := by decide +kernel
theorem dX1_push_0 : decode cX1_push 0 = .ok (.aload_n 0, 1) := by decide +kernel
theorem dX1_push_1 : decode cX1_push 1 = .ok (.getfield 14, 3) := by decide +kernel
theorem dX1_push_4 : decode cX1_push 4 = .ok (.aload_n 0, 1) := by decide +kernel
theorem dX1_push_5 : decode cX1_push 5 = .ok (.getfield 20, 3) := by decide +kernel
theorem dX1_push_8 : decode cX1_push 8 = .ok (.aload_n 1, 1) := by decide +kernel
theorem dX1_push_9 : decode cX1_push 9 = .ok (.invokevirtual 27, 3) := by decide +kernel
theorem dX1_push_12 : decode cX1_push 12 = .ok (.aload_n 0, 1) := by decide +kernel
theorem dX1_push_13 : decode cX1_push 13 = .ok (.aload_n 0, 1) := by decide +kernel
theorem dX1_push_14 : decode cX1_push 14 = .ok (.getfield 20, 3) := by decide +kernel
theorem dX1_push_17 : decode cX1_push 17 = .ok (.iconst 1, 1) := by decide +kernel
theorem dX1_push_18 : decode cX1_push 18 = .ok (.iadd, 1) := by decide +kernel
theorem dX1_push_19 : decode cX1_push 19 = .ok (.bipush 10, 2) := by decide +kernel
theorem dX1_push_21 : decode cX1_push 21 = .ok (.if_icmp .ge 12, 3) := by decide +kernel
theorem dX1_push_24 : decode cX1_push 24 = .ok (.aload_n 0, 1) := by decide +kernel
theorem dX1_push_25 : decode cX1_push 25 = .ok (.getfield 20, 3) := by decide +kernel
theorem dX1_push_28 : decode cX1_push 28 = .ok (.iconst 1, 1) := by decide +kernel
theorem dX1_push_29 : decode cX1_push 29 = .ok (.iadd, 1) := by decide +kernel
theorem dX1_push_30 : decode cX1_push 30 = .ok (.goto 4, 3) := by decide +kernel
theorem dX1_push_33 : decode cX1_push 33 = .ok (.iconst 0, 1) := by decide +kernel
theorem dX1_push_34 : decode cX1_push 34 = .ok (.putfield 20, 3) := by decide +kernel
theorem dX1_push_37 : decode cX1_push 37 = .ok (.aload_n 0, 1) := by decide +kernel
theorem dX1_push_38 : decode cX1_push 38 = .ok (.aload_n 0, 1) := by decide +kernel
theorem dX1_push_39 : decode cX1_push 39 = .ok (.getfield 24, 3) := by decide +kernel
theorem dX1_push_42 : decode cX1_push 42 = .ok (.iconst 1, 1) := by decide +kernel
theorem dX1_push_43 : decode cX1_push 43 = .ok (.iadd, 1) := by decide +kernel
theorem dX1_push_44 : decode cX1_push 44 = .ok (.bipush 10, 2) := by decide +kernel
theorem dX1_push_46 : decode cX1_push 46 = .ok (.invokestatic 31, 3) := by decide +kernel
theorem dX1_push_49 : decode cX1_push 49 = .ok (.putfield 24, 3) := by decide +kernel
theorem dX1_push_52 : decode cX1_push 52 = .ok (.return_, 1) := by decide +kernel
theorem dX1_pop_0 : decode cX1_pop 0 = .ok (.aload_n 0, 1) := by decide +kernel
theorem dX1_pop_1 : decode cX1_pop 1 = .ok (.getfield 24, 3) := by decide +kernel
theorem dX1_pop_4 : decode cX1_pop 4 = .ok (.ifCond .ne 4, 3) := by decide +kernel
theorem dX1_pop_7 : decode cX1_pop 7 = .ok (.return_, 1) := by decide +kernel
theorem dX1_pop_8 : decode cX1_pop 8 = .ok (.aload_n 0, 1) := by decide +kernel
theorem dX1_pop_9 : decode cX1_pop 9 = .ok (.aload_n 0, 1) := by decide +kernel
theorem dX1_pop_10 : decode cX1_pop 10 = .ok (.getfield 20, 3) := by decide +kernel
theorem dX1_pop_13 : decode cX1_pop 13 = .ok (.ifCond .le 12, 3) := by decide +kernel
theorem dX1_pop_16 : decode cX1_pop 16 = .ok (.aload_n 0, 1) := by decide +kernel
theorem dX1_pop_17 : decode cX1_pop 17 = .ok (.getfield 20, 3) := by decide +kernel
theorem dX1_pop_20 : decode cX1_pop 20 = .ok (.iconst 1, 1) := by decide +kernel
theorem dX1_pop_21 : decode cX1_pop 21 = .ok (.isub, 1) := by decide +kernel
theorem dX1_pop_22 : decode cX1_pop 22 = .ok (.goto 5, 3) := by decide +kernel
theorem dX1_pop_25 : decode cX1_pop 25 = .ok (.bipush 9, 2) := by decide +kernel
theorem dX1_pop_27 : decode cX1_pop 27 = .ok (.putfield 20, 3) := by decide +kernel
theorem dX1_pop_30 : decode cX1_pop 30 = .ok (.aload_n 0, 1) := by decide +kernel
theorem dX1_pop_31 : decode cX1_pop 31 = .ok (.dup, 1) := by decide +kernel
theorem dX1_pop_32 : decode cX1_pop 32 = .ok (.getfield 24, 3) := by decide +kernel
theorem dX1_pop_35 : decode cX1_pop 35 = .ok (.iconst 1, 1) := by decide +kernel
theorem dX1_pop_36 : decode cX1_pop 36 = .ok (.isub, 1) := by decide +kernel
theorem dX1_pop_37 : decode cX1_pop 37 = .ok (.putfield 24, 3) := by decide +kernel
theorem dX1_pop_40 : decode cX1_pop 40 = .ok (.aload_n 0, 1) := by decide +kernel
theorem dX1_pop_41 : decode cX1_pop 41 = .ok (.getfield 14, 3) := by decide +kernel
theorem dX1_pop_44 : decode cX1_pop 44 = .ok (.aload_n 0, 1) := by decide +kernel
theorem dX1_pop_45 : decode cX1_pop 45 = .ok (.getfield 20, 3) := by decide +kernel
theorem dX1_pop_48 : decode cX1_pop 48 = .ok (.aload_n 1, 1) := by decide +kernel
theorem dX1_pop_49 : decode cX1_pop 49 = .ok (.invokevirtual 37, 3) := by decide +kernel
theorem dX1_pop_52 : decode cX1_pop 52 = .ok (.return_, 1) := by decide +kernel
theorem dX2_init_0 : decode cX2_init 0 = .ok (.aload_n 0, 1) := by decide +kernel
theorem dX2_init_1 : decode cX2_init 1 = .ok (.invokespecial 3, 3) := by decide +kernel
theorem dX2_init_4 : decode cX2_init 4 = .ok (.aload_n 0, 1) := by decide +kernel
theorem dX2_init_5 : decode cX2_init 5 = .ok (.aload_n 1, 1) := by decide +kernel
theorem dX2_init_6 : decode cX2_init 6 = .ok (.putfield 9, 3) := by decide +kernel
theorem dX2_init_9 : decode cX2_init 9 = .ok (.aload_n 0, 1) := by decide +kernel
theorem dX2_init_10 : decode cX2_init 10 = .ok (.bipush 14, 2) := by decide +kernel
theorem dX2_init_12 : decode cX2_init 12 = .ok (.newarray .int, 2) := by decide +kernel
theorem dX2_init_14 : decode cX2_init 14 = .ok (.putfield 15, 3) := by decide +kernel
theorem dX2_init_17 : decode cX2_init 17 = .ok (.aload_n 0, 1) := by decide +kernel
theorem dX2_init_18 : decode cX2_init 18 = .ok (.sipush 196, 3) := by decide +kernel
theorem dX2_init_21 : decode cX2_init 21 = .ok (.newarray .int, 2) := by decide +kernel
theorem dX2_init_23 : decode cX2_init 23 = .ok (.putfield 19, 3) := by decide +kernel
theorem dX2_init_26 : decode cX2_init 26 = .ok (.aload_n 0, 1) := by decide +kernel
theorem dX2_init_27 : decode cX2_init 27 = .ok (.iconst 0, 1) := by decide +kernel
theorem dX2_init_28 : decode cX2_init 28 = .ok (.putfield 22, 3) := by decide +kernel
theorem dX2_init_31 : decode cX2_init 31 = .ok (.return_, 1) := by decide +kernel
theorem dX2_measureAll_0 : decode cX2_measureAll 0 = .ok (.aload_n 0, 1) := by decide +kernel
theorem dX2_measureAll_1 : decode cX2_measureAll 1 = .ok (.iconst 0, 1) := by decide +kernel
theorem dX2_measureAll_2 : decode cX2_measureAll 2 = .ok (.putfield 22, 3) := by decide +kernel
theorem dX2_measureAll_5 : decode cX2_measureAll 5 = .ok (.iconst 0, 1) := by decide +kernel
theorem dX2_measureAll_6 : decode cX2_measureAll 6 = .ok (.istore_n 1, 1) := by decide +kernel
theorem dX2_measureAll_7 : decode cX2_measureAll 7 = .ok (.iload_n 1, 1) := by decide +kernel
theorem dX2_measureAll_8 : decode cX2_measureAll 8 = .ok (.aload_n 0, 1) := by decide +kernel
theorem dX2_measureAll_9 : decode cX2_measureAll 9 = .ok (.getfield 9, 3) := by decide +kernel
theorem dX2_measureAll_12 : decode cX2_measureAll 12 = .ok (.getfield 26, 3) := by decide +kernel
theorem dX2_measureAll_15 : decode cX2_measureAll 15 = .ok (.if_icmp .ge 69, 3) := by decide +kernel
theorem dX2_measureAll_18 : decode cX2_measureAll 18 = .ok (.iload_n 1, 1) := by decide +kernel
theorem dX2_measureAll_19 : decode cX2_measureAll 19 = .ok (.bipush 14, 2) := by decide +kernel
theorem dX2_measureAll_21 : decode cX2_measureAll 21 = .ok (.if_icmp .ge 63, 3) := by decide +kernel
theorem dX2_measureAll_24 : decode cX2_measureAll 24 = .ok (.aload_n 0, 1) := by decide +kernel
theorem dX2_measureAll_25 : decode cX2_measureAll 25 = .ok (.getfield 9, 3) := by decide +kernel
theorem dX2_measureAll_28 : decode cX2_measureAll 28 = .ok (.iload_n 1, 1) := by decide +kernel
theorem dX2_measureAll_29 : decode cX2_measureAll 29 = .ok (.invokevirtual 31, 3) := by decide +kernel
theorem dX2_measureAll_32 : decode cX2_measureAll 32 = .ok (.ifCond .eq 13, 3) := by decide +kernel
theorem dX2_measureAll_35 : decode cX2_measureAll 35 = .ok (.aload_n 0, 1) := by decide +kernel
theorem dX2_measureAll_36 : decode cX2_measureAll 36 = .ok (.dup, 1) := by decide +kernel
theorem dX2_measureAll_37 : decode cX2_measureAll 37 = .ok (.getfield 22, 3) := by decide +kernel
theorem dX2_measureAll_40 : decode cX2_measureAll 40 = .ok (.iconst 1, 1) := by decide +kernel
theorem dX2_measureAll_41 : decode cX2_measureAll 41 = .ok (.iadd, 1) := by decide +kernel
theorem dX2_measureAll_42 : decode cX2_measureAll 42 = .ok (.putfield 22, 3) := by decide +kernel
theorem dX2_measureAll_45 : decode cX2_measureAll 45 = .ok (.aload_n 0, 1) := by decide +kernel
theorem dX2_measureAll_46 : decode cX2_measureAll 46 = .ok (.getfield 15, 3) := by decide +kernel
theorem dX2_measureAll_49 : decode cX2_measureAll 49 = .ok (.iload_n 1, 1) := by decide +kernel
theorem dX2_measureAll_50 : decode cX2_measureAll 50 = .ok (.aload_n 0, 1) := by decide +kernel
theorem dX2_measureAll_51 : decode cX2_measureAll 51 = .ok (.getfield 9, 3) := by decide +kernel
theorem dX2_measureAll_54 : decode cX2_measureAll 54 = .ok (.iload_n 1, 1) := by decide +kernel
theorem dX2_measureAll_55 : decode cX2_measureAll 55 = .ok (.invokevirtual 35, 3) := by decide +kernel
theorem dX2_measureAll_58 : decode cX2_measureAll 58 = .ok (.ifCond .eq 12, 3) := by decide +kernel
theorem dX2_measureAll_61 : decode cX2_measureAll 61 = .ok (.aload_n 0, 1) := by decide +kernel
theorem dX2_measureAll_62 : decode cX2_measureAll 62 = .ok (.getfield 22, 3) := by decide +kernel
theorem dX2_measureAll_65 : decode cX2_measureAll 65 = .ok (.iconst 1, 1) := by decide +kernel
theorem dX2_measureAll_66 : decode cX2_measureAll 66 = .ok (.isub, 1) := by decide +kernel
theorem dX2_measureAll_67 : decode cX2_measureAll 67 = .ok (.goto 5, 3) := by decide +kernel
theorem dX2_measureAll_70 : decode cX2_measureAll 70 = .ok (.bipush (-9), 2) := by decide +kernel
theorem dX2_measureAll_72 : decode cX2_measureAll 72 = .ok (.iastore, 1) := by decide +kernel
theorem dX2_measureAll_73 : decode cX2_measureAll 73 = .ok (.aload_n 0, 1) := by decide +kernel
theorem dX2_measureAll_74 : decode cX2_measureAll 74 = .ok (.iload_n 1, 1) := by decide +kernel
theorem dX2_measureAll_75 : decode cX2_measureAll 75 = .ok (.invokevirtual 38, 3) := by decide +kernel
theorem dX2_measureAll_78 : decode cX2_measureAll 78 = .ok (.iinc 1 1, 3) := by decide +kernel
theorem dX2_measureAll_81 : decode cX2_measureAll 81 = .ok (.goto (-74), 3) := by decide +kernel
theorem dX2_measureAll_84 : decode cX2_measureAll 84 = .ok (.return_, 1) := by decide +kernel
theorem dX2_measureNeedsFrom_0 : decode cX2_measureNeedsFrom 0 = .ok (.aload_n 0, 1) := by decide +kernel
theorem dX2_measureNeedsFrom_1 : decode cX2_measureNeedsFrom 1 = .ok (.getfield 9, 3) := by decide +kernel
theorem dX2_measureNeedsFrom_4 : decode cX2_measureNeedsFrom 4 = .ok (.iload_n 1, 1) := by decide +kernel
theorem dX2_measureNeedsFrom_5 : decode cX2_measureNeedsFrom 5 = .ok (.invokevirtual 35, 3) := by decide +kernel
theorem dX2_measureNeedsFrom_8 : decode cX2_measureNeedsFrom 8 = .ok (.ifCond .ne 4, 3) := by decide +kernel
theorem dX2_measureNeedsFrom_11 : decode cX2_measureNeedsFrom 11 = .ok (.return_, 1) := by decide +kernel
theorem dX2_measureNeedsFrom_12 : decode cX2_measureNeedsFrom 12 = .ok (.iload_n 1, 1) := by decide +kernel
theorem dX2_measureNeedsFrom_13 : decode cX2_measureNeedsFrom 13 = .ok (.iconst 1, 1) := by decide +kernel
theorem dX2_measureNeedsFrom_14 : decode cX2_measureNeedsFrom 14 = .ok (.iadd, 1) := by decide +kernel
theorem dX2_measureNeedsFrom_15 : decode cX2_measureNeedsFrom 15 = .ok (.istore_n 2, 1) := by decide +kernel
theorem dX2_measureNeedsFrom_16 : decode cX2_measureNeedsFrom 16 = .ok (.iload_n 2, 1) := by decide +kernel
theorem dX2_measureNeedsFrom_17 : decode cX2_measureNeedsFrom 17 = .ok (.bipush 14, 2) := by decide +kernel
theorem dX2_measureNeedsFrom_19 : decode cX2_measureNeedsFrom 19 = .ok (.if_icmp .ge 88, 3) := by decide +kernel
theorem dX2_measureNeedsFrom_22 : decode cX2_measureNeedsFrom 22 = .ok (.aload_n 0, 1) := by decide +kernel
theorem dX2_measureNeedsFrom_23 : decode cX2_measureNeedsFrom 23 = .ok (.getfield 9, 3) := by decide +kernel
theorem dX2_measureNeedsFrom_26 : decode cX2_measureNeedsFrom 26 = .ok (.iload_n 2, 1) := by decide +kernel
theorem dX2_measureNeedsFrom_27 : decode cX2_measureNeedsFrom 27 = .ok (.invokevirtual 35, 3) := by decide +kernel
theorem dX2_measureNeedsFrom_30 : decode cX2_measureNeedsFrom 30 = .ok (.ifCond .eq 77, 3) := by decide +kernel
theorem dX2_measureNeedsFrom_33 : decode cX2_measureNeedsFrom 33 = .ok (.aload_n 0, 1) := by decide +kernel
theorem dX2_measureNeedsFrom_34 : decode cX2_measureNeedsFrom 34 = .ok (.iload_n 1, 1) := by decide +kernel
theorem dX2_measureNeedsFrom_35 : decode cX2_measureNeedsFrom 35 = .ok (.iload_n 2, 1) := by decide +kernel
theorem dX2_measureNeedsFrom_36 : decode cX2_measureNeedsFrom 36 = .ok (.invokevirtual 42, 3) := by decide +kernel
theorem dX2_measureNeedsFrom_39 : decode cX2_measureNeedsFrom 39 = .ok (.istore_n 3, 1) := by decide +kernel
theorem dX2_measureNeedsFrom_40 : decode cX2_measureNeedsFrom 40 = .ok (.aload_n 0, 1) := by decide +kernel
theorem dX2_measureNeedsFrom_41 : decode cX2_measureNeedsFrom 41 = .ok (.iload_n 1, 1) := by decide +kernel
theorem dX2_measureNeedsFrom_42 : decode cX2_measureNeedsFrom 42 = .ok (.iload_n 2, 1) := by decide +kernel
theorem dX2_measureNeedsFrom_43 : decode cX2_measureNeedsFrom 43 = .ok (.invokevirtual 46, 3) := by decide +kernel
theorem dX2_measureNeedsFrom_46 : decode cX2_measureNeedsFrom 46 = .ok (.istore 4, 2) := by decide +kernel
theorem dX2_measureNeedsFrom_48 : decode cX2_measureNeedsFrom 48 = .ok (.iload_n 3, 1) := by decide +kernel
theorem dX2_measureNeedsFrom_49 : decode cX2_measureNeedsFrom 49 = .ok (.bipush (-9), 2) := by decide +kernel
theorem dX2_measureNeedsFrom_51 : decode cX2_measureNeedsFrom 51 = .ok (.if_icmp .eq 12, 3) := by decide +kernel
theorem dX2_measureNeedsFrom_54 : decode cX2_measureNeedsFrom 54 = .ok (.iload 4, 2) := by decide +kernel
theorem dX2_measureNeedsFrom_56 : decode cX2_measureNeedsFrom 56 = .ok (.ifCond .le 7, 3) := by decide +kernel
theorem dX2_measureNeedsFrom_59 : decode cX2_measureNeedsFrom 59 = .ok (.iconst 1, 1) := by decide +kernel
theorem dX2_measureNeedsFrom_60 : decode cX2_measureNeedsFrom 60 = .ok (.goto 4, 3) := by decide +kernel
theorem dX2_measureNeedsFrom_63 : decode cX2_measureNeedsFrom 63 = .ok (.iconst 0, 1) := by decide +kernel
theorem dX2_measureNeedsFrom_64 : decode cX2_measureNeedsFrom 64 = .ok (.istore 5, 2) := by decide +kernel
theorem dX2_measureNeedsFrom_66 : decode cX2_measureNeedsFrom 66 = .ok (.aload_n 0, 1) := by decide +kernel
theorem dX2_measureNeedsFrom_67 : decode cX2_measureNeedsFrom 67 = .ok (.getfield 19, 3) := by decide +kernel
theorem dX2_measureNeedsFrom_70 : decode cX2_measureNeedsFrom 70 = .ok (.iload_n 1, 1) := by decide +kernel
theorem dX2_measureNeedsFrom_71 : decode cX2_measureNeedsFrom 71 = .ok (.bipush 14, 2) := by decide +kernel
theorem dX2_measureNeedsFrom_73 : decode cX2_measureNeedsFrom 73 = .ok (.imul, 1) := by decide +kernel
theorem dX2_measureNeedsFrom_74 : decode cX2_measureNeedsFrom 74 = .ok (.iload_n 2, 1) := by decide +kernel
theorem dX2_measureNeedsFrom_75 : decode cX2_measureNeedsFrom 75 = .ok (.iadd, 1) := by decide +kernel
theorem dX2_measureNeedsFrom_76 : decode cX2_measureNeedsFrom 76 = .ok (.iload 5, 2) := by decide +kernel
theorem dX2_measureNeedsFrom_78 : decode cX2_measureNeedsFrom 78 = .ok (.ifCond .eq 21, 3) := by decide +kernel
theorem dX2_measureNeedsFrom_81 : decode cX2_measureNeedsFrom 81 = .ok (.aload_n 0, 1) := by decide +kernel
theorem dX2_measureNeedsFrom_82 : decode cX2_measureNeedsFrom 82 = .ok (.iload_n 1, 1) := by decide +kernel
theorem dX2_measureNeedsFrom_83 : decode cX2_measureNeedsFrom 83 = .ok (.iload_n 3, 1) := by decide +kernel
theorem dX2_measureNeedsFrom_84 : decode cX2_measureNeedsFrom 84 = .ok (.iload_n 2, 1) := by decide +kernel
theorem dX2_measureNeedsFrom_85 : decode cX2_measureNeedsFrom 85 = .ok (.invokevirtual 49, 3) := by decide +kernel
theorem dX2_measureNeedsFrom_88 : decode cX2_measureNeedsFrom 88 = .ok (.iload 4, 2) := by decide +kernel
theorem dX2_measureNeedsFrom_90 : decode cX2_measureNeedsFrom 90 = .ok (.iadd, 1) := by decide +kernel
theorem dX2_measureNeedsFrom_91 : decode cX2_measureNeedsFrom 91 = .ok (.iconst 1, 1) := by decide +kernel
theorem dX2_measureNeedsFrom_92 : decode cX2_measureNeedsFrom 92 = .ok (.isub, 1) := by decide +kernel
theorem dX2_measureNeedsFrom_93 : decode cX2_measureNeedsFrom 93 = .ok (.iload 4, 2) := by decide +kernel
theorem dX2_measureNeedsFrom_95 : decode cX2_measureNeedsFrom 95 = .ok (.idiv, 1) := by decide +kernel
theorem dX2_measureNeedsFrom_96 : decode cX2_measureNeedsFrom 96 = .ok (.goto 4, 3) := by decide +kernel
theorem dX2_measureNeedsFrom_99 : decode cX2_measureNeedsFrom 99 = .ok (.iconst 0, 1) := by decide +kernel
theorem dX2_measureNeedsFrom_100 : decode cX2_measureNeedsFrom 100 = .ok (.iastore, 1) := by decide +kernel
theorem dX2_measureNeedsFrom_101 : decode cX2_measureNeedsFrom 101 = .ok (.iinc 2 1, 3) := by decide +kernel
theorem dX2_measureNeedsFrom_104 : decode cX2_measureNeedsFrom 104 = .ok (.goto (-88), 3) := by decide +kernel
theorem dX2_measureNeedsFrom_107 : decode cX2_measureNeedsFrom 107 = .ok (.return_, 1) := by decide +kernel
theorem dX2_stretchAt_0 : decode cX2_stretchAt 0 = .ok (.aload_n 0, 1) := by decide +kernel
theorem dX2_stretchAt_1 : decode cX2_stretchAt 1 = .ok (.getfield 9, 3) := by decide +kernel
theorem dX2_stretchAt_4 : decode cX2_stretchAt 4 = .ok (.iload_n 1, 1) := by decide +kernel
theorem dX2_stretchAt_5 : decode cX2_stretchAt 5 = .ok (.invokevirtual 53, 3) := by decide +kernel
theorem dX2_stretchAt_8 : decode cX2_stretchAt 8 = .ok (.ifCond .eq 18, 3) := by decide +kernel
theorem dX2_stretchAt_11 : decode cX2_stretchAt 11 = .ok (.iload_n 1, 1) := by decide +kernel
theorem dX2_stretchAt_12 : decode cX2_stretchAt 12 = .ok (.bipush 14, 2) := by decide +kernel
theorem dX2_stretchAt_14 : decode cX2_stretchAt 14 = .ok (.if_icmp .ge 12, 3) := by decide +kernel
theorem dX2_stretchAt_17 : decode cX2_stretchAt 17 = .ok (.aload_n 0, 1) := by decide +kernel
theorem dX2_stretchAt_18 : decode cX2_stretchAt 18 = .ok (.getfield 15, 3) := by decide +kernel
theorem dX2_stretchAt_21 : decode cX2_stretchAt 21 = .ok (.iload_n 1, 1) := by decide +kernel
theorem dX2_stretchAt_22 : decode cX2_stretchAt 22 = .ok (.iaload, 1) := by decide +kernel
theorem dX2_stretchAt_23 : decode cX2_stretchAt 23 = .ok (.goto 5, 3) := by decide +kernel
theorem dX2_stretchAt_26 : decode cX2_stretchAt 26 = .ok (.bipush (-9), 2) := by decide +kernel
theorem dX2_stretchAt_28 : decode cX2_stretchAt 28 = .ok (.ireturn, 1) := by decide +kernel
theorem dX2_needOf_0 : decode cX2_needOf 0 = .ok (.iload_n 1, 1) := by decide +kernel
theorem dX2_needOf_1 : decode cX2_needOf 1 = .ok (.ifCond .lt 18, 3) := by decide +kernel
theorem dX2_needOf_4 : decode cX2_needOf 4 = .ok (.iload_n 1, 1) := by decide +kernel
theorem dX2_needOf_5 : decode cX2_needOf 5 = .ok (.iload_n 2, 1) := by decide +kernel
theorem dX2_needOf_6 : decode cX2_needOf 6 = .ok (.if_icmp .ge 13, 3) := by decide +kernel
theorem dX2_needOf_9 : decode cX2_needOf 9 = .ok (.iload_n 2, 1) := by decide +kernel
theorem dX2_needOf_10 : decode cX2_needOf 10 = .ok (.bipush 14, 2) := by decide +kernel
theorem dX2_needOf_12 : decode cX2_needOf 12 = .ok (.if_icmp .ge 7, 3) := by decide +kernel
theorem dX2_needOf_15 : decode cX2_needOf 15 = .ok (.iconst 1, 1) := by decide +kernel
theorem dX2_needOf_16 : decode cX2_needOf 16 = .ok (.goto 4, 3) := by decide +kernel
theorem dX2_needOf_19 : decode cX2_needOf 19 = .ok (.iconst 0, 1) := by decide +kernel
theorem dX2_needOf_20 : decode cX2_needOf 20 = .ok (.istore_n 3, 1) := by decide +kernel
theorem dX2_needOf_21 : decode cX2_needOf 21 = .ok (.iload_n 3, 1) := by decide +kernel
theorem dX2_needOf_22 : decode cX2_needOf 22 = .ok (.ifCond .eq 17, 3) := by decide +kernel
theorem dX2_needOf_25 : decode cX2_needOf 25 = .ok (.aload_n 0, 1) := by decide +kernel
theorem dX2_needOf_26 : decode cX2_needOf 26 = .ok (.getfield 19, 3) := by decide +kernel
theorem dX2_needOf_29 : decode cX2_needOf 29 = .ok (.iload_n 1, 1) := by decide +kernel
theorem dX2_needOf_30 : decode cX2_needOf 30 = .ok (.bipush 14, 2) := by decide +kernel
theorem dX2_needOf_32 : decode cX2_needOf 32 = .ok (.imul, 1) := by decide +kernel
theorem dX2_needOf_33 : decode cX2_needOf 33 = .ok (.iload_n 2, 1) := by decide +kernel
theorem dX2_needOf_34 : decode cX2_needOf 34 = .ok (.iadd, 1) := by decide +kernel
theorem dX2_needOf_35 : decode cX2_needOf 35 = .ok (.iaload, 1) := by decide +kernel
theorem dX2_needOf_36 : decode cX2_needOf 36 = .ok (.goto 4, 3) := by decide +kernel
theorem dX2_needOf_39 : decode cX2_needOf 39 = .ok (.iconst 0, 1) := by decide +kernel
theorem dX2_needOf_40 : decode cX2_needOf 40 = .ok (.ireturn, 1) := by decide +kernel
theorem dX2_span_0 : decode cX2_span 0 = .ok (.aload_n 0, 1) := by decide +kernel
theorem dX2_span_1 : decode cX2_span 1 = .ok (.getfield 9, 3) := by decide +kernel
theorem dX2_span_4 : decode cX2_span 4 = .ok (.iload_n 2, 1) := by decide +kernel
theorem dX2_span_5 : decode cX2_span 5 = .ok (.invokevirtual 56, 3) := by decide +kernel
theorem dX2_span_8 : decode cX2_span 8 = .ok (.aload_n 0, 1) := by decide +kernel
theorem dX2_span_9 : decode cX2_span 9 = .ok (.getfield 9, 3) := by decide +kernel
theorem dX2_span_12 : decode cX2_span 12 = .ok (.iload_n 1, 1) := by decide +kernel
theorem dX2_span_13 : decode cX2_span 13 = .ok (.invokevirtual 56, 3) := by decide +kernel
theorem dX2_span_16 : decode cX2_span 16 = .ok (.isub, 1) := by decide +kernel
theorem dX2_span_17 : decode cX2_span 17 = .ok (.ireturn, 1) := by decide +kernel
theorem dX2_offset_0 : decode cX2_offset 0 = .ok (.aload_n 0, 1) := by decide +kernel
theorem dX2_offset_1 : decode cX2_offset 1 = .ok (.getfield 9, 3) := by decide +kernel
theorem dX2_offset_4 : decode cX2_offset 4 = .ok (.iload_n 1, 1) := by decide +kernel
theorem dX2_offset_5 : decode cX2_offset 5 = .ok (.invokevirtual 53, 3) := by decide +kernel
theorem dX2_offset_8 : decode cX2_offset 8 = .ok (.ifCond .eq 25, 3) := by decide +kernel
theorem dX2_offset_11 : decode cX2_offset 11 = .ok (.aload_n 0, 1) := by decide +kernel
theorem dX2_offset_12 : decode cX2_offset 12 = .ok (.getfield 9, 3) := by decide +kernel
theorem dX2_offset_15 : decode cX2_offset 15 = .ok (.iload_n 2, 1) := by decide +kernel
theorem dX2_offset_16 : decode cX2_offset 16 = .ok (.invokevirtual 53, 3) := by decide +kernel
theorem dX2_offset_19 : decode cX2_offset 19 = .ok (.ifCond .eq 14, 3) := by decide +kernel
theorem dX2_offset_22 : decode cX2_offset 22 = .ok (.aload_n 0, 1) := by decide +kernel
theorem dX2_offset_23 : decode cX2_offset 23 = .ok (.getfield 9, 3) := by decide +kernel
theorem dX2_offset_26 : decode cX2_offset 26 = .ok (.iload_n 3, 1) := by decide +kernel
theorem dX2_offset_27 : decode cX2_offset 27 = .ok (.invokevirtual 53, 3) := by decide +kernel
theorem dX2_offset_30 : decode cX2_offset 30 = .ok (.ifCond .ne 5, 3) := by decide +kernel
theorem dX2_offset_33 : decode cX2_offset 33 = .ok (.iconst 0, 1) := by decide +kernel
theorem dX2_offset_34 : decode cX2_offset 34 = .ok (.ireturn, 1) := by decide +kernel
theorem dX2_offset_35 : decode cX2_offset 35 = .ok (.aload_n 0, 1) := by decide +kernel
theorem dX2_offset_36 : decode cX2_offset 36 = .ok (.getfield 9, 3) := by decide +kernel
theorem dX2_offset_39 : decode cX2_offset 39 = .ok (.getfield 60, 3) := by decide +kernel
theorem dX2_offset_42 : decode cX2_offset 42 = .ok (.iload_n 2, 1) := by decide +kernel
theorem dX2_offset_43 : decode cX2_offset 43 = .ok (.iaload, 1) := by decide +kernel
theorem dX2_offset_44 : decode cX2_offset 44 = .ok (.aload_n 0, 1) := by decide +kernel
theorem dX2_offset_45 : decode cX2_offset 45 = .ok (.getfield 9, 3) := by decide +kernel
theorem dX2_offset_48 : decode cX2_offset 48 = .ok (.getfield 60, 3) := by decide +kernel
theorem dX2_offset_51 : decode cX2_offset 51 = .ok (.iload_n 1, 1) := by decide +kernel
theorem dX2_offset_52 : decode cX2_offset 52 = .ok (.iaload, 1) := by decide +kernel
theorem dX2_offset_53 : decode cX2_offset 53 = .ok (.isub, 1) := by decide +kernel
theorem dX2_offset_54 : decode cX2_offset 54 = .ok (.aload_n 0, 1) := by decide +kernel
theorem dX2_offset_55 : decode cX2_offset 55 = .ok (.getfield 9, 3) := by decide +kernel
theorem dX2_offset_58 : decode cX2_offset 58 = .ok (.getfield 63, 3) := by decide +kernel
theorem dX2_offset_61 : decode cX2_offset 61 = .ok (.iload_n 3, 1) := by decide +kernel
theorem dX2_offset_62 : decode cX2_offset 62 = .ok (.iaload, 1) := by decide +kernel
theorem dX2_offset_63 : decode cX2_offset 63 = .ok (.aload_n 0, 1) := by decide +kernel
theorem dX2_offset_64 : decode cX2_offset 64 = .ok (.getfield 9, 3) := by decide +kernel
theorem dX2_offset_67 : decode cX2_offset 67 = .ok (.getfield 63, 3) := by decide +kernel
theorem dX2_offset_70 : decode cX2_offset 70 = .ok (.iload_n 1, 1) := by decide +kernel
theorem dX2_offset_71 : decode cX2_offset 71 = .ok (.iaload, 1) := by decide +kernel
theorem dX2_offset_72 : decode cX2_offset 72 = .ok (.isub, 1) := by decide +kernel
theorem dX2_offset_73 : decode cX2_offset 73 = .ok (.imul, 1) := by decide +kernel
theorem dX2_offset_74 : decode cX2_offset 74 = .ok (.istore 4, 2) := by decide +kernel
theorem dX2_offset_76 : decode cX2_offset 76 = .ok (.aload_n 0, 1) := by decide +kernel
theorem dX2_offset_77 : decode cX2_offset 77 = .ok (.getfield 9, 3) := by decide +kernel
theorem dX2_offset_80 : decode cX2_offset 80 = .ok (.getfield 60, 3) := by decide +kernel
theorem dX2_offset_83 : decode cX2_offset 83 = .ok (.iload_n 3, 1) := by decide +kernel
theorem dX2_offset_84 : decode cX2_offset 84 = .ok (.iaload, 1) := by decide +kernel
theorem dX2_offset_85 : decode cX2_offset 85 = .ok (.aload_n 0, 1) := by decide +kernel
theorem dX2_offset_86 : decode cX2_offset 86 = .ok (.getfield 9, 3) := by decide +kernel
theorem dX2_offset_89 : decode cX2_offset 89 = .ok (.getfield 60, 3) := by decide +kernel
theorem dX2_offset_92 : decode cX2_offset 92 = .ok (.iload_n 1, 1) := by decide +kernel
theorem dX2_offset_93 : decode cX2_offset 93 = .ok (.iaload, 1) := by decide +kernel
theorem dX2_offset_94 : decode cX2_offset 94 = .ok (.isub, 1) := by decide +kernel
theorem dX2_offset_95 : decode cX2_offset 95 = .ok (.aload_n 0, 1) := by decide +kernel
theorem dX2_offset_96 : decode cX2_offset 96 = .ok (.getfield 9, 3) := by decide +kernel
theorem dX2_offset_99 : decode cX2_offset 99 = .ok (.getfield 63, 3) := by decide +kernel
theorem dX2_offset_102 : decode cX2_offset 102 = .ok (.iload_n 2, 1) := by decide +kernel
theorem dX2_offset_103 : decode cX2_offset 103 = .ok (.iaload, 1) := by decide +kernel
theorem dX2_offset_104 : decode cX2_offset 104 = .ok (.aload_n 0, 1) := by decide +kernel
theorem dX2_offset_105 : decode cX2_offset 105 = .ok (.getfield 9, 3) := by decide +kernel
theorem dX2_offset_108 : decode cX2_offset 108 = .ok (.getfield 63, 3) := by decide +kernel
theorem dX2_offset_111 : decode cX2_offset 111 = .ok (.iload_n 1, 1) := by decide +kernel
theorem dX2_offset_112 : decode cX2_offset 112 = .ok (.iaload, 1) := by decide +kernel
theorem dX2_offset_113 : decode cX2_offset 113 = .ok (.isub, 1) := by decide +kernel
theorem dX2_offset_114 : decode cX2_offset 114 = .ok (.imul, 1) := by decide +kernel
theorem dX2_offset_115 : decode cX2_offset 115 = .ok (.istore 5, 2) := by decide +kernel
theorem dX2_offset_117 : decode cX2_offset 117 = .ok (.iload 4, 2) := by decide +kernel
theorem dX2_offset_119 : decode cX2_offset 119 = .ok (.iload 5, 2) := by decide +kernel
theorem dX2_offset_121 : decode cX2_offset 121 = .ok (.isub, 1) := by decide +kernel
theorem dX2_offset_122 : decode cX2_offset 122 = .ok (.invokestatic 66, 3) := by decide +kernel
theorem dX2_offset_125 : decode cX2_offset 125 = .ok (.ireturn, 1) := by decide +kernel
theorem dX2_farthest_0 : decode cX2_farthest 0 = .ok (.bipush (-9), 2) := by decide +kernel
theorem dX2_farthest_2 : decode cX2_farthest 2 = .ok (.istore_n 3, 1) := by decide +kernel
theorem dX2_farthest_3 : decode cX2_farthest 3 = .ok (.iconst (-1), 1) := by decide +kernel
theorem dX2_farthest_4 : decode cX2_farthest 4 = .ok (.istore 4, 2) := by decide +kernel
theorem dX2_farthest_6 : decode cX2_farthest 6 = .ok (.iload_n 1, 1) := by decide +kernel
theorem dX2_farthest_7 : decode cX2_farthest 7 = .ok (.iconst 1, 1) := by decide +kernel
theorem dX2_farthest_8 : decode cX2_farthest 8 = .ok (.iadd, 1) := by decide +kernel
theorem dX2_farthest_9 : decode cX2_farthest 9 = .ok (.istore 5, 2) := by decide +kernel
theorem dX2_farthest_11 : decode cX2_farthest 11 = .ok (.iload 5, 2) := by decide +kernel
theorem dX2_farthest_13 : decode cX2_farthest 13 = .ok (.iload_n 2, 1) := by decide +kernel
theorem dX2_farthest_14 : decode cX2_farthest 14 = .ok (.if_icmp .ge 33, 3) := by decide +kernel
theorem dX2_farthest_17 : decode cX2_farthest 17 = .ok (.aload_n 0, 1) := by decide +kernel
theorem dX2_farthest_18 : decode cX2_farthest 18 = .ok (.iload_n 1, 1) := by decide +kernel
theorem dX2_farthest_19 : decode cX2_farthest 19 = .ok (.iload 5, 2) := by decide +kernel
theorem dX2_farthest_21 : decode cX2_farthest 21 = .ok (.iload_n 2, 1) := by decide +kernel
theorem dX2_farthest_22 : decode cX2_farthest 22 = .ok (.invokevirtual 49, 3) := by decide +kernel
theorem dX2_farthest_25 : decode cX2_farthest 25 = .ok (.istore 6, 2) := by decide +kernel
theorem dX2_farthest_27 : decode cX2_farthest 27 = .ok (.iload 6, 2) := by decide +kernel
theorem dX2_farthest_29 : decode cX2_farthest 29 = .ok (.iload 4, 2) := by decide +kernel
theorem dX2_farthest_31 : decode cX2_farthest 31 = .ok (.if_icmp .le 10, 3) := by decide +kernel
theorem dX2_farthest_34 : decode cX2_farthest 34 = .ok (.iload 6, 2) := by decide +kernel
theorem dX2_farthest_36 : decode cX2_farthest 36 = .ok (.istore 4, 2) := by decide +kernel
theorem dX2_farthest_38 : decode cX2_farthest 38 = .ok (.iload 5, 2) := by decide +kernel
theorem dX2_farthest_40 : decode cX2_farthest 40 = .ok (.istore_n 3, 1) := by decide +kernel
theorem dX2_farthest_41 : decode cX2_farthest 41 = .ok (.iinc 5 1, 3) := by decide +kernel
theorem dX2_farthest_44 : decode cX2_farthest 44 = .ok (.goto (-33), 3) := by decide +kernel
theorem dX2_farthest_47 : decode cX2_farthest 47 = .ok (.iload_n 3, 1) := by decide +kernel
theorem dX2_farthest_48 : decode cX2_farthest 48 = .ok (.ireturn, 1) := by decide +kernel
theorem dX2_firstBeyond_0 : decode cX2_firstBeyond 0 = .ok (.iload_n 3, 1) := by decide +kernel
theorem dX2_firstBeyond_1 : decode cX2_firstBeyond 1 = .ok (.aload_n 0, 1) := by decide +kernel
theorem dX2_firstBeyond_2 : decode cX2_firstBeyond 2 = .ok (.iload_n 1, 1) := by decide +kernel
theorem dX2_firstBeyond_3 : decode cX2_firstBeyond 3 = .ok (.iload_n 2, 1) := by decide +kernel
theorem dX2_firstBeyond_4 : decode cX2_firstBeyond 4 = .ok (.invokevirtual 46, 3) := by decide +kernel
theorem dX2_firstBeyond_7 : decode cX2_firstBeyond 7 = .ok (.imul, 1) := by decide +kernel
theorem dX2_firstBeyond_8 : decode cX2_firstBeyond 8 = .ok (.istore 4, 2) := by decide +kernel
theorem dX2_firstBeyond_10 : decode cX2_firstBeyond 10 = .ok (.iload_n 1, 1) := by decide +kernel
theorem dX2_firstBeyond_11 : decode cX2_firstBeyond 11 = .ok (.iconst 1, 1) := by decide +kernel
theorem dX2_firstBeyond_12 : decode cX2_firstBeyond 12 = .ok (.iadd, 1) := by decide +kernel
theorem dX2_firstBeyond_13 : decode cX2_firstBeyond 13 = .ok (.istore 5, 2) := by decide +kernel
theorem dX2_firstBeyond_15 : decode cX2_firstBeyond 15 = .ok (.iload 5, 2) := by decide +kernel
theorem dX2_firstBeyond_17 : decode cX2_firstBeyond 17 = .ok (.iload_n 2, 1) := by decide +kernel
theorem dX2_firstBeyond_18 : decode cX2_firstBeyond 18 = .ok (.if_icmp .ge 25, 3) := by decide +kernel
theorem dX2_firstBeyond_21 : decode cX2_firstBeyond 21 = .ok (.aload_n 0, 1) := by decide +kernel
theorem dX2_firstBeyond_22 : decode cX2_firstBeyond 22 = .ok (.iload_n 1, 1) := by decide +kernel
theorem dX2_firstBeyond_23 : decode cX2_firstBeyond 23 = .ok (.iload 5, 2) := by decide +kernel
theorem dX2_firstBeyond_25 : decode cX2_firstBeyond 25 = .ok (.iload_n 2, 1) := by decide +kernel
theorem dX2_firstBeyond_26 : decode cX2_firstBeyond 26 = .ok (.invokevirtual 49, 3) := by decide +kernel
theorem dX2_firstBeyond_29 : decode cX2_firstBeyond 29 = .ok (.iload 4, 2) := by decide +kernel
theorem dX2_firstBeyond_31 : decode cX2_firstBeyond 31 = .ok (.if_icmp .le 6, 3) := by decide +kernel
theorem dX2_firstBeyond_34 : decode cX2_firstBeyond 34 = .ok (.iload 5, 2) := by decide +kernel
theorem dX2_firstBeyond_36 : decode cX2_firstBeyond 36 = .ok (.ireturn, 1) := by decide +kernel
theorem dX2_firstBeyond_37 : decode cX2_firstBeyond 37 = .ok (.iinc 5 1, 3) := by decide +kernel
theorem dX2_firstBeyond_40 : decode cX2_firstBeyond 40 = .ok (.goto (-25), 3) := by decide +kernel
theorem dX2_firstBeyond_43 : decode cX2_firstBeyond 43 = .ok (.bipush (-9), 2) := by decide +kernel
theorem dX2_firstBeyond_45 : decode cX2_firstBeyond 45 = .ok (.ireturn, 1) := by decide +kernel
theorem dX2_measureStrip_0 : decode cX2_measureStrip 0 = .ok (.aload_n 3, 1) := by decide +kernel
theorem dX2_measureStrip_1 : decode cX2_measureStrip 1 = .ok (.iconst 0, 1) := by decide +kernel
theorem dX2_measureStrip_2 : decode cX2_measureStrip 2 = .ok (.iconst 1, 1) := by decide +kernel
theorem dX2_measureStrip_3 : decode cX2_measureStrip 3 = .ok (.invokevirtual 71, 3) := by decide +kernel
theorem dX2_measureStrip_6 : decode cX2_measureStrip 6 = .ok (.iload_n 1, 1) := by decide +kernel
theorem dX2_measureStrip_7 : decode cX2_measureStrip 7 = .ok (.istore 4, 2) := by decide +kernel
theorem dX2_measureStrip_9 : decode cX2_measureStrip 9 = .ok (.iload 4, 2) := by decide +kernel
theorem dX2_measureStrip_11 : decode cX2_measureStrip 11 = .ok (.iload_n 2, 1) := by decide +kernel
theorem dX2_measureStrip_12 : decode cX2_measureStrip 12 = .ok (.if_icmp .ge 76, 3) := by decide +kernel
theorem dX2_measureStrip_15 : decode cX2_measureStrip 15 = .ok (.iload 4, 2) := by decide +kernel
theorem dX2_measureStrip_17 : decode cX2_measureStrip 17 = .ok (.iconst 2, 1) := by decide +kernel
theorem dX2_measureStrip_18 : decode cX2_measureStrip 18 = .ok (.iadd, 1) := by decide +kernel
theorem dX2_measureStrip_19 : decode cX2_measureStrip 19 = .ok (.istore 5, 2) := by decide +kernel
theorem dX2_measureStrip_21 : decode cX2_measureStrip 21 = .ok (.iload 5, 2) := by decide +kernel
theorem dX2_measureStrip_23 : decode cX2_measureStrip 23 = .ok (.iload_n 2, 1) := by decide +kernel
theorem dX2_measureStrip_24 : decode cX2_measureStrip 24 = .ok (.if_icmp .gt 58, 3) := by decide +kernel
theorem dX2_measureStrip_27 : decode cX2_measureStrip 27 = .ok (.aload_n 0, 1) := by decide +kernel
theorem dX2_measureStrip_28 : decode cX2_measureStrip 28 = .ok (.iload 4, 2) := by decide +kernel
theorem dX2_measureStrip_30 : decode cX2_measureStrip 30 = .ok (.aload_n 0, 1) := by decide +kernel
theorem dX2_measureStrip_31 : decode cX2_measureStrip 31 = .ok (.iload 4, 2) := by decide +kernel
theorem dX2_measureStrip_33 : decode cX2_measureStrip 33 = .ok (.iload 5, 2) := by decide +kernel
theorem dX2_measureStrip_35 : decode cX2_measureStrip 35 = .ok (.invokevirtual 42, 3) := by decide +kernel
theorem dX2_measureStrip_38 : decode cX2_measureStrip 38 = .ok (.iload 5, 2) := by decide +kernel
theorem dX2_measureStrip_40 : decode cX2_measureStrip 40 = .ok (.invokevirtual 49, 3) := by decide +kernel
theorem dX2_measureStrip_43 : decode cX2_measureStrip 43 = .ok (.istore 6, 2) := by decide +kernel
theorem dX2_measureStrip_45 : decode cX2_measureStrip 45 = .ok (.iconst 2, 1) := by decide +kernel
theorem dX2_measureStrip_46 : decode cX2_measureStrip 46 = .ok (.aload_n 0, 1) := by decide +kernel
theorem dX2_measureStrip_47 : decode cX2_measureStrip 47 = .ok (.iload 4, 2) := by decide +kernel
theorem dX2_measureStrip_49 : decode cX2_measureStrip 49 = .ok (.iload 5, 2) := by decide +kernel
theorem dX2_measureStrip_51 : decode cX2_measureStrip 51 = .ok (.invokevirtual 46, 3) := by decide +kernel
theorem dX2_measureStrip_54 : decode cX2_measureStrip 54 = .ok (.imul, 1) := by decide +kernel
theorem dX2_measureStrip_55 : decode cX2_measureStrip 55 = .ok (.istore 7, 2) := by decide +kernel
theorem dX2_measureStrip_57 : decode cX2_measureStrip 57 = .ok (.aload_n 3, 1) := by decide +kernel
theorem dX2_measureStrip_58 : decode cX2_measureStrip 58 = .ok (.iload 6, 2) := by decide +kernel
theorem dX2_measureStrip_60 : decode cX2_measureStrip 60 = .ok (.iload 7, 2) := by decide +kernel
theorem dX2_measureStrip_62 : decode cX2_measureStrip 62 = .ok (.invokevirtual 77, 3) := by decide +kernel
theorem dX2_measureStrip_65 : decode cX2_measureStrip 65 = .ok (.ifCond .eq 11, 3) := by decide +kernel
theorem dX2_measureStrip_68 : decode cX2_measureStrip 68 = .ok (.aload_n 3, 1) := by decide +kernel
theorem dX2_measureStrip_69 : decode cX2_measureStrip 69 = .ok (.iload 6, 2) := by decide +kernel
theorem dX2_measureStrip_71 : decode cX2_measureStrip 71 = .ok (.iload 7, 2) := by decide +kernel
theorem dX2_measureStrip_73 : decode cX2_measureStrip 73 = .ok (.invokevirtual 71, 3) := by decide +kernel
theorem dX2_measureStrip_76 : decode cX2_measureStrip 76 = .ok (.iinc 5 1, 3) := by decide +kernel
theorem dX2_measureStrip_79 : decode cX2_measureStrip 79 = .ok (.goto (-58), 3) := by decide +kernel
theorem dX2_measureStrip_82 : decode cX2_measureStrip 82 = .ok (.iinc 4 1, 3) := by decide +kernel
theorem dX2_measureStrip_85 : decode cX2_measureStrip 85 = .ok (.goto (-76), 3) := by decide +kernel
theorem dX2_measureStrip_88 : decode cX2_measureStrip 88 = .ok (.return_, 1) := by decide +kernel
theorem dX2_measureValue_0 : decode cX2_measureValue 0 = .ok (.iload_n 1, 1) := by decide +kernel
theorem dX2_measureValue_1 : decode cX2_measureValue 1 = .ok (.iload_n 2, 1) := by decide +kernel
theorem dX2_measureValue_2 : decode cX2_measureValue 2 = .ok (.if_icmp .ne 18, 3) := by decide +kernel
theorem dX2_measureValue_5 : decode cX2_measureValue 5 = .ok (.aload 4, 2) := by decide +kernel
theorem dX2_measureValue_7 : decode cX2_measureValue 7 = .ok (.aload_n 0, 1) := by decide +kernel
theorem dX2_measureValue_8 : decode cX2_measureValue 8 = .ok (.getfield 9, 3) := by decide +kernel
theorem dX2_measureValue_11 : decode cX2_measureValue 11 = .ok (.iload_n 1, 1) := by decide +kernel
theorem dX2_measureValue_12 : decode cX2_measureValue 12 = .ok (.invokevirtual 81, 3) := by decide +kernel
theorem dX2_measureValue_15 : decode cX2_measureValue 15 = .ok (.iconst 1, 1) := by decide +kernel
theorem dX2_measureValue_16 : decode cX2_measureValue 16 = .ok (.invokevirtual 71, 3) := by decide +kernel
theorem dX2_measureValue_19 : decode cX2_measureValue 19 = .ok (.return_, 1) := by decide +kernel
theorem dX2_measureValue_20 : decode cX2_measureValue 20 = .ok (.iload_n 3, 1) := by decide +kernel
theorem dX2_measureValue_21 : decode cX2_measureValue 21 = .ok (.aload_n 0, 1) := by decide +kernel
theorem dX2_measureValue_22 : decode cX2_measureValue 22 = .ok (.getfield 9, 3) := by decide +kernel
theorem dX2_measureValue_25 : decode cX2_measureValue 25 = .ok (.iload_n 1, 1) := by decide +kernel
theorem dX2_measureValue_26 : decode cX2_measureValue 26 = .ok (.invokevirtual 56, 3) := by decide +kernel
theorem dX2_measureValue_29 : decode cX2_measureValue 29 = .ok (.isub, 1) := by decide +kernel
theorem dX2_measureValue_30 : decode cX2_measureValue 30 = .ok (.istore 5, 2) := by decide +kernel
theorem dX2_measureValue_32 : decode cX2_measureValue 32 = .ok (.aload_n 0, 1) := by decide +kernel
theorem dX2_measureValue_33 : decode cX2_measureValue 33 = .ok (.getfield 9, 3) := by decide +kernel
theorem dX2_measureValue_36 : decode cX2_measureValue 36 = .ok (.iload_n 2, 1) := by decide +kernel
theorem dX2_measureValue_37 : decode cX2_measureValue 37 = .ok (.invokevirtual 56, 3) := by decide +kernel
theorem dX2_measureValue_40 : decode cX2_measureValue 40 = .ok (.iload_n 3, 1) := by decide +kernel
theorem dX2_measureValue_41 : decode cX2_measureValue 41 = .ok (.isub, 1) := by decide +kernel
theorem dX2_measureValue_42 : decode cX2_measureValue 42 = .ok (.istore 6, 2) := by decide +kernel
theorem dX2_measureValue_44 : decode cX2_measureValue 44 = .ok (.aload_n 0, 1) := by decide +kernel
theorem dX2_measureValue_45 : decode cX2_measureValue 45 = .ok (.getfield 9, 3) := by decide +kernel
theorem dX2_measureValue_48 : decode cX2_measureValue 48 = .ok (.iload_n 1, 1) := by decide +kernel
theorem dX2_measureValue_49 : decode cX2_measureValue 49 = .ok (.invokevirtual 81, 3) := by decide +kernel
theorem dX2_measureValue_52 : decode cX2_measureValue 52 = .ok (.iload 6, 2) := by decide +kernel
theorem dX2_measureValue_54 : decode cX2_measureValue 54 = .ok (.imul, 1) := by decide +kernel
theorem dX2_measureValue_55 : decode cX2_measureValue 55 = .ok (.aload_n 0, 1) := by decide +kernel
theorem dX2_measureValue_56 : decode cX2_measureValue 56 = .ok (.getfield 9, 3) := by decide +kernel
theorem dX2_measureValue_59 : decode cX2_measureValue 59 = .ok (.iload_n 2, 1) := by decide +kernel
theorem dX2_measureValue_60 : decode cX2_measureValue 60 = .ok (.invokevirtual 81, 3) := by decide +kernel
theorem dX2_measureValue_63 : decode cX2_measureValue 63 = .ok (.iload 5, 2) := by decide +kernel
theorem dX2_measureValue_65 : decode cX2_measureValue 65 = .ok (.imul, 1) := by decide +kernel
theorem dX2_measureValue_66 : decode cX2_measureValue 66 = .ok (.iadd, 1) := by decide +kernel
theorem dX2_measureValue_67 : decode cX2_measureValue 67 = .ok (.istore 7, 2) := by decide +kernel
theorem dX2_measureValue_69 : decode cX2_measureValue 69 = .ok (.aload 4, 2) := by decide +kernel
theorem dX2_measureValue_71 : decode cX2_measureValue 71 = .ok (.iload 7, 2) := by decide +kernel
theorem dX2_measureValue_73 : decode cX2_measureValue 73 = .ok (.aload_n 0, 1) := by decide +kernel
theorem dX2_measureValue_74 : decode cX2_measureValue 74 = .ok (.iload_n 1, 1) := by decide +kernel
theorem dX2_measureValue_75 : decode cX2_measureValue 75 = .ok (.iload_n 2, 1) := by decide +kernel
theorem dX2_measureValue_76 : decode cX2_measureValue 76 = .ok (.invokevirtual 46, 3) := by decide +kernel
theorem dX2_measureValue_79 : decode cX2_measureValue 79 = .ok (.invokevirtual 71, 3) := by decide +kernel
theorem dX2_measureValue_82 : decode cX2_measureValue 82 = .ok (.return_, 1) := by decide +kernel
theorem dX3_init_0 : decode cX3_init 0 = .ok (.aload_n 0, 1) := by decide +kernel
theorem dX3_init_1 : decode cX3_init 1 = .ok (.invokespecial 3, 3) := by decide +kernel
theorem dX3_init_4 : decode cX3_init 4 = .ok (.aload_n 0, 1) := by decide +kernel
theorem dX3_init_5 : decode cX3_init 5 = .ok (.bipush 14, 2) := by decide +kernel
theorem dX3_init_7 : decode cX3_init 7 = .ok (.newarray .int, 2) := by decide +kernel
theorem dX3_init_9 : decode cX3_init 9 = .ok (.putfield 9, 3) := by decide +kernel
theorem dX3_init_12 : decode cX3_init 12 = .ok (.aload_n 0, 1) := by decide +kernel
theorem dX3_init_13 : decode cX3_init 13 = .ok (.bipush 14, 2) := by decide +kernel
theorem dX3_init_15 : decode cX3_init 15 = .ok (.newarray .int, 2) := by decide +kernel
theorem dX3_init_17 : decode cX3_init 17 = .ok (.putfield 15, 3) := by decide +kernel
theorem dX3_init_20 : decode cX3_init 20 = .ok (.aload_n 0, 1) := by decide +kernel
theorem dX3_init_21 : decode cX3_init 21 = .ok (.iconst 0, 1) := by decide +kernel
theorem dX3_init_22 : decode cX3_init 22 = .ok (.putfield 18, 3) := by decide +kernel
theorem dX3_init_25 : decode cX3_init 25 = .ok (.aload_n 0, 1) := by decide +kernel
theorem dX3_init_26 : decode cX3_init 26 = .ok (.iconst 5, 1) := by decide +kernel
theorem dX3_init_27 : decode cX3_init 27 = .ok (.putfield 22, 3) := by decide +kernel
theorem dX3_init_30 : decode cX3_init 30 = .ok (.aload_n 0, 1) := by decide +kernel
theorem dX3_init_31 : decode cX3_init 31 = .ok (.bipush 14, 2) := by decide +kernel
theorem dX3_init_33 : decode cX3_init 33 = .ok (.putfield 25, 3) := by decide +kernel
theorem dX3_init_36 : decode cX3_init 36 = .ok (.return_, 1) := by decide +kernel
theorem dX3_startAnew_0 : decode cX3_startAnew 0 = .ok (.aload_n 0, 1) := by decide +kernel
theorem dX3_startAnew_1 : decode cX3_startAnew 1 = .ok (.iconst 0, 1) := by decide +kernel
theorem dX3_startAnew_2 : decode cX3_startAnew 2 = .ok (.putfield 18, 3) := by decide +kernel
theorem dX3_startAnew_5 : decode cX3_startAnew 5 = .ok (.aload_n 0, 1) := by decide +kernel
theorem dX3_startAnew_6 : decode cX3_startAnew 6 = .ok (.iconst 5, 1) := by decide +kernel
theorem dX3_startAnew_7 : decode cX3_startAnew 7 = .ok (.putfield 22, 3) := by decide +kernel
theorem dX3_startAnew_10 : decode cX3_startAnew 10 = .ok (.aload_n 0, 1) := by decide +kernel
theorem dX3_startAnew_11 : decode cX3_startAnew 11 = .ok (.bipush 14, 2) := by decide +kernel
theorem dX3_startAnew_13 : decode cX3_startAnew 13 = .ok (.putfield 25, 3) := by decide +kernel
theorem dX3_startAnew_16 : decode cX3_startAnew 16 = .ok (.return_, 1) := by decide +kernel
theorem dX3_has_0 : decode cX3_has 0 = .ok (.iload_n 1, 1) := by decide +kernel
theorem dX3_has_1 : decode cX3_has 1 = .ok (.ifCond .lt 15, 3) := by decide +kernel
theorem dX3_has_4 : decode cX3_has 4 = .ok (.iload_n 1, 1) := by decide +kernel
theorem dX3_has_5 : decode cX3_has 5 = .ok (.aload_n 0, 1) := by decide +kernel
theorem dX3_has_6 : decode cX3_has 6 = .ok (.getfield 18, 3) := by decide +kernel
theorem dX3_has_9 : decode cX3_has 9 = .ok (.if_icmp .ge 7, 3) := by decide +kernel
theorem dX3_has_12 : decode cX3_has 12 = .ok (.iconst 1, 1) := by decide +kernel
theorem dX3_has_13 : decode cX3_has 13 = .ok (.goto 4, 3) := by decide +kernel
theorem dX3_has_16 : decode cX3_has 16 = .ok (.iconst 0, 1) := by decide +kernel
theorem dX3_has_17 : decode cX3_has 17 = .ok (.ireturn, 1) := by decide +kernel
theorem dX3_isKnown_0 : decode cX3_isKnown 0 = .ok (.aload_n 0, 1) := by decide +kernel
theorem dX3_isKnown_1 : decode cX3_isKnown 1 = .ok (.iload_n 1, 1) := by decide +kernel
theorem dX3_isKnown_2 : decode cX3_isKnown 2 = .ok (.invokevirtual 28, 3) := by decide +kernel
theorem dX3_isKnown_5 : decode cX3_isKnown 5 = .ok (.ifCond .eq 18, 3) := by decide +kernel
theorem dX3_isKnown_8 : decode cX3_isKnown 8 = .ok (.aload_n 0, 1) := by decide +kernel
theorem dX3_isKnown_9 : decode cX3_isKnown 9 = .ok (.getfield 15, 3) := by decide +kernel
theorem dX3_isKnown_12 : decode cX3_isKnown 12 = .ok (.iload_n 1, 1) := by decide +kernel
theorem dX3_isKnown_13 : decode cX3_isKnown 13 = .ok (.iaload, 1) := by decide +kernel
theorem dX3_isKnown_14 : decode cX3_isKnown 14 = .ok (.bipush (-9), 2) := by decide +kernel
theorem dX3_isKnown_16 : decode cX3_isKnown 16 = .ok (.if_icmp .eq 7, 3) := by decide +kernel
theorem dX3_isKnown_19 : decode cX3_isKnown 19 = .ok (.iconst 1, 1) := by decide +kernel
theorem dX3_isKnown_20 : decode cX3_isKnown 20 = .ok (.goto 4, 3) := by decide +kernel
theorem dX3_isKnown_23 : decode cX3_isKnown 23 = .ok (.iconst 0, 1) := by decide +kernel
theorem dX3_isKnown_24 : decode cX3_isKnown 24 = .ok (.ireturn, 1) := by decide +kernel
theorem dX3_isFirst_0 : decode cX3_isFirst 0 = .ok (.aload_n 0, 1) := by decide +kernel
theorem dX3_isFirst_1 : decode cX3_isFirst 1 = .ok (.iload_n 1, 1) := by decide +kernel
theorem dX3_isFirst_2 : decode cX3_isFirst 2 = .ok (.invokevirtual 32, 3) := by decide +kernel
theorem dX3_isFirst_5 : decode cX3_isFirst 5 = .ok (.ifCond .eq 17, 3) := by decide +kernel
theorem dX3_isFirst_8 : decode cX3_isFirst 8 = .ok (.aload_n 0, 1) := by decide +kernel
theorem dX3_isFirst_9 : decode cX3_isFirst 9 = .ok (.iload_n 1, 1) := by decide +kernel
theorem dX3_isFirst_10 : decode cX3_isFirst 10 = .ok (.iconst 1, 1) := by decide +kernel
theorem dX3_isFirst_11 : decode cX3_isFirst 11 = .ok (.isub, 1) := by decide +kernel
theorem dX3_isFirst_12 : decode cX3_isFirst 12 = .ok (.invokevirtual 32, 3) := by decide +kernel
theorem dX3_isFirst_15 : decode cX3_isFirst 15 = .ok (.ifCond .ne 7, 3) := by decide +kernel
theorem dX3_isFirst_18 : decode cX3_isFirst 18 = .ok (.iconst 1, 1) := by decide +kernel
theorem dX3_isFirst_19 : decode cX3_isFirst 19 = .ok (.goto 4, 3) := by decide +kernel
theorem dX3_isFirst_22 : decode cX3_isFirst 22 = .ok (.iconst 0, 1) := by decide +kernel
theorem dX3_isFirst_23 : decode cX3_isFirst 23 = .ok (.ireturn, 1) := by decide +kernel
theorem dX3_isLast_0 : decode cX3_isLast 0 = .ok (.aload_n 0, 1) := by decide +kernel
theorem dX3_isLast_1 : decode cX3_isLast 1 = .ok (.iload_n 1, 1) := by decide +kernel
theorem dX3_isLast_2 : decode cX3_isLast 2 = .ok (.invokevirtual 32, 3) := by decide +kernel
theorem dX3_isLast_5 : decode cX3_isLast 5 = .ok (.ifCond .eq 17, 3) := by decide +kernel
theorem dX3_isLast_8 : decode cX3_isLast 8 = .ok (.aload_n 0, 1) := by decide +kernel
theorem dX3_isLast_9 : decode cX3_isLast 9 = .ok (.iload_n 1, 1) := by decide +kernel
theorem dX3_isLast_10 : decode cX3_isLast 10 = .ok (.iconst 1, 1) := by decide +kernel
theorem dX3_isLast_11 : decode cX3_isLast 11 = .ok (.iadd, 1) := by decide +kernel
theorem dX3_isLast_12 : decode cX3_isLast 12 = .ok (.invokevirtual 32, 3) := by decide +kernel
theorem dX3_isLast_15 : decode cX3_isLast 15 = .ok (.ifCond .ne 7, 3) := by decide +kernel
theorem dX3_isLast_18 : decode cX3_isLast 18 = .ok (.iconst 1, 1) := by decide +kernel
theorem dX3_isLast_19 : decode cX3_isLast 19 = .ok (.goto 4, 3) := by decide +kernel
theorem dX3_isLast_22 : decode cX3_isLast 22 = .ok (.iconst 0, 1) := by decide +kernel
theorem dX3_isLast_23 : decode cX3_isLast 23 = .ok (.ireturn, 1) := by decide +kernel
theorem dX3_timeAt_0 : decode cX3_timeAt 0 = .ok (.aload_n 0, 1) := by decide +kernel
theorem dX3_timeAt_1 : decode cX3_timeAt 1 = .ok (.iload_n 1, 1) := by decide +kernel
theorem dX3_timeAt_2 : decode cX3_timeAt 2 = .ok (.invokevirtual 28, 3) := by decide +kernel
theorem dX3_timeAt_5 : decode cX3_timeAt 5 = .ok (.ifCond .eq 12, 3) := by decide +kernel
theorem dX3_timeAt_8 : decode cX3_timeAt 8 = .ok (.aload_n 0, 1) := by decide +kernel
theorem dX3_timeAt_9 : decode cX3_timeAt 9 = .ok (.getfield 9, 3) := by decide +kernel
theorem dX3_timeAt_12 : decode cX3_timeAt 12 = .ok (.iload_n 1, 1) := by decide +kernel
theorem dX3_timeAt_13 : decode cX3_timeAt 13 = .ok (.iaload, 1) := by decide +kernel
theorem dX3_timeAt_14 : decode cX3_timeAt 14 = .ok (.goto 5, 3) := by decide +kernel
theorem dX3_timeAt_17 : decode cX3_timeAt 17 = .ok (.bipush (-9), 2) := by decide +kernel
theorem dX3_timeAt_19 : decode cX3_timeAt 19 = .ok (.ireturn, 1) := by decide +kernel
theorem dX3_valueAt_0 : decode cX3_valueAt 0 = .ok (.aload_n 0, 1) := by decide +kernel
theorem dX3_valueAt_1 : decode cX3_valueAt 1 = .ok (.iload_n 1, 1) := by decide +kernel
theorem dX3_valueAt_2 : decode cX3_valueAt 2 = .ok (.invokevirtual 28, 3) := by decide +kernel
theorem dX3_valueAt_5 : decode cX3_valueAt 5 = .ok (.ifCond .eq 12, 3) := by decide +kernel
theorem dX3_valueAt_8 : decode cX3_valueAt 8 = .ok (.aload_n 0, 1) := by decide +kernel
theorem dX3_valueAt_9 : decode cX3_valueAt 9 = .ok (.getfield 15, 3) := by decide +kernel
theorem dX3_valueAt_12 : decode cX3_valueAt 12 = .ok (.iload_n 1, 1) := by decide +kernel
theorem dX3_valueAt_13 : decode cX3_valueAt 13 = .ok (.iaload, 1) := by decide +kernel
theorem dX3_valueAt_14 : decode cX3_valueAt 14 = .ok (.goto 5, 3) := by decide +kernel
theorem dX3_valueAt_17 : decode cX3_valueAt 17 = .ok (.bipush (-9), 2) := by decide +kernel
theorem dX3_valueAt_19 : decode cX3_valueAt 19 = .ok (.ireturn, 1) := by decide +kernel
theorem dX3_isFull_0 : decode cX3_isFull 0 = .ok (.aload_n 0, 1) := by decide +kernel
theorem dX3_isFull_1 : decode cX3_isFull 1 = .ok (.getfield 18, 3) := by decide +kernel
theorem dX3_isFull_4 : decode cX3_isFull 4 = .ok (.bipush 14, 2) := by decide +kernel
theorem dX3_isFull_6 : decode cX3_isFull 6 = .ok (.if_icmp .lt 7, 3) := by decide +kernel
theorem dX3_isFull_9 : decode cX3_isFull 9 = .ok (.iconst 1, 1) := by decide +kernel
theorem dX3_isFull_10 : decode cX3_isFull 10 = .ok (.goto 4, 3) := by decide +kernel
theorem dX3_isFull_13 : decode cX3_isFull 13 = .ok (.iconst 0, 1) := by decide +kernel
theorem dX3_isFull_14 : decode cX3_isFull 14 = .ok (.ireturn, 1) := by decide +kernel
theorem dX3_isLater_0 : decode cX3_isLater 0 = .ok (.aload_n 0, 1) := by decide +kernel
theorem dX3_isLater_1 : decode cX3_isLater 1 = .ok (.getfield 18, 3) := by decide +kernel
theorem dX3_isLater_4 : decode cX3_isLater 4 = .ok (.ifCond .eq 17, 3) := by decide +kernel
theorem dX3_isLater_7 : decode cX3_isLater 7 = .ok (.iload_n 1, 1) := by decide +kernel
theorem dX3_isLater_8 : decode cX3_isLater 8 = .ok (.aload_n 0, 1) := by decide +kernel
theorem dX3_isLater_9 : decode cX3_isLater 9 = .ok (.aload_n 0, 1) := by decide +kernel
theorem dX3_isLater_10 : decode cX3_isLater 10 = .ok (.getfield 18, 3) := by decide +kernel
theorem dX3_isLater_13 : decode cX3_isLater 13 = .ok (.iconst 1, 1) := by decide +kernel
theorem dX3_isLater_14 : decode cX3_isLater 14 = .ok (.isub, 1) := by decide +kernel
theorem dX3_isLater_15 : decode cX3_isLater 15 = .ok (.invokevirtual 35, 3) := by decide +kernel
theorem dX3_isLater_18 : decode cX3_isLater 18 = .ok (.if_icmp .le 7, 3) := by decide +kernel
theorem dX3_isLater_21 : decode cX3_isLater 21 = .ok (.iconst 1, 1) := by decide +kernel
theorem dX3_isLater_22 : decode cX3_isLater 22 = .ok (.goto 4, 3) := by decide +kernel
theorem dX3_isLater_25 : decode cX3_isLater 25 = .ok (.iconst 0, 1) := by decide +kernel
theorem dX3_isLater_26 : decode cX3_isLater 26 = .ok (.ireturn, 1) := by decide +kernel
theorem dX3_append_0 : decode cX3_append 0 = .ok (.aload_n 0, 1) := by decide +kernel
theorem dX3_append_1 : decode cX3_append 1 = .ok (.invokevirtual 39, 3) := by decide +kernel
theorem dX3_append_4 : decode cX3_append 4 = .ok (.ifCond .eq 6, 3) := by decide +kernel
theorem dX3_append_7 : decode cX3_append 7 = .ok (.bipush (-3), 2) := by decide +kernel
theorem dX3_append_9 : decode cX3_append 9 = .ok (.ireturn, 1) := by decide +kernel
theorem dX3_append_10 : decode cX3_append 10 = .ok (.aload_n 0, 1) := by decide +kernel
theorem dX3_append_11 : decode cX3_append 11 = .ok (.getfield 9, 3) := by decide +kernel
theorem dX3_append_14 : decode cX3_append 14 = .ok (.aload_n 0, 1) := by decide +kernel
theorem dX3_append_15 : decode cX3_append 15 = .ok (.getfield 18, 3) := by decide +kernel
theorem dX3_append_18 : decode cX3_append 18 = .ok (.iload_n 1, 1) := by decide +kernel
theorem dX3_append_19 : decode cX3_append 19 = .ok (.iastore, 1) := by decide +kernel
theorem dX3_append_20 : decode cX3_append 20 = .ok (.aload_n 0, 1) := by decide +kernel
theorem dX3_append_21 : decode cX3_append 21 = .ok (.getfield 15, 3) := by decide +kernel
theorem dX3_append_24 : decode cX3_append 24 = .ok (.aload_n 0, 1) := by decide +kernel
theorem dX3_append_25 : decode cX3_append 25 = .ok (.getfield 18, 3) := by decide +kernel
theorem dX3_append_28 : decode cX3_append 28 = .ok (.iload_n 2, 1) := by decide +kernel
theorem dX3_append_29 : decode cX3_append 29 = .ok (.iastore, 1) := by decide +kernel
theorem dX3_append_30 : decode cX3_append 30 = .ok (.aload_n 0, 1) := by decide +kernel
theorem dX3_append_31 : decode cX3_append 31 = .ok (.dup, 1) := by decide +kernel
theorem dX3_append_32 : decode cX3_append 32 = .ok (.getfield 18, 3) := by decide +kernel
theorem dX3_append_35 : decode cX3_append 35 = .ok (.iconst 1, 1) := by decide +kernel
theorem dX3_append_36 : decode cX3_append 36 = .ok (.iadd, 1) := by decide +kernel
theorem dX3_append_37 : decode cX3_append 37 = .ok (.putfield 18, 3) := by decide +kernel
theorem dX3_append_40 : decode cX3_append 40 = .ok (.aload_n 0, 1) := by decide +kernel
theorem dX3_append_41 : decode cX3_append 41 = .ok (.getfield 18, 3) := by decide +kernel
theorem dX3_append_44 : decode cX3_append 44 = .ok (.iconst 1, 1) := by decide +kernel
theorem dX3_append_45 : decode cX3_append 45 = .ok (.isub, 1) := by decide +kernel
theorem dX3_append_46 : decode cX3_append 46 = .ok (.ireturn, 1) := by decide +kernel
theorem dX3_remove_0 : decode cX3_remove 0 = .ok (.aload_n 0, 1) := by decide +kernel
theorem dX3_remove_1 : decode cX3_remove 1 = .ok (.iload_n 1, 1) := by decide +kernel
theorem dX3_remove_2 : decode cX3_remove 2 = .ok (.invokevirtual 28, 3) := by decide +kernel
theorem dX3_remove_5 : decode cX3_remove 5 = .ok (.ifCond .ne 4, 3) := by decide +kernel
theorem dX3_remove_8 : decode cX3_remove 8 = .ok (.return_, 1) := by decide +kernel
theorem dX3_remove_9 : decode cX3_remove 9 = .ok (.iload_n 1, 1) := by decide +kernel
theorem dX3_remove_10 : decode cX3_remove 10 = .ok (.istore_n 2, 1) := by decide +kernel
theorem dX3_remove_11 : decode cX3_remove 11 = .ok (.iload_n 2, 1) := by decide +kernel
theorem dX3_remove_12 : decode cX3_remove 12 = .ok (.iconst 1, 1) := by decide +kernel
theorem dX3_remove_13 : decode cX3_remove 13 = .ok (.iadd, 1) := by decide +kernel
theorem dX3_remove_14 : decode cX3_remove 14 = .ok (.aload_n 0, 1) := by decide +kernel
theorem dX3_remove_15 : decode cX3_remove 15 = .ok (.getfield 18, 3) := by decide +kernel
theorem dX3_remove_18 : decode cX3_remove 18 = .ok (.if_icmp .ge 37, 3) := by decide +kernel
theorem dX3_remove_21 : decode cX3_remove 21 = .ok (.aload_n 0, 1) := by decide +kernel
theorem dX3_remove_22 : decode cX3_remove 22 = .ok (.getfield 9, 3) := by decide +kernel
theorem dX3_remove_25 : decode cX3_remove 25 = .ok (.iload_n 2, 1) := by decide +kernel
theorem dX3_remove_26 : decode cX3_remove 26 = .ok (.aload_n 0, 1) := by decide +kernel
theorem dX3_remove_27 : decode cX3_remove 27 = .ok (.getfield 9, 3) := by decide +kernel
theorem dX3_remove_30 : decode cX3_remove 30 = .ok (.iload_n 2, 1) := by decide +kernel
theorem dX3_remove_31 : decode cX3_remove 31 = .ok (.iconst 1, 1) := by decide +kernel
theorem dX3_remove_32 : decode cX3_remove 32 = .ok (.iadd, 1) := by decide +kernel
theorem dX3_remove_33 : decode cX3_remove 33 = .ok (.iaload, 1) := by decide +kernel
theorem dX3_remove_34 : decode cX3_remove 34 = .ok (.iastore, 1) := by decide +kernel
theorem dX3_remove_35 : decode cX3_remove 35 = .ok (.aload_n 0, 1) := by decide +kernel
theorem dX3_remove_36 : decode cX3_remove 36 = .ok (.getfield 15, 3) := by decide +kernel
theorem dX3_remove_39 : decode cX3_remove 39 = .ok (.iload_n 2, 1) := by decide +kernel
theorem dX3_remove_40 : decode cX3_remove 40 = .ok (.aload_n 0, 1) := by decide +kernel
theorem dX3_remove_41 : decode cX3_remove 41 = .ok (.getfield 15, 3) := by decide +kernel
theorem dX3_remove_44 : decode cX3_remove 44 = .ok (.iload_n 2, 1) := by decide +kernel
theorem dX3_remove_45 : decode cX3_remove 45 = .ok (.iconst 1, 1) := by decide +kernel
theorem dX3_remove_46 : decode cX3_remove 46 = .ok (.iadd, 1) := by decide +kernel
theorem dX3_remove_47 : decode cX3_remove 47 = .ok (.iaload, 1) := by decide +kernel
theorem dX3_remove_48 : decode cX3_remove 48 = .ok (.iastore, 1) := by decide +kernel
theorem dX3_remove_49 : decode cX3_remove 49 = .ok (.iinc 2 1, 3) := by decide +kernel
theorem dX3_remove_52 : decode cX3_remove 52 = .ok (.goto (-41), 3) := by decide +kernel
theorem dX3_remove_55 : decode cX3_remove 55 = .ok (.aload_n 0, 1) := by decide +kernel
theorem dX3_remove_56 : decode cX3_remove 56 = .ok (.dup, 1) := by decide +kernel
theorem dX3_remove_57 : decode cX3_remove 57 = .ok (.getfield 18, 3) := by decide +kernel
theorem dX3_remove_60 : decode cX3_remove 60 = .ok (.iconst 1, 1) := by decide +kernel
theorem dX3_remove_61 : decode cX3_remove 61 = .ok (.isub, 1) := by decide +kernel
theorem dX3_remove_62 : decode cX3_remove 62 = .ok (.putfield 18, 3) := by decide +kernel
theorem dX3_remove_65 : decode cX3_remove 65 = .ok (.return_, 1) := by decide +kernel
theorem dX3_lastUpTo_0 : decode cX3_lastUpTo 0 = .ok (.bipush (-9), 2) := by decide +kernel
theorem dX3_lastUpTo_2 : decode cX3_lastUpTo 2 = .ok (.istore_n 3, 1) := by decide +kernel
theorem dX3_lastUpTo_3 : decode cX3_lastUpTo 3 = .ok (.iconst 0, 1) := by decide +kernel
theorem dX3_lastUpTo_4 : decode cX3_lastUpTo 4 = .ok (.istore 4, 2) := by decide +kernel
theorem dX3_lastUpTo_6 : decode cX3_lastUpTo 6 = .ok (.iload 4, 2) := by decide +kernel
theorem dX3_lastUpTo_8 : decode cX3_lastUpTo 8 = .ok (.aload_n 0, 1) := by decide +kernel
theorem dX3_lastUpTo_9 : decode cX3_lastUpTo 9 = .ok (.getfield 18, 3) := by decide +kernel
theorem dX3_lastUpTo_12 : decode cX3_lastUpTo 12 = .ok (.if_icmp .ge 33, 3) := by decide +kernel
theorem dX3_lastUpTo_15 : decode cX3_lastUpTo 15 = .ok (.iload_n 2, 1) := by decide +kernel
theorem dX3_lastUpTo_16 : decode cX3_lastUpTo 16 = .ok (.iload 4, 2) := by decide +kernel
theorem dX3_lastUpTo_18 : decode cX3_lastUpTo 18 = .ok (.invokestatic 43, 3) := by decide +kernel
theorem dX3_lastUpTo_21 : decode cX3_lastUpTo 21 = .ok (.iconst 1, 1) := by decide +kernel
theorem dX3_lastUpTo_22 : decode cX3_lastUpTo 22 = .ok (.if_icmp .ne 17, 3) := by decide +kernel
theorem dX3_lastUpTo_25 : decode cX3_lastUpTo 25 = .ok (.aload_n 0, 1) := by decide +kernel
theorem dX3_lastUpTo_26 : decode cX3_lastUpTo 26 = .ok (.getfield 9, 3) := by decide +kernel
theorem dX3_lastUpTo_29 : decode cX3_lastUpTo 29 = .ok (.iload 4, 2) := by decide +kernel
theorem dX3_lastUpTo_31 : decode cX3_lastUpTo 31 = .ok (.iaload, 1) := by decide +kernel
theorem dX3_lastUpTo_32 : decode cX3_lastUpTo 32 = .ok (.iload_n 1, 1) := by decide +kernel
theorem dX3_lastUpTo_33 : decode cX3_lastUpTo 33 = .ok (.if_icmp .gt 6, 3) := by decide +kernel
theorem dX3_lastUpTo_36 : decode cX3_lastUpTo 36 = .ok (.iload 4, 2) := by decide +kernel
theorem dX3_lastUpTo_38 : decode cX3_lastUpTo 38 = .ok (.istore_n 3, 1) := by decide +kernel
theorem dX3_lastUpTo_39 : decode cX3_lastUpTo 39 = .ok (.iinc 4 1, 3) := by decide +kernel
theorem dX3_lastUpTo_42 : decode cX3_lastUpTo 42 = .ok (.goto (-36), 3) := by decide +kernel
theorem dX3_lastUpTo_45 : decode cX3_lastUpTo 45 = .ok (.iload_n 3, 1) := by decide +kernel
theorem dX3_lastUpTo_46 : decode cX3_lastUpTo 46 = .ok (.ireturn, 1) := by decide +kernel
theorem dX3_firstFrom_0 : decode cX3_firstFrom 0 = .ok (.iconst 0, 1) := by decide +kernel
theorem dX3_firstFrom_1 : decode cX3_firstFrom 1 = .ok (.istore_n 3, 1) := by decide +kernel
theorem dX3_firstFrom_2 : decode cX3_firstFrom 2 = .ok (.iload_n 3, 1) := by decide +kernel
theorem dX3_firstFrom_3 : decode cX3_firstFrom 3 = .ok (.aload_n 0, 1) := by decide +kernel
theorem dX3_firstFrom_4 : decode cX3_firstFrom 4 = .ok (.getfield 18, 3) := by decide +kernel
theorem dX3_firstFrom_7 : decode cX3_firstFrom 7 = .ok (.if_icmp .ge 30, 3) := by decide +kernel
theorem dX3_firstFrom_10 : decode cX3_firstFrom 10 = .ok (.iload_n 2, 1) := by decide +kernel
theorem dX3_firstFrom_11 : decode cX3_firstFrom 11 = .ok (.iload_n 3, 1) := by decide +kernel
theorem dX3_firstFrom_12 : decode cX3_firstFrom 12 = .ok (.invokestatic 43, 3) := by decide +kernel
theorem dX3_firstFrom_15 : decode cX3_firstFrom 15 = .ok (.iconst 1, 1) := by decide +kernel
theorem dX3_firstFrom_16 : decode cX3_firstFrom 16 = .ok (.if_icmp .ne 15, 3) := by decide +kernel
theorem dX3_firstFrom_19 : decode cX3_firstFrom 19 = .ok (.aload_n 0, 1) := by decide +kernel
theorem dX3_firstFrom_20 : decode cX3_firstFrom 20 = .ok (.getfield 9, 3) := by decide +kernel
theorem dX3_firstFrom_23 : decode cX3_firstFrom 23 = .ok (.iload_n 3, 1) := by decide +kernel
theorem dX3_firstFrom_24 : decode cX3_firstFrom 24 = .ok (.iaload, 1) := by decide +kernel
theorem dX3_firstFrom_25 : decode cX3_firstFrom 25 = .ok (.iload_n 1, 1) := by decide +kernel
theorem dX3_firstFrom_26 : decode cX3_firstFrom 26 = .ok (.if_icmp .lt 5, 3) := by decide +kernel
theorem dX3_firstFrom_29 : decode cX3_firstFrom 29 = .ok (.iload_n 3, 1) := by decide +kernel
theorem dX3_firstFrom_30 : decode cX3_firstFrom 30 = .ok (.ireturn, 1) := by decide +kernel
theorem dX3_firstFrom_31 : decode cX3_firstFrom 31 = .ok (.iinc 3 1, 3) := by decide +kernel
theorem dX3_firstFrom_34 : decode cX3_firstFrom 34 = .ok (.goto (-32), 3) := by decide +kernel
theorem dX3_firstFrom_37 : decode cX3_firstFrom 37 = .ok (.bipush (-9), 2) := by decide +kernel
theorem dX3_firstFrom_39 : decode cX3_firstFrom 39 = .ok (.ireturn, 1) := by decide +kernel
theorem dX3_copy_0 : decode cX3_copy 0 = .ok (.iconst 0, 1) := by decide +kernel
theorem dX3_copy_1 : decode cX3_copy 1 = .ok (.istore_n 2, 1) := by decide +kernel
theorem dX3_copy_2 : decode cX3_copy 2 = .ok (.iload_n 2, 1) := by decide +kernel
theorem dX3_copy_3 : decode cX3_copy 3 = .ok (.bipush 14, 2) := by decide +kernel
theorem dX3_copy_5 : decode cX3_copy 5 = .ok (.if_icmp .ge 33, 3) := by decide +kernel
theorem dX3_copy_8 : decode cX3_copy 8 = .ok (.aload_n 0, 1) := by decide +kernel
theorem dX3_copy_9 : decode cX3_copy 9 = .ok (.getfield 9, 3) := by decide +kernel
theorem dX3_copy_12 : decode cX3_copy 12 = .ok (.iload_n 2, 1) := by decide +kernel
theorem dX3_copy_13 : decode cX3_copy 13 = .ok (.aload_n 1, 1) := by decide +kernel
theorem dX3_copy_14 : decode cX3_copy 14 = .ok (.getfield 9, 3) := by decide +kernel
theorem dX3_copy_17 : decode cX3_copy 17 = .ok (.iload_n 2, 1) := by decide +kernel
theorem dX3_copy_18 : decode cX3_copy 18 = .ok (.iaload, 1) := by decide +kernel
theorem dX3_copy_19 : decode cX3_copy 19 = .ok (.iastore, 1) := by decide +kernel
theorem dX3_copy_20 : decode cX3_copy 20 = .ok (.aload_n 0, 1) := by decide +kernel
theorem dX3_copy_21 : decode cX3_copy 21 = .ok (.getfield 15, 3) := by decide +kernel
theorem dX3_copy_24 : decode cX3_copy 24 = .ok (.iload_n 2, 1) := by decide +kernel
theorem dX3_copy_25 : decode cX3_copy 25 = .ok (.aload_n 1, 1) := by decide +kernel
theorem dX3_copy_26 : decode cX3_copy 26 = .ok (.getfield 15, 3) := by decide +kernel
theorem dX3_copy_29 : decode cX3_copy 29 = .ok (.iload_n 2, 1) := by decide +kernel
theorem dX3_copy_30 : decode cX3_copy 30 = .ok (.iaload, 1) := by decide +kernel
theorem dX3_copy_31 : decode cX3_copy 31 = .ok (.iastore, 1) := by decide +kernel
theorem dX3_copy_32 : decode cX3_copy 32 = .ok (.iinc 2 1, 3) := by decide +kernel
theorem dX3_copy_35 : decode cX3_copy 35 = .ok (.goto (-33), 3) := by decide +kernel
theorem dX3_copy_38 : decode cX3_copy 38 = .ok (.aload_n 0, 1) := by decide +kernel
theorem dX3_copy_39 : decode cX3_copy 39 = .ok (.aload_n 1, 1) := by decide +kernel
theorem dX3_copy_40 : decode cX3_copy 40 = .ok (.getfield 18, 3) := by decide +kernel
theorem dX3_copy_43 : decode cX3_copy 43 = .ok (.putfield 18, 3) := by decide +kernel
theorem dX3_copy_46 : decode cX3_copy 46 = .ok (.aload_n 0, 1) := by decide +kernel
theorem dX3_copy_47 : decode cX3_copy 47 = .ok (.aload_n 1, 1) := by decide +kernel
theorem dX3_copy_48 : decode cX3_copy 48 = .ok (.getfield 22, 3) := by decide +kernel
theorem dX3_copy_51 : decode cX3_copy 51 = .ok (.putfield 22, 3) := by decide +kernel
theorem dX3_copy_54 : decode cX3_copy 54 = .ok (.aload_n 0, 1) := by decide +kernel
theorem dX3_copy_55 : decode cX3_copy 55 = .ok (.aload_n 1, 1) := by decide +kernel
theorem dX3_copy_56 : decode cX3_copy 56 = .ok (.getfield 25, 3) := by decide +kernel
theorem dX3_copy_59 : decode cX3_copy 59 = .ok (.putfield 25, 3) := by decide +kernel
theorem dX3_copy_62 : decode cX3_copy 62 = .ok (.return_, 1) := by decide +kernel
theorem dX4_init_0 : decode cX4_init 0 = .ok (.aload_n 0, 1) := by decide +kernel
theorem dX4_init_1 : decode cX4_init 1 = .ok (.invokespecial 3, 3) := by decide +kernel
theorem dX4_init_4 : decode cX4_init 4 = .ok (.aload_n 0, 1) := by decide +kernel
theorem dX4_init_5 : decode cX4_init 5 = .ok (.aload_n 1, 1) := by decide +kernel
theorem dX4_init_6 : decode cX4_init 6 = .ok (.putfield 9, 3) := by decide +kernel
theorem dX4_init_9 : decode cX4_init 9 = .ok (.aload_n 0, 1) := by decide +kernel
theorem dX4_init_10 : decode cX4_init 10 = .ok (.new 15, 3) := by decide +kernel
theorem dX4_init_13 : decode cX4_init 13 = .ok (.dup, 1) := by decide +kernel
theorem dX4_init_14 : decode cX4_init 14 = .ok (.invokespecial 17, 3) := by decide +kernel
theorem dX4_init_17 : decode cX4_init 17 = .ok (.putfield 18, 3) := by decide +kernel
theorem dX4_init_20 : decode cX4_init 20 = .ok (.return_, 1) := by decide +kernel
theorem dX4_parse_0 : decode cX4_parse 0 = .ok (.aload_n 0, 1) := by decide +kernel
theorem dX4_parse_1 : decode cX4_parse 1 = .ok (.getfield 18, 3) := by decide +kernel
theorem dX4_parse_4 : decode cX4_parse 4 = .ok (.invokevirtual 22, 3) := by decide +kernel
theorem dX4_parse_7 : decode cX4_parse 7 = .ok (.aload_n 0, 1) := by decide +kernel
theorem dX4_parse_8 : decode cX4_parse 8 = .ok (.iconst 0, 1) := by decide +kernel
theorem dX4_parse_9 : decode cX4_parse 9 = .ok (.putfield 25, 3) := by decide +kernel
theorem dX4_parse_12 : decode cX4_parse 12 = .ok (.aload_n 0, 1) := by decide +kernel
theorem dX4_parse_13 : decode cX4_parse 13 = .ok (.iconst 0, 1) := by decide +kernel
theorem dX4_parse_14 : decode cX4_parse 14 = .ok (.putfield 29, 3) := by decide +kernel
theorem dX4_parse_17 : decode cX4_parse 17 = .ok (.aload_n 0, 1) := by decide +kernel
theorem dX4_parse_18 : decode cX4_parse 18 = .ok (.iconst 0, 1) := by decide +kernel
theorem dX4_parse_19 : decode cX4_parse 19 = .ok (.putfield 33, 3) := by decide +kernel
theorem dX4_parse_22 : decode cX4_parse 22 = .ok (.iconst 0, 1) := by decide +kernel
theorem dX4_parse_23 : decode cX4_parse 23 = .ok (.istore_n 1, 1) := by decide +kernel
theorem dX4_parse_24 : decode cX4_parse 24 = .ok (.iload_n 1, 1) := by decide +kernel
theorem dX4_parse_25 : decode cX4_parse 25 = .ok (.bipush 120, 2) := by decide +kernel
theorem dX4_parse_27 : decode cX4_parse 27 = .ok (.if_icmp .gt 119, 3) := by decide +kernel
theorem dX4_parse_30 : decode cX4_parse 30 = .ok (.aload_n 0, 1) := by decide +kernel
theorem dX4_parse_31 : decode cX4_parse 31 = .ok (.invokevirtual 36, 3) := by decide +kernel
theorem dX4_parse_34 : decode cX4_parse 34 = .ok (.iconst 0, 1) := by decide +kernel
theorem dX4_parse_35 : decode cX4_parse 35 = .ok (.istore_n 2, 1) := by decide +kernel
theorem dX4_parse_36 : decode cX4_parse 36 = .ok (.aload_n 0, 1) := by decide +kernel
theorem dX4_parse_37 : decode cX4_parse 37 = .ok (.getfield 39, 3) := by decide +kernel
theorem dX4_parse_40 : decode cX4_parse 40 = .ok (.lookupswitch 88 #[(0, 52), (100, 62), (112, 54), (114, 70), (117, 79)], 52) := by decide +kernel
theorem dX4_parse_92 : decode cX4_parse 92 = .ok (.iload_n 1, 1) := by decide +kernel
theorem dX4_parse_93 : decode cX4_parse 93 = .ok (.ireturn, 1) := by decide +kernel
theorem dX4_parse_94 : decode cX4_parse 94 = .ok (.aload_n 0, 1) := by decide +kernel
theorem dX4_parse_95 : decode cX4_parse 95 = .ok (.invokevirtual 42, 3) := by decide +kernel
theorem dX4_parse_98 : decode cX4_parse 98 = .ok (.istore_n 2, 1) := by decide +kernel
theorem dX4_parse_99 : decode cX4_parse 99 = .ok (.goto 29, 3) := by decide +kernel
theorem dX4_parse_102 : decode cX4_parse 102 = .ok (.aload_n 0, 1) := by decide +kernel
theorem dX4_parse_103 : decode cX4_parse 103 = .ok (.invokevirtual 46, 3) := by decide +kernel
theorem dX4_parse_106 : decode cX4_parse 106 = .ok (.istore_n 2, 1) := by decide +kernel
theorem dX4_parse_107 : decode cX4_parse 107 = .ok (.goto 21, 3) := by decide +kernel
theorem dX4_parse_110 : decode cX4_parse 110 = .ok (.aload_n 0, 1) := by decide +kernel
theorem dX4_parse_111 : decode cX4_parse 111 = .ok (.iconst 1, 1) := by decide +kernel
theorem dX4_parse_112 : decode cX4_parse 112 = .ok (.invokevirtual 49, 3) := by decide +kernel
theorem dX4_parse_115 : decode cX4_parse 115 = .ok (.istore_n 2, 1) := by decide +kernel
theorem dX4_parse_116 : decode cX4_parse 116 = .ok (.goto 12, 3) := by decide +kernel
theorem dX4_parse_119 : decode cX4_parse 119 = .ok (.aload_n 0, 1) := by decide +kernel
theorem dX4_parse_120 : decode cX4_parse 120 = .ok (.iconst 0, 1) := by decide +kernel
theorem dX4_parse_121 : decode cX4_parse 121 = .ok (.invokevirtual 49, 3) := by decide +kernel
theorem dX4_parse_124 : decode cX4_parse 124 = .ok (.istore_n 2, 1) := by decide +kernel
theorem dX4_parse_125 : decode cX4_parse 125 = .ok (.goto 3, 3) := by decide +kernel
theorem dX4_parse_128 : decode cX4_parse 128 = .ok (.iload_n 2, 1) := by decide +kernel
theorem dX4_parse_129 : decode cX4_parse 129 = .ok (.ifCond .ne 11, 3) := by decide +kernel
theorem dX4_parse_132 : decode cX4_parse 132 = .ok (.bipush (-10), 2) := by decide +kernel
theorem dX4_parse_134 : decode cX4_parse 134 = .ok (.aload_n 0, 1) := by decide +kernel
theorem dX4_parse_135 : decode cX4_parse 135 = .ok (.getfield 53, 3) := by decide +kernel
theorem dX4_parse_138 : decode cX4_parse 138 = .ok (.isub, 1) := by decide +kernel
theorem dX4_parse_139 : decode cX4_parse 139 = .ok (.ireturn, 1) := by decide +kernel
theorem dX4_parse_140 : decode cX4_parse 140 = .ok (.iinc 1 1, 3) := by decide +kernel
theorem dX4_parse_143 : decode cX4_parse 143 = .ok (.goto (-119), 3) := by decide +kernel
theorem dX4_parse_146 : decode cX4_parse 146 = .ok (.bipush (-10), 2) := by decide +kernel
theorem dX4_parse_148 : decode cX4_parse 148 = .ok (.aload_n 0, 1) := by decide +kernel
theorem dX4_parse_149 : decode cX4_parse 149 = .ok (.getfield 53, 3) := by decide +kernel
theorem dX4_parse_152 : decode cX4_parse 152 = .ok (.isub, 1) := by decide +kernel
theorem dX4_parse_153 : decode cX4_parse 153 = .ok (.ireturn, 1) := by decide +kernel
theorem dX4_isPromiseItem_0 : decode cX4_isPromiseItem 0 = .ok (.aload_n 0, 1) := by decide +kernel
theorem dX4_isPromiseItem_1 : decode cX4_isPromiseItem 1 = .ok (.getfield 29, 3) := by decide +kernel
theorem dX4_isPromiseItem_4 : decode cX4_isPromiseItem 4 = .ok (.ifCond .ne 13, 3) := by decide +kernel
theorem dX4_isPromiseItem_7 : decode cX4_isPromiseItem 7 = .ok (.aload_n 0, 1) := by decide +kernel
theorem dX4_isPromiseItem_8 : decode cX4_isPromiseItem 8 = .ok (.iconst 0, 1) := by decide +kernel
theorem dX4_isPromiseItem_9 : decode cX4_isPromiseItem 9 = .ok (.bipush 99, 2) := by decide +kernel
theorem dX4_isPromiseItem_11 : decode cX4_isPromiseItem 11 = .ok (.invokevirtual 56, 3) := by decide +kernel
theorem dX4_isPromiseItem_14 : decode cX4_isPromiseItem 14 = .ok (.ifCond .ne 5, 3) := by decide +kernel
theorem dX4_isPromiseItem_17 : decode cX4_isPromiseItem 17 = .ok (.iconst 0, 1) := by decide +kernel
theorem dX4_isPromiseItem_18 : decode cX4_isPromiseItem 18 = .ok (.ireturn, 1) := by decide +kernel
theorem dX4_isPromiseItem_19 : decode cX4_isPromiseItem 19 = .ok (.aload_n 0, 1) := by decide +kernel
theorem dX4_isPromiseItem_20 : decode cX4_isPromiseItem 20 = .ok (.iconst 1, 1) := by decide +kernel
theorem dX4_isPromiseItem_21 : decode cX4_isPromiseItem 21 = .ok (.putfield 29, 3) := by decide +kernel
theorem dX4_isPromiseItem_24 : decode cX4_isPromiseItem 24 = .ok (.aload_n 0, 1) := by decide +kernel
theorem dX4_isPromiseItem_25 : decode cX4_isPromiseItem 25 = .ok (.getfield 18, 3) := by decide +kernel
theorem dX4_isPromiseItem_28 : decode cX4_isPromiseItem 28 = .ok (.aload_n 0, 1) := by decide +kernel
theorem dX4_isPromiseItem_29 : decode cX4_isPromiseItem 29 = .ok (.getfield 60, 3) := by decide +kernel
theorem dX4_isPromiseItem_32 : decode cX4_isPromiseItem 32 = .ok (.putfield 63, 3) := by decide +kernel
theorem dX4_isPromiseItem_35 : decode cX4_isPromiseItem 35 = .ok (.aload_n 0, 1) := by decide +kernel
theorem dX4_isPromiseItem_36 : decode cX4_isPromiseItem 36 = .ok (.invokevirtual 66, 3) := by decide +kernel
theorem dX4_isPromiseItem_39 : decode cX4_isPromiseItem 39 = .ok (.ireturn, 1) := by decide +kernel
theorem dX4_isDelayItem_0 : decode cX4_isDelayItem 0 = .ok (.aload_n 0, 1) := by decide +kernel
theorem dX4_isDelayItem_1 : decode cX4_isDelayItem 1 = .ok (.getfield 33, 3) := by decide +kernel
theorem dX4_isDelayItem_4 : decode cX4_isDelayItem 4 = .ok (.ifCond .ne 13, 3) := by decide +kernel
theorem dX4_isDelayItem_7 : decode cX4_isDelayItem 7 = .ok (.aload_n 0, 1) := by decide +kernel
theorem dX4_isDelayItem_8 : decode cX4_isDelayItem 8 = .ok (.iconst 1, 1) := by decide +kernel
theorem dX4_isDelayItem_9 : decode cX4_isDelayItem 9 = .ok (.bipush 14, 2) := by decide +kernel
theorem dX4_isDelayItem_11 : decode cX4_isDelayItem 11 = .ok (.invokevirtual 56, 3) := by decide +kernel
theorem dX4_isDelayItem_14 : decode cX4_isDelayItem 14 = .ok (.ifCond .ne 5, 3) := by decide +kernel
theorem dX4_isDelayItem_17 : decode cX4_isDelayItem 17 = .ok (.iconst 0, 1) := by decide +kernel
theorem dX4_isDelayItem_18 : decode cX4_isDelayItem 18 = .ok (.ireturn, 1) := by decide +kernel
theorem dX4_isDelayItem_19 : decode cX4_isDelayItem 19 = .ok (.aload_n 0, 1) := by decide +kernel
theorem dX4_isDelayItem_20 : decode cX4_isDelayItem 20 = .ok (.iconst 1, 1) := by decide +kernel
theorem dX4_isDelayItem_21 : decode cX4_isDelayItem 21 = .ok (.putfield 33, 3) := by decide +kernel
theorem dX4_isDelayItem_24 : decode cX4_isDelayItem 24 = .ok (.aload_n 0, 1) := by decide +kernel
theorem dX4_isDelayItem_25 : decode cX4_isDelayItem 25 = .ok (.getfield 18, 3) := by decide +kernel
theorem dX4_isDelayItem_28 : decode cX4_isDelayItem 28 = .ok (.aload_n 0, 1) := by decide +kernel
theorem dX4_isDelayItem_29 : decode cX4_isDelayItem 29 = .ok (.getfield 60, 3) := by decide +kernel
theorem dX4_isDelayItem_32 : decode cX4_isDelayItem 32 = .ok (.putfield 69, 3) := by decide +kernel
theorem dX4_isDelayItem_35 : decode cX4_isDelayItem 35 = .ok (.aload_n 0, 1) := by decide +kernel
theorem dX4_isDelayItem_36 : decode cX4_isDelayItem 36 = .ok (.invokevirtual 66, 3) := by decide +kernel
theorem dX4_isDelayItem_39 : decode cX4_isDelayItem 39 = .ok (.ireturn, 1) := by decide +kernel
theorem dX4_isReadingItem_0 : decode cX4_isReadingItem 0 = .ok (.aload_n 0, 1) := by decide +kernel
theorem dX4_isReadingItem_1 : decode cX4_isReadingItem 1 = .ok (.getfield 18, 3) := by decide +kernel
theorem dX4_isReadingItem_4 : decode cX4_isReadingItem 4 = .ok (.invokevirtual 72, 3) := by decide +kernel
theorem dX4_isReadingItem_7 : decode cX4_isReadingItem 7 = .ok (.ifCond .ne 28, 3) := by decide +kernel
theorem dX4_isReadingItem_10 : decode cX4_isReadingItem 10 = .ok (.aload_n 0, 1) := by decide +kernel
theorem dX4_isReadingItem_11 : decode cX4_isReadingItem 11 = .ok (.iconst 0, 1) := by decide +kernel
theorem dX4_isReadingItem_12 : decode cX4_isReadingItem 12 = .ok (.sipush 999, 3) := by decide +kernel
theorem dX4_isReadingItem_15 : decode cX4_isReadingItem 15 = .ok (.invokevirtual 56, 3) := by decide +kernel
theorem dX4_isReadingItem_18 : decode cX4_isReadingItem 18 = .ok (.ifCond .eq 17, 3) := by decide +kernel
theorem dX4_isReadingItem_21 : decode cX4_isReadingItem 21 = .ok (.aload_n 0, 1) := by decide +kernel
theorem dX4_isReadingItem_22 : decode cX4_isReadingItem 22 = .ok (.getfield 18, 3) := by decide +kernel
theorem dX4_isReadingItem_25 : decode cX4_isReadingItem 25 = .ok (.aload_n 0, 1) := by decide +kernel
theorem dX4_isReadingItem_26 : decode cX4_isReadingItem 26 = .ok (.getfield 60, 3) := by decide +kernel
theorem dX4_isReadingItem_29 : decode cX4_isReadingItem 29 = .ok (.invokevirtual 75, 3) := by decide +kernel
theorem dX4_isReadingItem_32 : decode cX4_isReadingItem 32 = .ok (.ifCond .ne 5, 3) := by decide +kernel
theorem dX4_isReadingItem_35 : decode cX4_isReadingItem 35 = .ok (.iconst 0, 1) := by decide +kernel
theorem dX4_isReadingItem_36 : decode cX4_isReadingItem 36 = .ok (.ireturn, 1) := by decide +kernel
theorem dX4_isReadingItem_37 : decode cX4_isReadingItem 37 = .ok (.aload_n 0, 1) := by decide +kernel
theorem dX4_isReadingItem_38 : decode cX4_isReadingItem 38 = .ok (.getfield 60, 3) := by decide +kernel
theorem dX4_isReadingItem_41 : decode cX4_isReadingItem 41 = .ok (.istore_n 2, 1) := by decide +kernel
theorem dX4_isReadingItem_42 : decode cX4_isReadingItem 42 = .ok (.iload_n 1, 1) := by decide +kernel
theorem dX4_isReadingItem_43 : decode cX4_isReadingItem 43 = .ok (.ifCond .eq 16, 3) := by decide +kernel
theorem dX4_isReadingItem_46 : decode cX4_isReadingItem 46 = .ok (.aload_n 0, 1) := by decide +kernel
theorem dX4_isReadingItem_47 : decode cX4_isReadingItem 47 = .ok (.iconst 0, 1) := by decide +kernel
theorem dX4_isReadingItem_48 : decode cX4_isReadingItem 48 = .ok (.sipush 999, 3) := by decide +kernel
theorem dX4_isReadingItem_51 : decode cX4_isReadingItem 51 = .ok (.invokevirtual 56, 3) := by decide +kernel
theorem dX4_isReadingItem_54 : decode cX4_isReadingItem 54 = .ok (.ifCond .ne 5, 3) := by decide +kernel
theorem dX4_isReadingItem_57 : decode cX4_isReadingItem 57 = .ok (.iconst 0, 1) := by decide +kernel
theorem dX4_isReadingItem_58 : decode cX4_isReadingItem 58 = .ok (.ireturn, 1) := by decide +kernel
theorem dX4_isReadingItem_59 : decode cX4_isReadingItem 59 = .ok (.aload_n 0, 1) := by decide +kernel
theorem dX4_isReadingItem_60 : decode cX4_isReadingItem 60 = .ok (.getfield 18, 3) := by decide +kernel
theorem dX4_isReadingItem_63 : decode cX4_isReadingItem 63 = .ok (.iload_n 2, 1) := by decide +kernel
theorem dX4_isReadingItem_64 : decode cX4_isReadingItem 64 = .ok (.iload_n 1, 1) := by decide +kernel
theorem dX4_isReadingItem_65 : decode cX4_isReadingItem 65 = .ok (.ifCond .eq 10, 3) := by decide +kernel
theorem dX4_isReadingItem_68 : decode cX4_isReadingItem 68 = .ok (.aload_n 0, 1) := by decide +kernel
theorem dX4_isReadingItem_69 : decode cX4_isReadingItem 69 = .ok (.getfield 60, 3) := by decide +kernel
theorem dX4_isReadingItem_72 : decode cX4_isReadingItem 72 = .ok (.goto 5, 3) := by decide +kernel
theorem dX4_isReadingItem_75 : decode cX4_isReadingItem 75 = .ok (.bipush (-9), 2) := by decide +kernel
theorem dX4_isReadingItem_77 : decode cX4_isReadingItem 77 = .ok (.invokevirtual 79, 3) := by decide +kernel
theorem dX4_isReadingItem_80 : decode cX4_isReadingItem 80 = .ok (.pop, 1) := by decide +kernel
theorem dX4_isReadingItem_81 : decode cX4_isReadingItem 81 = .ok (.aload_n 0, 1) := by decide +kernel
theorem dX4_isReadingItem_82 : decode cX4_isReadingItem 82 = .ok (.invokevirtual 66, 3) := by decide +kernel
theorem dX4_isReadingItem_85 : decode cX4_isReadingItem 85 = .ok (.ireturn, 1) := by decide +kernel
theorem dX4_isNumber_0 : decode cX4_isNumber 0 = .ok (.aload_n 0, 1) := by decide +kernel
theorem dX4_isNumber_1 : decode cX4_isNumber 1 = .ok (.invokevirtual 36, 3) := by decide +kernel
theorem dX4_isNumber_4 : decode cX4_isNumber 4 = .ok (.aload_n 0, 1) := by decide +kernel
theorem dX4_isNumber_5 : decode cX4_isNumber 5 = .ok (.getfield 39, 3) := by decide +kernel
theorem dX4_isNumber_8 : decode cX4_isNumber 8 = .ok (.iconst 1, 1) := by decide +kernel
theorem dX4_isNumber_9 : decode cX4_isNumber 9 = .ok (.if_icmp .ne 19, 3) := by decide +kernel
theorem dX4_isNumber_12 : decode cX4_isNumber 12 = .ok (.aload_n 0, 1) := by decide +kernel
theorem dX4_isNumber_13 : decode cX4_isNumber 13 = .ok (.getfield 60, 3) := by decide +kernel
theorem dX4_isNumber_16 : decode cX4_isNumber 16 = .ok (.iload_n 1, 1) := by decide +kernel
theorem dX4_isNumber_17 : decode cX4_isNumber 17 = .ok (.iload_n 2, 1) := by decide +kernel
theorem dX4_isNumber_18 : decode cX4_isNumber 18 = .ok (.invokestatic 83, 3) := by decide +kernel
theorem dX4_isNumber_21 : decode cX4_isNumber 21 = .ok (.ifCond .eq 7, 3) := by decide +kernel
theorem dX4_isNumber_24 : decode cX4_isNumber 24 = .ok (.iconst 1, 1) := by decide +kernel
theorem dX4_isNumber_25 : decode cX4_isNumber 25 = .ok (.goto 4, 3) := by decide +kernel
theorem dX4_isNumber_28 : decode cX4_isNumber 28 = .ok (.iconst 0, 1) := by decide +kernel
theorem dX4_isNumber_29 : decode cX4_isNumber 29 = .ok (.ireturn, 1) := by decide +kernel
theorem dX4_isEnded_0 : decode cX4_isEnded 0 = .ok (.aload_n 0, 1) := by decide +kernel
theorem dX4_isEnded_1 : decode cX4_isEnded 1 = .ok (.invokevirtual 36, 3) := by decide +kernel
theorem dX4_isEnded_4 : decode cX4_isEnded 4 = .ok (.aload_n 0, 1) := by decide +kernel
theorem dX4_isEnded_5 : decode cX4_isEnded 5 = .ok (.getfield 39, 3) := by decide +kernel
theorem dX4_isEnded_8 : decode cX4_isEnded 8 = .ok (.bipush 59, 2) := by decide +kernel
theorem dX4_isEnded_10 : decode cX4_isEnded 10 = .ok (.if_icmp .ne 7, 3) := by decide +kernel
theorem dX4_isEnded_13 : decode cX4_isEnded 13 = .ok (.iconst 1, 1) := by decide +kernel
theorem dX4_isEnded_14 : decode cX4_isEnded 14 = .ok (.goto 4, 3) := by decide +kernel
theorem dX4_isEnded_17 : decode cX4_isEnded 17 = .ok (.iconst 0, 1) := by decide +kernel
theorem dX4_isEnded_18 : decode cX4_isEnded 18 = .ok (.ireturn, 1) := by decide +kernel
theorem dX4_readToken_0 : decode cX4_readToken 0 = .ok (.aload_n 0, 1) := by decide +kernel
theorem dX4_readToken_1 : decode cX4_readToken 1 = .ok (.getfield 25, 3) := by decide +kernel
theorem dX4_readToken_4 : decode cX4_readToken 4 = .ok (.bipush 120, 2) := by decide +kernel
theorem dX4_readToken_6 : decode cX4_readToken 6 = .ok (.if_icmp .ge 30, 3) := by decide +kernel
theorem dX4_readToken_9 : decode cX4_readToken 9 = .ok (.aload_n 0, 1) := by decide +kernel
theorem dX4_readToken_10 : decode cX4_readToken 10 = .ok (.getfield 9, 3) := by decide +kernel
theorem dX4_readToken_13 : decode cX4_readToken 13 = .ok (.aload_n 0, 1) := by decide +kernel
theorem dX4_readToken_14 : decode cX4_readToken 14 = .ok (.getfield 25, 3) := by decide +kernel
theorem dX4_readToken_17 : decode cX4_readToken 17 = .ok (.invokevirtual 87, 3) := by decide +kernel
theorem dX4_readToken_20 : decode cX4_readToken 20 = .ok (.ifCond .eq 16, 3) := by decide +kernel
theorem dX4_readToken_23 : decode cX4_readToken 23 = .ok (.aload_n 0, 1) := by decide +kernel
theorem dX4_readToken_24 : decode cX4_readToken 24 = .ok (.dup, 1) := by decide +kernel
theorem dX4_readToken_25 : decode cX4_readToken 25 = .ok (.getfield 25, 3) := by decide +kernel
theorem dX4_readToken_28 : decode cX4_readToken 28 = .ok (.iconst 1, 1) := by decide +kernel
theorem dX4_readToken_29 : decode cX4_readToken 29 = .ok (.iadd, 1) := by decide +kernel
theorem dX4_readToken_30 : decode cX4_readToken 30 = .ok (.putfield 25, 3) := by decide +kernel
theorem dX4_readToken_33 : decode cX4_readToken 33 = .ok (.goto (-33), 3) := by decide +kernel
theorem dX4_readToken_36 : decode cX4_readToken 36 = .ok (.aload_n 0, 1) := by decide +kernel
theorem dX4_readToken_37 : decode cX4_readToken 37 = .ok (.aload_n 0, 1) := by decide +kernel
theorem dX4_readToken_38 : decode cX4_readToken 38 = .ok (.getfield 25, 3) := by decide +kernel
theorem dX4_readToken_41 : decode cX4_readToken 41 = .ok (.putfield 53, 3) := by decide +kernel
theorem dX4_readToken_44 : decode cX4_readToken 44 = .ok (.aload_n 0, 1) := by decide +kernel
theorem dX4_readToken_45 : decode cX4_readToken 45 = .ok (.getfield 25, 3) := by decide +kernel
theorem dX4_readToken_48 : decode cX4_readToken 48 = .ok (.aload_n 0, 1) := by decide +kernel
theorem dX4_readToken_49 : decode cX4_readToken 49 = .ok (.getfield 9, 3) := by decide +kernel
theorem dX4_readToken_52 : decode cX4_readToken 52 = .ok (.getfield 92, 3) := by decide +kernel
theorem dX4_readToken_55 : decode cX4_readToken 55 = .ok (.if_icmp .lt 11, 3) := by decide +kernel
theorem dX4_readToken_58 : decode cX4_readToken 58 = .ok (.aload_n 0, 1) := by decide +kernel
theorem dX4_readToken_59 : decode cX4_readToken 59 = .ok (.iconst 0, 1) := by decide +kernel
theorem dX4_readToken_60 : decode cX4_readToken 60 = .ok (.putfield 39, 3) := by decide +kernel
theorem dX4_readToken_63 : decode cX4_readToken 63 = .ok (.goto 52, 3) := by decide +kernel
theorem dX4_readToken_66 : decode cX4_readToken 66 = .ok (.aload_n 0, 1) := by decide +kernel
theorem dX4_readToken_67 : decode cX4_readToken 67 = .ok (.getfield 9, 3) := by decide +kernel
theorem dX4_readToken_70 : decode cX4_readToken 70 = .ok (.aload_n 0, 1) := by decide +kernel
theorem dX4_readToken_71 : decode cX4_readToken 71 = .ok (.getfield 25, 3) := by decide +kernel
theorem dX4_readToken_74 : decode cX4_readToken 74 = .ok (.invokevirtual 95, 3) := by decide +kernel
theorem dX4_readToken_77 : decode cX4_readToken 77 = .ok (.ifCond .eq 10, 3) := by decide +kernel
theorem dX4_readToken_80 : decode cX4_readToken 80 = .ok (.aload_n 0, 1) := by decide +kernel
theorem dX4_readToken_81 : decode cX4_readToken 81 = .ok (.invokevirtual 98, 3) := by decide +kernel
theorem dX4_readToken_84 : decode cX4_readToken 84 = .ok (.goto 31, 3) := by decide +kernel
theorem dX4_readToken_87 : decode cX4_readToken 87 = .ok (.aload_n 0, 1) := by decide +kernel
theorem dX4_readToken_88 : decode cX4_readToken 88 = .ok (.aload_n 0, 1) := by decide +kernel
theorem dX4_readToken_89 : decode cX4_readToken 89 = .ok (.getfield 9, 3) := by decide +kernel
theorem dX4_readToken_92 : decode cX4_readToken 92 = .ok (.aload_n 0, 1) := by decide +kernel
theorem dX4_readToken_93 : decode cX4_readToken 93 = .ok (.getfield 25, 3) := by decide +kernel
theorem dX4_readToken_96 : decode cX4_readToken 96 = .ok (.invokevirtual 101, 3) := by decide +kernel
theorem dX4_readToken_99 : decode cX4_readToken 99 = .ok (.invokestatic 105, 3) := by decide +kernel
theorem dX4_readToken_102 : decode cX4_readToken 102 = .ok (.putfield 39, 3) := by decide +kernel
theorem dX4_readToken_105 : decode cX4_readToken 105 = .ok (.aload_n 0, 1) := by decide +kernel
theorem dX4_readToken_106 : decode cX4_readToken 106 = .ok (.dup, 1) := by decide +kernel
theorem dX4_readToken_107 : decode cX4_readToken 107 = .ok (.getfield 25, 3) := by decide +kernel
theorem dX4_readToken_110 : decode cX4_readToken 110 = .ok (.iconst 1, 1) := by decide +kernel
theorem dX4_readToken_111 : decode cX4_readToken 111 = .ok (.iadd, 1) := by decide +kernel
theorem dX4_readToken_112 : decode cX4_readToken 112 = .ok (.putfield 25, 3) := by decide +kernel
theorem dX4_readToken_115 : decode cX4_readToken 115 = .ok (.return_, 1) := by decide +kernel
theorem dX4_kindOf_0 : decode cX4_kindOf 0 = .ok (.iload_n 0, 1) := by decide +kernel
theorem dX4_kindOf_1 : decode cX4_kindOf 1 = .ok (.lookupswitch 53 #[(59, 51), (100, 51), (112, 51), (114, 51), (117, 51)], 51) := by decide +kernel
theorem dX4_kindOf_52 : decode cX4_kindOf 52 = .ok (.iload_n 0, 1) := by decide +kernel
theorem dX4_kindOf_53 : decode cX4_kindOf 53 = .ok (.ireturn, 1) := by decide +kernel
theorem dX4_kindOf_54 : decode cX4_kindOf 54 = .ok (.iconst 2, 1) := by decide +kernel
theorem dX4_kindOf_55 : decode cX4_kindOf 55 = .ok (.ireturn, 1) := by decide +kernel
theorem dX4_readDigits_0 : decode cX4_readDigits 0 = .ok (.aload_n 0, 1) := by decide +kernel
theorem dX4_readDigits_1 : decode cX4_readDigits 1 = .ok (.iconst 0, 1) := by decide +kernel
theorem dX4_readDigits_2 : decode cX4_readDigits 2 = .ok (.putfield 60, 3) := by decide +kernel
theorem dX4_readDigits_5 : decode cX4_readDigits 5 = .ok (.aload_n 0, 1) := by decide +kernel
theorem dX4_readDigits_6 : decode cX4_readDigits 6 = .ok (.getfield 25, 3) := by decide +kernel
theorem dX4_readDigits_9 : decode cX4_readDigits 9 = .ok (.bipush 120, 2) := by decide +kernel
theorem dX4_readDigits_11 : decode cX4_readDigits 11 = .ok (.if_icmp .ge 66, 3) := by decide +kernel
theorem dX4_readDigits_14 : decode cX4_readDigits 14 = .ok (.aload_n 0, 1) := by decide +kernel
theorem dX4_readDigits_15 : decode cX4_readDigits 15 = .ok (.getfield 9, 3) := by decide +kernel
theorem dX4_readDigits_18 : decode cX4_readDigits 18 = .ok (.aload_n 0, 1) := by decide +kernel
theorem dX4_readDigits_19 : decode cX4_readDigits 19 = .ok (.getfield 25, 3) := by decide +kernel
theorem dX4_readDigits_22 : decode cX4_readDigits 22 = .ok (.invokevirtual 95, 3) := by decide +kernel
theorem dX4_readDigits_25 : decode cX4_readDigits 25 = .ok (.ifCond .eq 52, 3) := by decide +kernel
theorem dX4_readDigits_28 : decode cX4_readDigits 28 = .ok (.aload_n 0, 1) := by decide +kernel
theorem dX4_readDigits_29 : decode cX4_readDigits 29 = .ok (.getfield 60, 3) := by decide +kernel
theorem dX4_readDigits_32 : decode cX4_readDigits 32 = .ok (.sipush 9999, 3) := by decide +kernel
theorem dX4_readDigits_35 : decode cX4_readDigits 35 = .ok (.if_icmp .gt 29, 3) := by decide +kernel
theorem dX4_readDigits_38 : decode cX4_readDigits 38 = .ok (.aload_n 0, 1) := by decide +kernel
theorem dX4_readDigits_39 : decode cX4_readDigits 39 = .ok (.aload_n 0, 1) := by decide +kernel
theorem dX4_readDigits_40 : decode cX4_readDigits 40 = .ok (.getfield 60, 3) := by decide +kernel
theorem dX4_readDigits_43 : decode cX4_readDigits 43 = .ok (.bipush 10, 2) := by decide +kernel
theorem dX4_readDigits_45 : decode cX4_readDigits 45 = .ok (.imul, 1) := by decide +kernel
theorem dX4_readDigits_46 : decode cX4_readDigits 46 = .ok (.aload_n 0, 1) := by decide +kernel
theorem dX4_readDigits_47 : decode cX4_readDigits 47 = .ok (.getfield 9, 3) := by decide +kernel
theorem dX4_readDigits_50 : decode cX4_readDigits 50 = .ok (.aload_n 0, 1) := by decide +kernel
theorem dX4_readDigits_51 : decode cX4_readDigits 51 = .ok (.getfield 25, 3) := by decide +kernel
theorem dX4_readDigits_54 : decode cX4_readDigits 54 = .ok (.invokevirtual 101, 3) := by decide +kernel
theorem dX4_readDigits_57 : decode cX4_readDigits 57 = .ok (.bipush 48, 2) := by decide +kernel
theorem dX4_readDigits_59 : decode cX4_readDigits 59 = .ok (.isub, 1) := by decide +kernel
theorem dX4_readDigits_60 : decode cX4_readDigits 60 = .ok (.iadd, 1) := by decide +kernel
theorem dX4_readDigits_61 : decode cX4_readDigits 61 = .ok (.putfield 60, 3) := by decide +kernel
theorem dX4_readDigits_64 : decode cX4_readDigits 64 = .ok (.aload_n 0, 1) := by decide +kernel
theorem dX4_readDigits_65 : decode cX4_readDigits 65 = .ok (.dup, 1) := by decide +kernel
theorem dX4_readDigits_66 : decode cX4_readDigits 66 = .ok (.getfield 25, 3) := by decide +kernel
theorem dX4_readDigits_69 : decode cX4_readDigits 69 = .ok (.iconst 1, 1) := by decide +kernel
theorem dX4_readDigits_70 : decode cX4_readDigits 70 = .ok (.iadd, 1) := by decide +kernel
theorem dX4_readDigits_71 : decode cX4_readDigits 71 = .ok (.putfield 25, 3) := by decide +kernel
theorem dX4_readDigits_74 : decode cX4_readDigits 74 = .ok (.goto (-69), 3) := by decide +kernel
theorem dX4_readDigits_77 : decode cX4_readDigits 77 = .ok (.aload_n 0, 1) := by decide +kernel
theorem dX4_readDigits_78 : decode cX4_readDigits 78 = .ok (.getfield 9, 3) := by decide +kernel
theorem dX4_readDigits_81 : decode cX4_readDigits 81 = .ok (.aload_n 0, 1) := by decide +kernel
theorem dX4_readDigits_82 : decode cX4_readDigits 82 = .ok (.getfield 53, 3) := by decide +kernel
theorem dX4_readDigits_85 : decode cX4_readDigits 85 = .ok (.invokevirtual 101, 3) := by decide +kernel
theorem dX4_readDigits_88 : decode cX4_readDigits 88 = .ok (.bipush 48, 2) := by decide +kernel
theorem dX4_readDigits_90 : decode cX4_readDigits 90 = .ok (.if_icmp .ne 20, 3) := by decide +kernel
theorem dX4_readDigits_93 : decode cX4_readDigits 93 = .ok (.aload_n 0, 1) := by decide +kernel
theorem dX4_readDigits_94 : decode cX4_readDigits 94 = .ok (.getfield 25, 3) := by decide +kernel
theorem dX4_readDigits_97 : decode cX4_readDigits 97 = .ok (.aload_n 0, 1) := by decide +kernel
theorem dX4_readDigits_98 : decode cX4_readDigits 98 = .ok (.getfield 53, 3) := by decide +kernel
theorem dX4_readDigits_101 : decode cX4_readDigits 101 = .ok (.isub, 1) := by decide +kernel
theorem dX4_readDigits_102 : decode cX4_readDigits 102 = .ok (.iconst 1, 1) := by decide +kernel
theorem dX4_readDigits_103 : decode cX4_readDigits 103 = .ok (.if_icmp .le 7, 3) := by decide +kernel
theorem dX4_readDigits_106 : decode cX4_readDigits 106 = .ok (.iconst 1, 1) := by decide +kernel
theorem dX4_readDigits_107 : decode cX4_readDigits 107 = .ok (.goto 4, 3) := by decide +kernel
theorem dX4_readDigits_110 : decode cX4_readDigits 110 = .ok (.iconst 0, 1) := by decide +kernel
theorem dX4_readDigits_111 : decode cX4_readDigits 111 = .ok (.istore_n 1, 1) := by decide +kernel
theorem dX4_readDigits_112 : decode cX4_readDigits 112 = .ok (.aload_n 0, 1) := by decide +kernel
theorem dX4_readDigits_113 : decode cX4_readDigits 113 = .ok (.iload_n 1, 1) := by decide +kernel
theorem dX4_readDigits_114 : decode cX4_readDigits 114 = .ok (.ifCond .ne 13, 3) := by decide +kernel
theorem dX4_readDigits_117 : decode cX4_readDigits 117 = .ok (.aload_n 0, 1) := by decide +kernel
theorem dX4_readDigits_118 : decode cX4_readDigits 118 = .ok (.getfield 60, 3) := by decide +kernel
theorem dX4_readDigits_121 : decode cX4_readDigits 121 = .ok (.sipush 9999, 3) := by decide +kernel
theorem dX4_readDigits_124 : decode cX4_readDigits 124 = .ok (.if_icmp .le 7, 3) := by decide +kernel
theorem dX4_readDigits_127 : decode cX4_readDigits 127 = .ok (.iconst 2, 1) := by decide +kernel
theorem dX4_readDigits_128 : decode cX4_readDigits 128 = .ok (.goto 4, 3) := by decide +kernel
theorem dX4_readDigits_131 : decode cX4_readDigits 131 = .ok (.iconst 1, 1) := by decide +kernel
theorem dX4_readDigits_132 : decode cX4_readDigits 132 = .ok (.putfield 39, 3) := by decide +kernel
theorem dX4_readDigits_135 : decode cX4_readDigits 135 = .ok (.return_, 1) := by decide +kernel
theorem dX5_init_0 : decode cX5_init 0 = .ok (.aload_n 0, 1) := by decide +kernel
theorem dX5_init_1 : decode cX5_init 1 = .ok (.invokespecial 3, 3) := by decide +kernel
theorem dX5_init_4 : decode cX5_init 4 = .ok (.aload_n 0, 1) := by decide +kernel
theorem dX5_init_5 : decode cX5_init 5 = .ok (.iconst 0, 1) := by decide +kernel
theorem dX5_init_6 : decode cX5_init 6 = .ok (.putfield 9, 3) := by decide +kernel
theorem dX5_init_9 : decode cX5_init 9 = .ok (.aload_n 0, 1) := by decide +kernel
theorem dX5_init_10 : decode cX5_init 10 = .ok (.iconst 0, 1) := by decide +kernel
theorem dX5_init_11 : decode cX5_init 11 = .ok (.putfield 15, 3) := by decide +kernel
theorem dX5_init_14 : decode cX5_init 14 = .ok (.aload_n 0, 1) := by decide +kernel
theorem dX5_init_15 : decode cX5_init 15 = .ok (.iconst 0, 1) := by decide +kernel
theorem dX5_init_16 : decode cX5_init 16 = .ok (.putfield 18, 3) := by decide +kernel
theorem dX5_init_19 : decode cX5_init 19 = .ok (.return_, 1) := by decide +kernel
theorem dX5_isFull_0 : decode cX5_isFull 0 = .ok (.aload_n 0, 1) := by decide +kernel
theorem dX5_isFull_1 : decode cX5_isFull 1 = .ok (.getfield 9, 3) := by decide +kernel
theorem dX5_isFull_4 : decode cX5_isFull 4 = .ok (.bipush 6, 2) := by decide +kernel
theorem dX5_isFull_6 : decode cX5_isFull 6 = .ok (.if_icmp .lt 7, 3) := by decide +kernel
theorem dX5_isFull_9 : decode cX5_isFull 9 = .ok (.iconst 1, 1) := by decide +kernel
theorem dX5_isFull_10 : decode cX5_isFull 10 = .ok (.goto 4, 3) := by decide +kernel
theorem dX5_isFull_13 : decode cX5_isFull 13 = .ok (.iconst 0, 1) := by decide +kernel
theorem dX5_isFull_14 : decode cX5_isFull 14 = .ok (.ireturn, 1) := by decide +kernel
theorem dX5_put_0 : decode cX5_put 0 = .ok (.iload_n 2, 1) := by decide +kernel
theorem dX5_put_1 : decode cX5_put 1 = .ok (.iconst 1, 1) := by decide +kernel
theorem dX5_put_2 : decode cX5_put 2 = .ok (.if_icmp .ne 18, 3) := by decide +kernel
theorem dX5_put_5 : decode cX5_put 5 = .ok (.aload_n 0, 1) := by decide +kernel
theorem dX5_put_6 : decode cX5_put 6 = .ok (.dup, 1) := by decide +kernel
theorem dX5_put_7 : decode cX5_put 7 = .ok (.getfield 15, 3) := by decide +kernel
theorem dX5_put_10 : decode cX5_put 10 = .ok (.iconst 1, 1) := by decide +kernel
theorem dX5_put_11 : decode cX5_put 11 = .ok (.iload_n 1, 1) := by decide +kernel
theorem dX5_put_12 : decode cX5_put 12 = .ok (.ishl, 1) := by decide +kernel
theorem dX5_put_13 : decode cX5_put 13 = .ok (.ior, 1) := by decide +kernel
theorem dX5_put_14 : decode cX5_put 14 = .ok (.putfield 15, 3) := by decide +kernel
theorem dX5_put_17 : decode cX5_put 17 = .ok (.goto 15, 3) := by decide +kernel
theorem dX5_put_20 : decode cX5_put 20 = .ok (.aload_n 0, 1) := by decide +kernel
theorem dX5_put_21 : decode cX5_put 21 = .ok (.dup, 1) := by decide +kernel
theorem dX5_put_22 : decode cX5_put 22 = .ok (.getfield 18, 3) := by decide +kernel
theorem dX5_put_25 : decode cX5_put 25 = .ok (.iconst 1, 1) := by decide +kernel
theorem dX5_put_26 : decode cX5_put 26 = .ok (.iload_n 1, 1) := by decide +kernel
theorem dX5_put_27 : decode cX5_put 27 = .ok (.ishl, 1) := by decide +kernel
theorem dX5_put_28 : decode cX5_put 28 = .ok (.ior, 1) := by decide +kernel
theorem dX5_put_29 : decode cX5_put 29 = .ok (.putfield 18, 3) := by decide +kernel
theorem dX5_put_32 : decode cX5_put 32 = .ok (.aload_n 0, 1) := by decide +kernel
theorem dX5_put_33 : decode cX5_put 33 = .ok (.dup, 1) := by decide +kernel
theorem dX5_put_34 : decode cX5_put 34 = .ok (.getfield 9, 3) := by decide +kernel
theorem dX5_put_37 : decode cX5_put 37 = .ok (.iconst 1, 1) := by decide +kernel
theorem dX5_put_38 : decode cX5_put 38 = .ok (.iadd, 1) := by decide +kernel
theorem dX5_put_39 : decode cX5_put 39 = .ok (.putfield 9, 3) := by decide +kernel
theorem dX5_put_42 : decode cX5_put 42 = .ok (.aload_n 0, 1) := by decide +kernel
theorem dX5_put_43 : decode cX5_put 43 = .ok (.getfield 9, 3) := by decide +kernel
theorem dX5_put_46 : decode cX5_put 46 = .ok (.ireturn, 1) := by decide +kernel
theorem dX5_wipe_0 : decode cX5_wipe 0 = .ok (.aload_n 0, 1) := by decide +kernel
theorem dX5_wipe_1 : decode cX5_wipe 1 = .ok (.getfield 9, 3) := by decide +kernel
theorem dX5_wipe_4 : decode cX5_wipe 4 = .ok (.istore_n 1, 1) := by decide +kernel
theorem dX5_wipe_5 : decode cX5_wipe 5 = .ok (.aload_n 0, 1) := by decide +kernel
theorem dX5_wipe_6 : decode cX5_wipe 6 = .ok (.iconst 0, 1) := by decide +kernel
theorem dX5_wipe_7 : decode cX5_wipe 7 = .ok (.putfield 9, 3) := by decide +kernel
theorem dX5_wipe_10 : decode cX5_wipe 10 = .ok (.aload_n 0, 1) := by decide +kernel
theorem dX5_wipe_11 : decode cX5_wipe 11 = .ok (.iconst 0, 1) := by decide +kernel
theorem dX5_wipe_12 : decode cX5_wipe 12 = .ok (.putfield 15, 3) := by decide +kernel
theorem dX5_wipe_15 : decode cX5_wipe 15 = .ok (.aload_n 0, 1) := by decide +kernel
theorem dX5_wipe_16 : decode cX5_wipe 16 = .ok (.iconst 0, 1) := by decide +kernel
theorem dX5_wipe_17 : decode cX5_wipe 17 = .ok (.putfield 18, 3) := by decide +kernel
theorem dX5_wipe_20 : decode cX5_wipe 20 = .ok (.iload_n 1, 1) := by decide +kernel
theorem dX5_wipe_21 : decode cX5_wipe 21 = .ok (.ireturn, 1) := by decide +kernel
theorem dX5_agreesWith_0 : decode cX5_agreesWith 0 = .ok (.iload_n 1, 1) := by decide +kernel
theorem dX5_agreesWith_1 : decode cX5_agreesWith 1 = .ok (.aload_n 0, 1) := by decide +kernel
theorem dX5_agreesWith_2 : decode cX5_agreesWith 2 = .ok (.getfield 15, 3) := by decide +kernel
theorem dX5_agreesWith_5 : decode cX5_agreesWith 5 = .ok (.iand, 1) := by decide +kernel
theorem dX5_agreesWith_6 : decode cX5_agreesWith 6 = .ok (.aload_n 0, 1) := by decide +kernel
theorem dX5_agreesWith_7 : decode cX5_agreesWith 7 = .ok (.getfield 15, 3) := by decide +kernel
theorem dX5_agreesWith_10 : decode cX5_agreesWith 10 = .ok (.if_icmp .ne 16, 3) := by decide +kernel
theorem dX5_agreesWith_13 : decode cX5_agreesWith 13 = .ok (.iload_n 1, 1) := by decide +kernel
theorem dX5_agreesWith_14 : decode cX5_agreesWith 14 = .ok (.aload_n 0, 1) := by decide +kernel
theorem dX5_agreesWith_15 : decode cX5_agreesWith 15 = .ok (.getfield 18, 3) := by decide +kernel
theorem dX5_agreesWith_18 : decode cX5_agreesWith 18 = .ok (.iand, 1) := by decide +kernel
theorem dX5_agreesWith_19 : decode cX5_agreesWith 19 = .ok (.ifCond .ne 7, 3) := by decide +kernel
theorem dX5_agreesWith_22 : decode cX5_agreesWith 22 = .ok (.iconst 1, 1) := by decide +kernel
theorem dX5_agreesWith_23 : decode cX5_agreesWith 23 = .ok (.goto 4, 3) := by decide +kernel
theorem dX5_agreesWith_26 : decode cX5_agreesWith 26 = .ok (.iconst 0, 1) := by decide +kernel
theorem dX5_agreesWith_27 : decode cX5_agreesWith 27 = .ok (.ireturn, 1) := by decide +kernel
theorem dX6_init_0 : decode cX6_init 0 = .ok (.aload_n 0, 1) := by decide +kernel
theorem dX6_init_1 : decode cX6_init 1 = .ok (.invokespecial 5, 3) := by decide +kernel
theorem dX6_init_4 : decode cX6_init 4 = .ok (.aload_n 0, 1) := by decide +kernel
theorem dX6_init_5 : decode cX6_init 5 = .ok (.iload_n 1, 1) := by decide +kernel
theorem dX6_init_6 : decode cX6_init 6 = .ok (.putfield 11, 3) := by decide +kernel
theorem dX6_init_9 : decode cX6_init 9 = .ok (.aload_n 0, 1) := by decide +kernel
theorem dX6_init_10 : decode cX6_init 10 = .ok (.iload_n 1, 1) := by decide +kernel
theorem dX6_init_11 : decode cX6_init 11 = .ok (.bipush 31, 2) := by decide +kernel
theorem dX6_init_13 : decode cX6_init 13 = .ok (.imul, 1) := by decide +kernel
theorem dX6_init_14 : decode cX6_init 14 = .ok (.newarray .int, 2) := by decide +kernel
theorem dX6_init_16 : decode cX6_init 16 = .ok (.putfield 15, 3) := by decide +kernel
theorem dX6_init_19 : decode cX6_init 19 = .ok (.aload_n 0, 1) := by decide +kernel
theorem dX6_init_20 : decode cX6_init 20 = .ok (.iconst 0, 1) := by decide +kernel
theorem dX6_init_21 : decode cX6_init 21 = .ok (.putfield 19, 3) := by decide +kernel
theorem dX6_init_24 : decode cX6_init 24 = .ok (.return_, 1) := by decide +kernel
theorem dX6_wipe_0 : decode cX6_wipe 0 = .ok (.aload_n 0, 1) := by decide +kernel
theorem dX6_wipe_1 : decode cX6_wipe 1 = .ok (.iconst 0, 1) := by decide +kernel
theorem dX6_wipe_2 : decode cX6_wipe 2 = .ok (.putfield 19, 3) := by decide +kernel
theorem dX6_wipe_5 : decode cX6_wipe 5 = .ok (.return_, 1) := by decide +kernel
theorem dX6_holds_0 : decode cX6_holds 0 = .ok (.iload_n 1, 1) := by decide +kernel
theorem dX6_holds_1 : decode cX6_holds 1 = .ok (.ifCond .lt 27, 3) := by decide +kernel
theorem dX6_holds_4 : decode cX6_holds 4 = .ok (.iload_n 1, 1) := by decide +kernel
theorem dX6_holds_5 : decode cX6_holds 5 = .ok (.aload_n 0, 1) := by decide +kernel
theorem dX6_holds_6 : decode cX6_holds 6 = .ok (.getfield 11, 3) := by decide +kernel
theorem dX6_holds_9 : decode cX6_holds 9 = .ok (.if_icmp .ge 19, 3) := by decide +kernel
theorem dX6_holds_12 : decode cX6_holds 12 = .ok (.aload_n 0, 1) := by decide +kernel
theorem dX6_holds_13 : decode cX6_holds 13 = .ok (.getfield 19, 3) := by decide +kernel
theorem dX6_holds_16 : decode cX6_holds 16 = .ok (.iload_n 1, 1) := by decide +kernel
theorem dX6_holds_17 : decode cX6_holds 17 = .ok (.invokestatic 22, 3) := by decide +kernel
theorem dX6_holds_20 : decode cX6_holds 20 = .ok (.iconst 1, 1) := by decide +kernel
theorem dX6_holds_21 : decode cX6_holds 21 = .ok (.if_icmp .ne 7, 3) := by decide +kernel
theorem dX6_holds_24 : decode cX6_holds 24 = .ok (.iconst 1, 1) := by decide +kernel
theorem dX6_holds_25 : decode cX6_holds 25 = .ok (.goto 4, 3) := by decide +kernel
theorem dX6_holds_28 : decode cX6_holds 28 = .ok (.iconst 0, 1) := by decide +kernel
theorem dX6_holds_29 : decode cX6_holds 29 = .ok (.ireturn, 1) := by decide +kernel
theorem dX6_put_0 : decode cX6_put 0 = .ok (.iload_n 1, 1) := by decide +kernel
theorem dX6_put_1 : decode cX6_put 1 = .ok (.ifCond .lt 11, 3) := by decide +kernel
theorem dX6_put_4 : decode cX6_put 4 = .ok (.iload_n 1, 1) := by decide +kernel
theorem dX6_put_5 : decode cX6_put 5 = .ok (.aload_n 0, 1) := by decide +kernel
theorem dX6_put_6 : decode cX6_put 6 = .ok (.getfield 11, 3) := by decide +kernel
theorem dX6_put_9 : decode cX6_put 9 = .ok (.if_icmp .lt 4, 3) := by decide +kernel
theorem dX6_put_12 : decode cX6_put 12 = .ok (.return_, 1) := by decide +kernel
theorem dX6_put_13 : decode cX6_put 13 = .ok (.iload_n 1, 1) := by decide +kernel
theorem dX6_put_14 : decode cX6_put 14 = .ok (.bipush 31, 2) := by decide +kernel
theorem dX6_put_16 : decode cX6_put 16 = .ok (.imul, 1) := by decide +kernel
theorem dX6_put_17 : decode cX6_put 17 = .ok (.istore_n 3, 1) := by decide +kernel
theorem dX6_put_18 : decode cX6_put 18 = .ok (.aload_n 0, 1) := by decide +kernel
theorem dX6_put_19 : decode cX6_put 19 = .ok (.getfield 15, 3) := by decide +kernel
theorem dX6_put_22 : decode cX6_put 22 = .ok (.iload_n 3, 1) := by decide +kernel
theorem dX6_put_23 : decode cX6_put 23 = .ok (.iconst 0, 1) := by decide +kernel
theorem dX6_put_24 : decode cX6_put 24 = .ok (.iadd, 1) := by decide +kernel
theorem dX6_put_25 : decode cX6_put 25 = .ok (.aload_n 2, 1) := by decide +kernel
theorem dX6_put_26 : decode cX6_put 26 = .ok (.getfield 26, 3) := by decide +kernel
theorem dX6_put_29 : decode cX6_put 29 = .ok (.iastore, 1) := by decide +kernel
theorem dX6_put_30 : decode cX6_put 30 = .ok (.aload_n 0, 1) := by decide +kernel
theorem dX6_put_31 : decode cX6_put 31 = .ok (.getfield 15, 3) := by decide +kernel
theorem dX6_put_34 : decode cX6_put 34 = .ok (.iload_n 3, 1) := by decide +kernel
theorem dX6_put_35 : decode cX6_put 35 = .ok (.iconst 1, 1) := by decide +kernel
theorem dX6_put_36 : decode cX6_put 36 = .ok (.iadd, 1) := by decide +kernel
theorem dX6_put_37 : decode cX6_put 37 = .ok (.aload_n 2, 1) := by decide +kernel
theorem dX6_put_38 : decode cX6_put 38 = .ok (.getfield 31, 3) := by decide +kernel
theorem dX6_put_41 : decode cX6_put 41 = .ok (.iastore, 1) := by decide +kernel
theorem dX6_put_42 : decode cX6_put 42 = .ok (.aload_n 0, 1) := by decide +kernel
theorem dX6_put_43 : decode cX6_put 43 = .ok (.getfield 15, 3) := by decide +kernel
theorem dX6_put_46 : decode cX6_put 46 = .ok (.iload_n 3, 1) := by decide +kernel
theorem dX6_put_47 : decode cX6_put 47 = .ok (.iconst 2, 1) := by decide +kernel
theorem dX6_put_48 : decode cX6_put 48 = .ok (.iadd, 1) := by decide +kernel
theorem dX6_put_49 : decode cX6_put 49 = .ok (.aload_n 2, 1) := by decide +kernel
theorem dX6_put_50 : decode cX6_put 50 = .ok (.getfield 34, 3) := by decide +kernel
theorem dX6_put_53 : decode cX6_put 53 = .ok (.iastore, 1) := by decide +kernel
theorem dX6_put_54 : decode cX6_put 54 = .ok (.iconst 0, 1) := by decide +kernel
theorem dX6_put_55 : decode cX6_put 55 = .ok (.istore 4, 2) := by decide +kernel
theorem dX6_put_57 : decode cX6_put 57 = .ok (.iload 4, 2) := by decide +kernel
theorem dX6_put_59 : decode cX6_put 59 = .ok (.bipush 14, 2) := by decide +kernel
theorem dX6_put_61 : decode cX6_put 61 = .ok (.if_icmp .ge 46, 3) := by decide +kernel
theorem dX6_put_64 : decode cX6_put 64 = .ok (.aload_n 0, 1) := by decide +kernel
theorem dX6_put_65 : decode cX6_put 65 = .ok (.getfield 15, 3) := by decide +kernel
theorem dX6_put_68 : decode cX6_put 68 = .ok (.iload_n 3, 1) := by decide +kernel
theorem dX6_put_69 : decode cX6_put 69 = .ok (.iconst 3, 1) := by decide +kernel
theorem dX6_put_70 : decode cX6_put 70 = .ok (.iadd, 1) := by decide +kernel
theorem dX6_put_71 : decode cX6_put 71 = .ok (.iload 4, 2) := by decide +kernel
theorem dX6_put_73 : decode cX6_put 73 = .ok (.iadd, 1) := by decide +kernel
theorem dX6_put_74 : decode cX6_put 74 = .ok (.aload_n 2, 1) := by decide +kernel
theorem dX6_put_75 : decode cX6_put 75 = .ok (.getfield 37, 3) := by decide +kernel
theorem dX6_put_78 : decode cX6_put 78 = .ok (.iload 4, 2) := by decide +kernel
theorem dX6_put_80 : decode cX6_put 80 = .ok (.iaload, 1) := by decide +kernel
theorem dX6_put_81 : decode cX6_put 81 = .ok (.iastore, 1) := by decide +kernel
theorem dX6_put_82 : decode cX6_put 82 = .ok (.aload_n 0, 1) := by decide +kernel
theorem dX6_put_83 : decode cX6_put 83 = .ok (.getfield 15, 3) := by decide +kernel
theorem dX6_put_86 : decode cX6_put 86 = .ok (.iload_n 3, 1) := by decide +kernel
theorem dX6_put_87 : decode cX6_put 87 = .ok (.bipush 17, 2) := by decide +kernel
theorem dX6_put_89 : decode cX6_put 89 = .ok (.iadd, 1) := by decide +kernel
theorem dX6_put_90 : decode cX6_put 90 = .ok (.iload 4, 2) := by decide +kernel
theorem dX6_put_92 : decode cX6_put 92 = .ok (.iadd, 1) := by decide +kernel
theorem dX6_put_93 : decode cX6_put 93 = .ok (.aload_n 2, 1) := by decide +kernel
theorem dX6_put_94 : decode cX6_put 94 = .ok (.getfield 40, 3) := by decide +kernel
theorem dX6_put_97 : decode cX6_put 97 = .ok (.iload 4, 2) := by decide +kernel
theorem dX6_put_99 : decode cX6_put 99 = .ok (.iaload, 1) := by decide +kernel
theorem dX6_put_100 : decode cX6_put 100 = .ok (.iastore, 1) := by decide +kernel
theorem dX6_put_101 : decode cX6_put 101 = .ok (.iinc 4 1, 3) := by decide +kernel
theorem dX6_put_104 : decode cX6_put 104 = .ok (.goto (-47), 3) := by decide +kernel
theorem dX6_put_107 : decode cX6_put 107 = .ok (.aload_n 0, 1) := by decide +kernel
theorem dX6_put_108 : decode cX6_put 108 = .ok (.dup, 1) := by decide +kernel
theorem dX6_put_109 : decode cX6_put 109 = .ok (.getfield 19, 3) := by decide +kernel
theorem dX6_put_112 : decode cX6_put 112 = .ok (.iconst 1, 1) := by decide +kernel
theorem dX6_put_113 : decode cX6_put 113 = .ok (.iload_n 1, 1) := by decide +kernel
theorem dX6_put_114 : decode cX6_put 114 = .ok (.ishl, 1) := by decide +kernel
theorem dX6_put_115 : decode cX6_put 115 = .ok (.ior, 1) := by decide +kernel
theorem dX6_put_116 : decode cX6_put 116 = .ok (.putfield 19, 3) := by decide +kernel
theorem dX6_put_119 : decode cX6_put 119 = .ok (.return_, 1) := by decide +kernel
theorem dX6_take_0 : decode cX6_take 0 = .ok (.aload_n 0, 1) := by decide +kernel
theorem dX6_take_1 : decode cX6_take 1 = .ok (.iload_n 1, 1) := by decide +kernel
theorem dX6_take_2 : decode cX6_take 2 = .ok (.invokevirtual 43, 3) := by decide +kernel
theorem dX6_take_5 : decode cX6_take 5 = .ok (.ifCond .ne 4, 3) := by decide +kernel
theorem dX6_take_8 : decode cX6_take 8 = .ok (.return_, 1) := by decide +kernel
theorem dX6_take_9 : decode cX6_take 9 = .ok (.iload_n 1, 1) := by decide +kernel
theorem dX6_take_10 : decode cX6_take 10 = .ok (.bipush 31, 2) := by decide +kernel
theorem dX6_take_12 : decode cX6_take 12 = .ok (.imul, 1) := by decide +kernel
theorem dX6_take_13 : decode cX6_take 13 = .ok (.istore_n 3, 1) := by decide +kernel
theorem dX6_take_14 : decode cX6_take 14 = .ok (.aload_n 2, 1) := by decide +kernel
theorem dX6_take_15 : decode cX6_take 15 = .ok (.aload_n 0, 1) := by decide +kernel
theorem dX6_take_16 : decode cX6_take 16 = .ok (.getfield 15, 3) := by decide +kernel
theorem dX6_take_19 : decode cX6_take 19 = .ok (.iload_n 3, 1) := by decide +kernel
theorem dX6_take_20 : decode cX6_take 20 = .ok (.iconst 0, 1) := by decide +kernel
theorem dX6_take_21 : decode cX6_take 21 = .ok (.iadd, 1) := by decide +kernel
theorem dX6_take_22 : decode cX6_take 22 = .ok (.iaload, 1) := by decide +kernel
theorem dX6_take_23 : decode cX6_take 23 = .ok (.putfield 26, 3) := by decide +kernel
theorem dX6_take_26 : decode cX6_take 26 = .ok (.aload_n 2, 1) := by decide +kernel
theorem dX6_take_27 : decode cX6_take 27 = .ok (.aload_n 0, 1) := by decide +kernel
theorem dX6_take_28 : decode cX6_take 28 = .ok (.getfield 15, 3) := by decide +kernel
theorem dX6_take_31 : decode cX6_take 31 = .ok (.iload_n 3, 1) := by decide +kernel
theorem dX6_take_32 : decode cX6_take 32 = .ok (.iconst 1, 1) := by decide +kernel
theorem dX6_take_33 : decode cX6_take 33 = .ok (.iadd, 1) := by decide +kernel
theorem dX6_take_34 : decode cX6_take 34 = .ok (.iaload, 1) := by decide +kernel
theorem dX6_take_35 : decode cX6_take 35 = .ok (.putfield 31, 3) := by decide +kernel
theorem dX6_take_38 : decode cX6_take 38 = .ok (.aload_n 2, 1) := by decide +kernel
theorem dX6_take_39 : decode cX6_take 39 = .ok (.aload_n 0, 1) := by decide +kernel
theorem dX6_take_40 : decode cX6_take 40 = .ok (.getfield 15, 3) := by decide +kernel
theorem dX6_take_43 : decode cX6_take 43 = .ok (.iload_n 3, 1) := by decide +kernel
theorem dX6_take_44 : decode cX6_take 44 = .ok (.iconst 2, 1) := by decide +kernel
theorem dX6_take_45 : decode cX6_take 45 = .ok (.iadd, 1) := by decide +kernel
theorem dX6_take_46 : decode cX6_take 46 = .ok (.iaload, 1) := by decide +kernel
theorem dX6_take_47 : decode cX6_take 47 = .ok (.putfield 34, 3) := by decide +kernel
theorem dX6_take_50 : decode cX6_take 50 = .ok (.iconst 0, 1) := by decide +kernel
theorem dX6_take_51 : decode cX6_take 51 = .ok (.istore 4, 2) := by decide +kernel
theorem dX6_take_53 : decode cX6_take 53 = .ok (.iload 4, 2) := by decide +kernel
theorem dX6_take_55 : decode cX6_take 55 = .ok (.bipush 14, 2) := by decide +kernel
theorem dX6_take_57 : decode cX6_take 57 = .ok (.if_icmp .ge 46, 3) := by decide +kernel
theorem dX6_take_60 : decode cX6_take 60 = .ok (.aload_n 2, 1) := by decide +kernel
theorem dX6_take_61 : decode cX6_take 61 = .ok (.getfield 37, 3) := by decide +kernel
theorem dX6_take_64 : decode cX6_take 64 = .ok (.iload 4, 2) := by decide +kernel
theorem dX6_take_66 : decode cX6_take 66 = .ok (.aload_n 0, 1) := by decide +kernel
theorem dX6_take_67 : decode cX6_take 67 = .ok (.getfield 15, 3) := by decide +kernel
theorem dX6_take_70 : decode cX6_take 70 = .ok (.iload_n 3, 1) := by decide +kernel
theorem dX6_take_71 : decode cX6_take 71 = .ok (.iconst 3, 1) := by decide +kernel
theorem dX6_take_72 : decode cX6_take 72 = .ok (.iadd, 1) := by decide +kernel
theorem dX6_take_73 : decode cX6_take 73 = .ok (.iload 4, 2) := by decide +kernel
theorem dX6_take_75 : decode cX6_take 75 = .ok (.iadd, 1) := by decide +kernel
theorem dX6_take_76 : decode cX6_take 76 = .ok (.iaload, 1) := by decide +kernel
theorem dX6_take_77 : decode cX6_take 77 = .ok (.iastore, 1) := by decide +kernel
theorem dX6_take_78 : decode cX6_take 78 = .ok (.aload_n 2, 1) := by decide +kernel
theorem dX6_take_79 : decode cX6_take 79 = .ok (.getfield 40, 3) := by decide +kernel
theorem dX6_take_82 : decode cX6_take 82 = .ok (.iload 4, 2) := by decide +kernel
theorem dX6_take_84 : decode cX6_take 84 = .ok (.aload_n 0, 1) := by decide +kernel
theorem dX6_take_85 : decode cX6_take 85 = .ok (.getfield 15, 3) := by decide +kernel
theorem dX6_take_88 : decode cX6_take 88 = .ok (.iload_n 3, 1) := by decide +kernel
theorem dX6_take_89 : decode cX6_take 89 = .ok (.bipush 17, 2) := by decide +kernel
theorem dX6_take_91 : decode cX6_take 91 = .ok (.iadd, 1) := by decide +kernel
theorem dX6_take_92 : decode cX6_take 92 = .ok (.iload 4, 2) := by decide +kernel
theorem dX6_take_94 : decode cX6_take 94 = .ok (.iadd, 1) := by decide +kernel
theorem dX6_take_95 : decode cX6_take 95 = .ok (.iaload, 1) := by decide +kernel
theorem dX6_take_96 : decode cX6_take 96 = .ok (.iastore, 1) := by decide +kernel
theorem dX6_take_97 : decode cX6_take 97 = .ok (.iinc 4 1, 3) := by decide +kernel
theorem dX6_take_100 : decode cX6_take 100 = .ok (.goto (-47), 3) := by decide +kernel
theorem dX6_take_103 : decode cX6_take 103 = .ok (.return_, 1) := by decide +kernel
theorem dX7_init_0 : decode cX7_init 0 = .ok (.aload_n 0, 1) := by decide +kernel
theorem dX7_init_1 : decode cX7_init 1 = .ok (.invokespecial 3, 3) := by decide +kernel
theorem dX7_init_4 : decode cX7_init 4 = .ok (.aload_n 0, 1) := by decide +kernel
theorem dX7_init_5 : decode cX7_init 5 = .ok (.aload_n 1, 1) := by decide +kernel
theorem dX7_init_6 : decode cX7_init 6 = .ok (.putfield 9, 3) := by decide +kernel
theorem dX7_init_9 : decode cX7_init 9 = .ok (.aload_n 0, 1) := by decide +kernel
theorem dX7_init_10 : decode cX7_init 10 = .ok (.aload_n 2, 1) := by decide +kernel
theorem dX7_init_11 : decode cX7_init 11 = .ok (.putfield 15, 3) := by decide +kernel
theorem dX7_init_14 : decode cX7_init 14 = .ok (.aload_n 0, 1) := by decide +kernel
theorem dX7_init_15 : decode cX7_init 15 = .ok (.aload_n 3, 1) := by decide +kernel
theorem dX7_init_16 : decode cX7_init 16 = .ok (.putfield 19, 3) := by decide +kernel
theorem dX7_init_19 : decode cX7_init 19 = .ok (.aload_n 0, 1) := by decide +kernel
theorem dX7_init_20 : decode cX7_init 20 = .ok (.bipush 100, 2) := by decide +kernel
theorem dX7_init_22 : decode cX7_init 22 = .ok (.newarray .int, 2) := by decide +kernel
theorem dX7_init_24 : decode cX7_init 24 = .ok (.putfield 23, 3) := by decide +kernel
theorem dX7_init_27 : decode cX7_init 27 = .ok (.aload_n 0, 1) := by decide +kernel
theorem dX7_init_28 : decode cX7_init 28 = .ok (.iconst 0, 1) := by decide +kernel
theorem dX7_init_29 : decode cX7_init 29 = .ok (.putfield 27, 3) := by decide +kernel
theorem dX7_init_32 : decode cX7_init 32 = .ok (.aload_n 0, 1) := by decide +kernel
theorem dX7_init_33 : decode cX7_init 33 = .ok (.iconst 0, 1) := by decide +kernel
theorem dX7_init_34 : decode cX7_init 34 = .ok (.putfield 31, 3) := by decide +kernel
theorem dX7_init_37 : decode cX7_init 37 = .ok (.aload_n 0, 1) := by decide +kernel
theorem dX7_init_38 : decode cX7_init 38 = .ok (.bipush (-9), 2) := by decide +kernel
theorem dX7_init_40 : decode cX7_init 40 = .ok (.putfield 35, 3) := by decide +kernel
theorem dX7_init_43 : decode cX7_init 43 = .ok (.aload_n 0, 1) := by decide +kernel
theorem dX7_init_44 : decode cX7_init 44 = .ok (.bipush (-9), 2) := by decide +kernel
theorem dX7_init_46 : decode cX7_init 46 = .ok (.putfield 38, 3) := by decide +kernel
theorem dX7_init_49 : decode cX7_init 49 = .ok (.return_, 1) := by decide +kernel
theorem dX7_outdate_0 : decode cX7_outdate 0 = .ok (.aload_n 0, 1) := by decide +kernel
theorem dX7_outdate_1 : decode cX7_outdate 1 = .ok (.iconst 1, 1) := by decide +kernel
theorem dX7_outdate_2 : decode cX7_outdate 2 = .ok (.putfield 27, 3) := by decide +kernel
theorem dX7_outdate_5 : decode cX7_outdate 5 = .ok (.return_, 1) := by decide +kernel
theorem dX7_run_0 : decode cX7_run 0 = .ok (.aload_n 0, 1) := by decide +kernel
theorem dX7_run_1 : decode cX7_run 1 = .ok (.invokevirtual 41, 3) := by decide +kernel
theorem dX7_run_4 : decode cX7_run 4 = .ok (.aload_n 0, 1) := by decide +kernel
theorem dX7_run_5 : decode cX7_run 5 = .ok (.iconst 0, 1) := by decide +kernel
theorem dX7_run_6 : decode cX7_run 6 = .ok (.putfield 31, 3) := by decide +kernel
theorem dX7_run_9 : decode cX7_run 9 = .ok (.aload_n 0, 1) := by decide +kernel
theorem dX7_run_10 : decode cX7_run 10 = .ok (.bipush (-9), 2) := by decide +kernel
theorem dX7_run_12 : decode cX7_run 12 = .ok (.putfield 35, 3) := by decide +kernel
theorem dX7_run_15 : decode cX7_run 15 = .ok (.aload_n 0, 1) := by decide +kernel
theorem dX7_run_16 : decode cX7_run 16 = .ok (.bipush (-9), 2) := by decide +kernel
theorem dX7_run_18 : decode cX7_run 18 = .ok (.putfield 38, 3) := by decide +kernel
theorem dX7_run_21 : decode cX7_run 21 = .ok (.iconst 0, 1) := by decide +kernel
theorem dX7_run_22 : decode cX7_run 22 = .ok (.istore_n 1, 1) := by decide +kernel
theorem dX7_run_23 : decode cX7_run 23 = .ok (.iload_n 1, 1) := by decide +kernel
theorem dX7_run_24 : decode cX7_run 24 = .ok (.bipush 99, 2) := by decide +kernel
theorem dX7_run_26 : decode cX7_run 26 = .ok (.if_icmp .gt 64, 3) := by decide +kernel
theorem dX7_run_29 : decode cX7_run 29 = .ok (.aload_n 0, 1) := by decide +kernel
theorem dX7_run_30 : decode cX7_run 30 = .ok (.getfield 19, 3) := by decide +kernel
theorem dX7_run_33 : decode cX7_run 33 = .ok (.aload_n 0, 1) := by decide +kernel
theorem dX7_run_34 : decode cX7_run 34 = .ok (.getfield 23, 3) := by decide +kernel
theorem dX7_run_37 : decode cX7_run 37 = .ok (.iload_n 1, 1) := by decide +kernel
theorem dX7_run_38 : decode cX7_run 38 = .ok (.iaload, 1) := by decide +kernel
theorem dX7_run_39 : decode cX7_run 39 = .ok (.invokevirtual 44, 3) := by decide +kernel
theorem dX7_run_42 : decode cX7_run 42 = .ok (.ifCond .ne 6, 3) := by decide +kernel
theorem dX7_run_45 : decode cX7_run 45 = .ok (.goto 39, 3) := by decide +kernel
theorem dX7_run_48 : decode cX7_run 48 = .ok (.aload_n 0, 1) := by decide +kernel
theorem dX7_run_49 : decode cX7_run 49 = .ok (.dup, 1) := by decide +kernel
theorem dX7_run_50 : decode cX7_run 50 = .ok (.getfield 31, 3) := by decide +kernel
theorem dX7_run_53 : decode cX7_run 53 = .ok (.iconst 1, 1) := by decide +kernel
theorem dX7_run_54 : decode cX7_run 54 = .ok (.iadd, 1) := by decide +kernel
theorem dX7_run_55 : decode cX7_run 55 = .ok (.putfield 31, 3) := by decide +kernel
theorem dX7_run_58 : decode cX7_run 58 = .ok (.aload_n 0, 1) := by decide +kernel
theorem dX7_run_59 : decode cX7_run 59 = .ok (.aload_n 0, 1) := by decide +kernel
theorem dX7_run_60 : decode cX7_run 60 = .ok (.getfield 35, 3) := by decide +kernel
theorem dX7_run_63 : decode cX7_run 63 = .ok (.bipush (-9), 2) := by decide +kernel
theorem dX7_run_65 : decode cX7_run 65 = .ok (.if_icmp .ne 7, 3) := by decide +kernel
theorem dX7_run_68 : decode cX7_run 68 = .ok (.iload_n 1, 1) := by decide +kernel
theorem dX7_run_69 : decode cX7_run 69 = .ok (.goto 7, 3) := by decide +kernel
theorem dX7_run_72 : decode cX7_run 72 = .ok (.aload_n 0, 1) := by decide +kernel
theorem dX7_run_73 : decode cX7_run 73 = .ok (.getfield 35, 3) := by decide +kernel
theorem dX7_run_76 : decode cX7_run 76 = .ok (.putfield 35, 3) := by decide +kernel
theorem dX7_run_79 : decode cX7_run 79 = .ok (.aload_n 0, 1) := by decide +kernel
theorem dX7_run_80 : decode cX7_run 80 = .ok (.iload_n 1, 1) := by decide +kernel
theorem dX7_run_81 : decode cX7_run 81 = .ok (.putfield 38, 3) := by decide +kernel
theorem dX7_run_84 : decode cX7_run 84 = .ok (.iinc 1 1, 3) := by decide +kernel
theorem dX7_run_87 : decode cX7_run 87 = .ok (.goto (-64), 3) := by decide +kernel
theorem dX7_run_90 : decode cX7_run 90 = .ok (.return_, 1) := by decide +kernel
theorem dX7_swingAllDoors_0 : decode cX7_swingAllDoors 0 = .ok (.aload_n 0, 1) := by decide +kernel
theorem dX7_swingAllDoors_1 : decode cX7_swingAllDoors 1 = .ok (.getfield 27, 3) := by decide +kernel
theorem dX7_swingAllDoors_4 : decode cX7_swingAllDoors 4 = .ok (.ifCond .ne 4, 3) := by decide +kernel
theorem dX7_swingAllDoors_7 : decode cX7_swingAllDoors 7 = .ok (.return_, 1) := by decide +kernel
theorem dX7_swingAllDoors_8 : decode cX7_swingAllDoors 8 = .ok (.aload_n 0, 1) := by decide +kernel
theorem dX7_swingAllDoors_9 : decode cX7_swingAllDoors 9 = .ok (.iconst 0, 1) := by decide +kernel
theorem dX7_swingAllDoors_10 : decode cX7_swingAllDoors 10 = .ok (.putfield 27, 3) := by decide +kernel
theorem dX7_swingAllDoors_13 : decode cX7_swingAllDoors 13 = .ok (.iconst 0, 1) := by decide +kernel
theorem dX7_swingAllDoors_14 : decode cX7_swingAllDoors 14 = .ok (.istore_n 1, 1) := by decide +kernel
theorem dX7_swingAllDoors_15 : decode cX7_swingAllDoors 15 = .ok (.iload_n 1, 1) := by decide +kernel
theorem dX7_swingAllDoors_16 : decode cX7_swingAllDoors 16 = .ok (.bipush 99, 2) := by decide +kernel
theorem dX7_swingAllDoors_18 : decode cX7_swingAllDoors 18 = .ok (.if_icmp .gt 23, 3) := by decide +kernel
theorem dX7_swingAllDoors_21 : decode cX7_swingAllDoors 21 = .ok (.aload_n 0, 1) := by decide +kernel
theorem dX7_swingAllDoors_22 : decode cX7_swingAllDoors 22 = .ok (.getfield 23, 3) := by decide +kernel
theorem dX7_swingAllDoors_25 : decode cX7_swingAllDoors 25 = .ok (.iload_n 1, 1) := by decide +kernel
theorem dX7_swingAllDoors_26 : decode cX7_swingAllDoors 26 = .ok (.aload_n 0, 1) := by decide +kernel
theorem dX7_swingAllDoors_27 : decode cX7_swingAllDoors 27 = .ok (.getfield 15, 3) := by decide +kernel
theorem dX7_swingAllDoors_30 : decode cX7_swingAllDoors 30 = .ok (.iload_n 1, 1) := by decide +kernel
theorem dX7_swingAllDoors_31 : decode cX7_swingAllDoors 31 = .ok (.invokevirtual 50, 3) := by decide +kernel
theorem dX7_swingAllDoors_34 : decode cX7_swingAllDoors 34 = .ok (.iastore, 1) := by decide +kernel
theorem dX7_swingAllDoors_35 : decode cX7_swingAllDoors 35 = .ok (.iinc 1 1, 3) := by decide +kernel
theorem dX7_swingAllDoors_38 : decode cX7_swingAllDoors 38 = .ok (.goto (-23), 3) := by decide +kernel
theorem dX7_swingAllDoors_41 : decode cX7_swingAllDoors 41 = .ok (.return_, 1) := by decide +kernel
theorem dX7_bestReading_0 : decode cX7_bestReading 0 = .ok (.bipush (-9), 2) := by decide +kernel
theorem dX7_bestReading_2 : decode cX7_bestReading 2 = .ok (.istore_n 1, 1) := by decide +kernel
theorem dX7_bestReading_3 : decode cX7_bestReading 3 = .ok (.aload_n 0, 1) := by decide +kernel
theorem dX7_bestReading_4 : decode cX7_bestReading 4 = .ok (.getfield 31, 3) := by decide +kernel
theorem dX7_bestReading_7 : decode cX7_bestReading 7 = .ok (.iconst 1, 1) := by decide +kernel
theorem dX7_bestReading_8 : decode cX7_bestReading 8 = .ok (.iadd, 1) := by decide +kernel
theorem dX7_bestReading_9 : decode cX7_bestReading 9 = .ok (.istore_n 2, 1) := by decide +kernel
theorem dX7_bestReading_10 : decode cX7_bestReading 10 = .ok (.iconst 0, 1) := by decide +kernel
end
section
theorem dX7_bestReading_11 : decode cX7_bestReading 11 = .ok (.istore_n 3, 1) := by decide +kernel
theorem dX7_bestReading_12 : decode cX7_bestReading 12 = .ok (.iload_n 3, 1) := by decide +kernel
theorem dX7_bestReading_13 : decode cX7_bestReading 13 = .ok (.aload_n 0, 1) := by decide +kernel
theorem dX7_bestReading_14 : decode cX7_bestReading 14 = .ok (.getfield 9, 3) := by decide +kernel
theorem dX7_bestReading_17 : decode cX7_bestReading 17 = .ok (.getfield 56, 3) := by decide +kernel
theorem dX7_bestReading_20 : decode cX7_bestReading 20 = .ok (.if_icmp .ge 60, 3) := by decide +kernel
theorem dX7_bestReading_23 : decode cX7_bestReading 23 = .ok (.aload_n 0, 1) := by decide +kernel
theorem dX7_bestReading_24 : decode cX7_bestReading 24 = .ok (.getfield 31, 3) := by decide +kernel
theorem dX7_bestReading_27 : decode cX7_bestReading 27 = .ok (.iconst 1, 1) := by decide +kernel
theorem dX7_bestReading_28 : decode cX7_bestReading 28 = .ok (.if_icmp .le 52, 3) := by decide +kernel
theorem dX7_bestReading_31 : decode cX7_bestReading 31 = .ok (.aload_n 0, 1) := by decide +kernel
theorem dX7_bestReading_32 : decode cX7_bestReading 32 = .ok (.iload_n 3, 1) := by decide +kernel
theorem dX7_bestReading_33 : decode cX7_bestReading 33 = .ok (.invokevirtual 61, 3) := by decide +kernel
theorem dX7_bestReading_36 : decode cX7_bestReading 36 = .ok (.istore 4, 2) := by decide +kernel
theorem dX7_bestReading_38 : decode cX7_bestReading 38 = .ok (.iload 4, 2) := by decide +kernel
theorem dX7_bestReading_40 : decode cX7_bestReading 40 = .ok (.aload_n 0, 1) := by decide +kernel
theorem dX7_bestReading_41 : decode cX7_bestReading 41 = .ok (.getfield 31, 3) := by decide +kernel
theorem dX7_bestReading_44 : decode cX7_bestReading 44 = .ok (.iload 4, 2) := by decide +kernel
theorem dX7_bestReading_46 : decode cX7_bestReading 46 = .ok (.isub, 1) := by decide +kernel
theorem dX7_bestReading_47 : decode cX7_bestReading 47 = .ok (.invokestatic 64, 3) := by decide +kernel
theorem dX7_bestReading_50 : decode cX7_bestReading 50 = .ok (.istore 5, 2) := by decide +kernel
theorem dX7_bestReading_52 : decode cX7_bestReading 52 = .ok (.aload_n 0, 1) := by decide +kernel
theorem dX7_bestReading_53 : decode cX7_bestReading 53 = .ok (.getfield 9, 3) := by decide +kernel
theorem dX7_bestReading_56 : decode cX7_bestReading 56 = .ok (.iload_n 3, 1) := by decide +kernel
theorem dX7_bestReading_57 : decode cX7_bestReading 57 = .ok (.invokevirtual 70, 3) := by decide +kernel
theorem dX7_bestReading_60 : decode cX7_bestReading 60 = .ok (.ifCond .eq 14, 3) := by decide +kernel
theorem dX7_bestReading_63 : decode cX7_bestReading 63 = .ok (.iload 5, 2) := by decide +kernel
theorem dX7_bestReading_65 : decode cX7_bestReading 65 = .ok (.iload_n 2, 1) := by decide +kernel
theorem dX7_bestReading_66 : decode cX7_bestReading 66 = .ok (.if_icmp .ge 8, 3) := by decide +kernel
theorem dX7_bestReading_69 : decode cX7_bestReading 69 = .ok (.iload 5, 2) := by decide +kernel
theorem dX7_bestReading_71 : decode cX7_bestReading 71 = .ok (.istore_n 2, 1) := by decide +kernel
theorem dX7_bestReading_72 : decode cX7_bestReading 72 = .ok (.iload_n 3, 1) := by decide +kernel
theorem dX7_bestReading_73 : decode cX7_bestReading 73 = .ok (.istore_n 1, 1) := by decide +kernel
theorem dX7_bestReading_74 : decode cX7_bestReading 74 = .ok (.iinc 3 1, 3) := by decide +kernel
theorem dX7_bestReading_77 : decode cX7_bestReading 77 = .ok (.goto (-65), 3) := by decide +kernel
theorem dX7_bestReading_80 : decode cX7_bestReading 80 = .ok (.iload_n 1, 1) := by decide +kernel
theorem dX7_bestReading_81 : decode cX7_bestReading 81 = .ok (.ireturn, 1) := by decide +kernel
theorem dX7_countKept_0 : decode cX7_countKept 0 = .ok (.iconst 0, 1) := by decide +kernel
theorem dX7_countKept_1 : decode cX7_countKept 1 = .ok (.istore_n 2, 1) := by decide +kernel
theorem dX7_countKept_2 : decode cX7_countKept 2 = .ok (.iconst 0, 1) := by decide +kernel
theorem dX7_countKept_3 : decode cX7_countKept 3 = .ok (.istore_n 3, 1) := by decide +kernel
theorem dX7_countKept_4 : decode cX7_countKept 4 = .ok (.iload_n 3, 1) := by decide +kernel
theorem dX7_countKept_5 : decode cX7_countKept 5 = .ok (.bipush 99, 2) := by decide +kernel
theorem dX7_countKept_7 : decode cX7_countKept 7 = .ok (.if_icmp .gt 38, 3) := by decide +kernel
theorem dX7_countKept_10 : decode cX7_countKept 10 = .ok (.aload_n 0, 1) := by decide +kernel
theorem dX7_countKept_11 : decode cX7_countKept 11 = .ok (.getfield 19, 3) := by decide +kernel
theorem dX7_countKept_14 : decode cX7_countKept 14 = .ok (.aload_n 0, 1) := by decide +kernel
theorem dX7_countKept_15 : decode cX7_countKept 15 = .ok (.getfield 23, 3) := by decide +kernel
theorem dX7_countKept_18 : decode cX7_countKept 18 = .ok (.iload_n 3, 1) := by decide +kernel
theorem dX7_countKept_19 : decode cX7_countKept 19 = .ok (.iaload, 1) := by decide +kernel
theorem dX7_countKept_20 : decode cX7_countKept 20 = .ok (.invokevirtual 44, 3) := by decide +kernel
theorem dX7_countKept_23 : decode cX7_countKept 23 = .ok (.ifCond .eq 16, 3) := by decide +kernel
theorem dX7_countKept_26 : decode cX7_countKept 26 = .ok (.iload_n 2, 1) := by decide +kernel
theorem dX7_countKept_27 : decode cX7_countKept 27 = .ok (.aload_n 0, 1) := by decide +kernel
theorem dX7_countKept_28 : decode cX7_countKept 28 = .ok (.getfield 23, 3) := by decide +kernel
theorem dX7_countKept_31 : decode cX7_countKept 31 = .ok (.iload_n 3, 1) := by decide +kernel
theorem dX7_countKept_32 : decode cX7_countKept 32 = .ok (.iaload, 1) := by decide +kernel
theorem dX7_countKept_33 : decode cX7_countKept 33 = .ok (.iload_n 1, 1) := by decide +kernel
theorem dX7_countKept_34 : decode cX7_countKept 34 = .ok (.invokestatic 73, 3) := by decide +kernel
theorem dX7_countKept_37 : decode cX7_countKept 37 = .ok (.iadd, 1) := by decide +kernel
theorem dX7_countKept_38 : decode cX7_countKept 38 = .ok (.istore_n 2, 1) := by decide +kernel
theorem dX7_countKept_39 : decode cX7_countKept 39 = .ok (.iinc 3 1, 3) := by decide +kernel
theorem dX7_countKept_42 : decode cX7_countKept 42 = .ok (.goto (-38), 3) := by decide +kernel
theorem dX7_countKept_45 : decode cX7_countKept 45 = .ok (.iload_n 2, 1) := by decide +kernel
theorem dX7_countKept_46 : decode cX7_countKept 46 = .ok (.ireturn, 1) := by decide +kernel
theorem dX8_init_0 : decode cX8_init 0 = .ok (.aload_n 0, 1) := by decide +kernel
theorem dX8_init_1 : decode cX8_init 1 = .ok (.invokespecial 3, 3) := by decide +kernel
theorem dX8_init_4 : decode cX8_init 4 = .ok (.aload_n 0, 1) := by decide +kernel
theorem dX8_init_5 : decode cX8_init 5 = .ok (.bipush 120, 2) := by decide +kernel
theorem dX8_init_7 : decode cX8_init 7 = .ok (.newarray .char, 2) := by decide +kernel
theorem dX8_init_9 : decode cX8_init 9 = .ok (.putfield 9, 3) := by decide +kernel
theorem dX8_init_12 : decode cX8_init 12 = .ok (.aload_n 0, 1) := by decide +kernel
theorem dX8_init_13 : decode cX8_init 13 = .ok (.iconst 0, 1) := by decide +kernel
theorem dX8_init_14 : decode cX8_init 14 = .ok (.putfield 15, 3) := by decide +kernel
theorem dX8_init_17 : decode cX8_init 17 = .ok (.return_, 1) := by decide +kernel
theorem dX8_isFull_0 : decode cX8_isFull 0 = .ok (.aload_n 0, 1) := by decide +kernel
theorem dX8_isFull_1 : decode cX8_isFull 1 = .ok (.getfield 15, 3) := by decide +kernel
theorem dX8_isFull_4 : decode cX8_isFull 4 = .ok (.bipush 120, 2) := by decide +kernel
theorem dX8_isFull_6 : decode cX8_isFull 6 = .ok (.if_icmp .lt 7, 3) := by decide +kernel
theorem dX8_isFull_9 : decode cX8_isFull 9 = .ok (.iconst 1, 1) := by decide +kernel
theorem dX8_isFull_10 : decode cX8_isFull 10 = .ok (.goto 4, 3) := by decide +kernel
theorem dX8_isFull_13 : decode cX8_isFull 13 = .ok (.iconst 0, 1) := by decide +kernel
theorem dX8_isFull_14 : decode cX8_isFull 14 = .ok (.ireturn, 1) := by decide +kernel
theorem dX8_put_0 : decode cX8_put 0 = .ok (.aload_n 0, 1) := by decide +kernel
theorem dX8_put_1 : decode cX8_put 1 = .ok (.invokevirtual 19, 3) := by decide +kernel
theorem dX8_put_4 : decode cX8_put 4 = .ok (.ifCond .eq 6, 3) := by decide +kernel
theorem dX8_put_7 : decode cX8_put 7 = .ok (.bipush (-3), 2) := by decide +kernel
theorem dX8_put_9 : decode cX8_put 9 = .ok (.ireturn, 1) := by decide +kernel
theorem dX8_put_10 : decode cX8_put 10 = .ok (.aload_n 0, 1) := by decide +kernel
theorem dX8_put_11 : decode cX8_put 11 = .ok (.getfield 9, 3) := by decide +kernel
theorem dX8_put_14 : decode cX8_put 14 = .ok (.aload_n 0, 1) := by decide +kernel
theorem dX8_put_15 : decode cX8_put 15 = .ok (.getfield 15, 3) := by decide +kernel
theorem dX8_put_18 : decode cX8_put 18 = .ok (.iload_n 1, 1) := by decide +kernel
theorem dX8_put_19 : decode cX8_put 19 = .ok (.castore, 1) := by decide +kernel
theorem dX8_put_20 : decode cX8_put 20 = .ok (.aload_n 0, 1) := by decide +kernel
theorem dX8_put_21 : decode cX8_put 21 = .ok (.dup, 1) := by decide +kernel
theorem dX8_put_22 : decode cX8_put 22 = .ok (.getfield 15, 3) := by decide +kernel
theorem dX8_put_25 : decode cX8_put 25 = .ok (.iconst 1, 1) := by decide +kernel
theorem dX8_put_26 : decode cX8_put 26 = .ok (.iadd, 1) := by decide +kernel
theorem dX8_put_27 : decode cX8_put 27 = .ok (.putfield 15, 3) := by decide +kernel
theorem dX8_put_30 : decode cX8_put 30 = .ok (.aload_n 0, 1) := by decide +kernel
theorem dX8_put_31 : decode cX8_put 31 = .ok (.getfield 15, 3) := by decide +kernel
theorem dX8_put_34 : decode cX8_put 34 = .ok (.ireturn, 1) := by decide +kernel
theorem dX8_wipe_0 : decode cX8_wipe 0 = .ok (.aload_n 0, 1) := by decide +kernel
theorem dX8_wipe_1 : decode cX8_wipe 1 = .ok (.getfield 15, 3) := by decide +kernel
theorem dX8_wipe_4 : decode cX8_wipe 4 = .ok (.istore_n 1, 1) := by decide +kernel
theorem dX8_wipe_5 : decode cX8_wipe 5 = .ok (.aload_n 0, 1) := by decide +kernel
theorem dX8_wipe_6 : decode cX8_wipe 6 = .ok (.iconst 0, 1) := by decide +kernel
theorem dX8_wipe_7 : decode cX8_wipe 7 = .ok (.putfield 15, 3) := by decide +kernel
theorem dX8_wipe_10 : decode cX8_wipe 10 = .ok (.iload_n 1, 1) := by decide +kernel
theorem dX8_wipe_11 : decode cX8_wipe 11 = .ok (.ireturn, 1) := by decide +kernel
theorem dX8_isDigit_0 : decode cX8_isDigit 0 = .ok (.iload_n 1, 1) := by decide +kernel
theorem dX8_isDigit_1 : decode cX8_isDigit 1 = .ok (.ifCond .lt 37, 3) := by decide +kernel
theorem dX8_isDigit_4 : decode cX8_isDigit 4 = .ok (.iload_n 1, 1) := by decide +kernel
theorem dX8_isDigit_5 : decode cX8_isDigit 5 = .ok (.aload_n 0, 1) := by decide +kernel
theorem dX8_isDigit_6 : decode cX8_isDigit 6 = .ok (.getfield 15, 3) := by decide +kernel
theorem dX8_isDigit_9 : decode cX8_isDigit 9 = .ok (.if_icmp .ge 29, 3) := by decide +kernel
theorem dX8_isDigit_12 : decode cX8_isDigit 12 = .ok (.aload_n 0, 1) := by decide +kernel
theorem dX8_isDigit_13 : decode cX8_isDigit 13 = .ok (.getfield 9, 3) := by decide +kernel
theorem dX8_isDigit_16 : decode cX8_isDigit 16 = .ok (.iload_n 1, 1) := by decide +kernel
theorem dX8_isDigit_17 : decode cX8_isDigit 17 = .ok (.caload, 1) := by decide +kernel
theorem dX8_isDigit_18 : decode cX8_isDigit 18 = .ok (.bipush 48, 2) := by decide +kernel
theorem dX8_isDigit_20 : decode cX8_isDigit 20 = .ok (.if_icmp .lt 18, 3) := by decide +kernel
theorem dX8_isDigit_23 : decode cX8_isDigit 23 = .ok (.aload_n 0, 1) := by decide +kernel
theorem dX8_isDigit_24 : decode cX8_isDigit 24 = .ok (.getfield 9, 3) := by decide +kernel
theorem dX8_isDigit_27 : decode cX8_isDigit 27 = .ok (.iload_n 1, 1) := by decide +kernel
theorem dX8_isDigit_28 : decode cX8_isDigit 28 = .ok (.caload, 1) := by decide +kernel
theorem dX8_isDigit_29 : decode cX8_isDigit 29 = .ok (.bipush 57, 2) := by decide +kernel
theorem dX8_isDigit_31 : decode cX8_isDigit 31 = .ok (.if_icmp .gt 7, 3) := by decide +kernel
theorem dX8_isDigit_34 : decode cX8_isDigit 34 = .ok (.iconst 1, 1) := by decide +kernel
theorem dX8_isDigit_35 : decode cX8_isDigit 35 = .ok (.goto 4, 3) := by decide +kernel
theorem dX8_isDigit_38 : decode cX8_isDigit 38 = .ok (.iconst 0, 1) := by decide +kernel
theorem dX8_isDigit_39 : decode cX8_isDigit 39 = .ok (.ireturn, 1) := by decide +kernel
theorem dX8_isBlank_0 : decode cX8_isBlank 0 = .ok (.iload_n 1, 1) := by decide +kernel
theorem dX8_isBlank_1 : decode cX8_isBlank 1 = .ok (.ifCond .lt 26, 3) := by decide +kernel
theorem dX8_isBlank_4 : decode cX8_isBlank 4 = .ok (.iload_n 1, 1) := by decide +kernel
theorem dX8_isBlank_5 : decode cX8_isBlank 5 = .ok (.aload_n 0, 1) := by decide +kernel
theorem dX8_isBlank_6 : decode cX8_isBlank 6 = .ok (.getfield 15, 3) := by decide +kernel
theorem dX8_isBlank_9 : decode cX8_isBlank 9 = .ok (.if_icmp .ge 18, 3) := by decide +kernel
theorem dX8_isBlank_12 : decode cX8_isBlank 12 = .ok (.aload_n 0, 1) := by decide +kernel
theorem dX8_isBlank_13 : decode cX8_isBlank 13 = .ok (.getfield 9, 3) := by decide +kernel
theorem dX8_isBlank_16 : decode cX8_isBlank 16 = .ok (.iload_n 1, 1) := by decide +kernel
theorem dX8_isBlank_17 : decode cX8_isBlank 17 = .ok (.caload, 1) := by decide +kernel
theorem dX8_isBlank_18 : decode cX8_isBlank 18 = .ok (.bipush 32, 2) := by decide +kernel
theorem dX8_isBlank_20 : decode cX8_isBlank 20 = .ok (.if_icmp .ne 7, 3) := by decide +kernel
theorem dX8_isBlank_23 : decode cX8_isBlank 23 = .ok (.iconst 1, 1) := by decide +kernel
theorem dX8_isBlank_24 : decode cX8_isBlank 24 = .ok (.goto 4, 3) := by decide +kernel
theorem dX8_isBlank_27 : decode cX8_isBlank 27 = .ok (.iconst 0, 1) := by decide +kernel
theorem dX8_isBlank_28 : decode cX8_isBlank 28 = .ok (.ireturn, 1) := by decide +kernel
theorem dX8_letterAt_0 : decode cX8_letterAt 0 = .ok (.iload_n 1, 1) := by decide +kernel
theorem dX8_letterAt_1 : decode cX8_letterAt 1 = .ok (.ifCond .lt 20, 3) := by decide +kernel
theorem dX8_letterAt_4 : decode cX8_letterAt 4 = .ok (.iload_n 1, 1) := by decide +kernel
theorem dX8_letterAt_5 : decode cX8_letterAt 5 = .ok (.aload_n 0, 1) := by decide +kernel
theorem dX8_letterAt_6 : decode cX8_letterAt 6 = .ok (.getfield 15, 3) := by decide +kernel
theorem dX8_letterAt_9 : decode cX8_letterAt 9 = .ok (.if_icmp .ge 12, 3) := by decide +kernel
theorem dX8_letterAt_12 : decode cX8_letterAt 12 = .ok (.aload_n 0, 1) := by decide +kernel
theorem dX8_letterAt_13 : decode cX8_letterAt 13 = .ok (.getfield 9, 3) := by decide +kernel
theorem dX8_letterAt_16 : decode cX8_letterAt 16 = .ok (.iload_n 1, 1) := by decide +kernel
theorem dX8_letterAt_17 : decode cX8_letterAt 17 = .ok (.caload, 1) := by decide +kernel
theorem dX8_letterAt_18 : decode cX8_letterAt 18 = .ok (.goto 4, 3) := by decide +kernel
theorem dX8_letterAt_21 : decode cX8_letterAt 21 = .ok (.iconst 0, 1) := by decide +kernel
theorem dX8_letterAt_22 : decode cX8_letterAt 22 = .ok (.ireturn, 1) := by decide +kernel
theorem dX9_init_0 : decode cX9_init 0 = .ok (.aload_n 0, 1) := by decide +kernel
theorem dX9_init_1 : decode cX9_init 1 = .ok (.invokespecial 3, 3) := by decide +kernel
theorem dX9_init_4 : decode cX9_init 4 = .ok (.aload_n 0, 1) := by decide +kernel
theorem dX9_init_5 : decode cX9_init 5 = .ok (.aload_n 1, 1) := by decide +kernel
theorem dX9_init_6 : decode cX9_init 6 = .ok (.putfield 9, 3) := by decide +kernel
theorem dX9_init_9 : decode cX9_init 9 = .ok (.aload_n 0, 1) := by decide +kernel
theorem dX9_init_10 : decode cX9_init 10 = .ok (.aload_n 2, 1) := by decide +kernel
theorem dX9_init_11 : decode cX9_init 11 = .ok (.putfield 15, 3) := by decide +kernel
theorem dX9_init_14 : decode cX9_init 14 = .ok (.aload_n 0, 1) := by decide +kernel
theorem dX9_init_15 : decode cX9_init 15 = .ok (.bipush 14, 2) := by decide +kernel
theorem dX9_init_17 : decode cX9_init 17 = .ok (.newarray .int, 2) := by decide +kernel
theorem dX9_init_19 : decode cX9_init 19 = .ok (.putfield 19, 3) := by decide +kernel
theorem dX9_init_22 : decode cX9_init 22 = .ok (.aload_n 0, 1) := by decide +kernel
theorem dX9_init_23 : decode cX9_init 23 = .ok (.bipush 14, 2) := by decide +kernel
theorem dX9_init_25 : decode cX9_init 25 = .ok (.newarray .int, 2) := by decide +kernel
theorem dX9_init_27 : decode cX9_init 27 = .ok (.putfield 23, 3) := by decide +kernel
theorem dX9_init_30 : decode cX9_init 30 = .ok (.aload_n 0, 1) := by decide +kernel
theorem dX9_init_31 : decode cX9_init 31 = .ok (.bipush 14, 2) := by decide +kernel
theorem dX9_init_33 : decode cX9_init 33 = .ok (.newarray .int, 2) := by decide +kernel
theorem dX9_init_35 : decode cX9_init 35 = .ok (.putfield 26, 3) := by decide +kernel
theorem dX9_init_38 : decode cX9_init 38 = .ok (.aload_n 0, 1) := by decide +kernel
theorem dX9_init_39 : decode cX9_init 39 = .ok (.bipush 14, 2) := by decide +kernel
theorem dX9_init_41 : decode cX9_init 41 = .ok (.newarray .int, 2) := by decide +kernel
theorem dX9_init_43 : decode cX9_init 43 = .ok (.putfield 29, 3) := by decide +kernel
theorem dX9_init_46 : decode cX9_init 46 = .ok (.aload_n 0, 1) := by decide +kernel
theorem dX9_init_47 : decode cX9_init 47 = .ok (.iconst 0, 1) := by decide +kernel
theorem dX9_init_48 : decode cX9_init 48 = .ok (.putfield 32, 3) := by decide +kernel
theorem dX9_init_51 : decode cX9_init 51 = .ok (.aload_n 0, 1) := by decide +kernel
theorem dX9_init_52 : decode cX9_init 52 = .ok (.iconst 0, 1) := by decide +kernel
theorem dX9_init_53 : decode cX9_init 53 = .ok (.putfield 36, 3) := by decide +kernel
theorem dX9_init_56 : decode cX9_init 56 = .ok (.aload_n 0, 1) := by decide +kernel
theorem dX9_init_57 : decode cX9_init 57 = .ok (.iconst 0, 1) := by decide +kernel
theorem dX9_init_58 : decode cX9_init 58 = .ok (.putfield 40, 3) := by decide +kernel
theorem dX9_init_61 : decode cX9_init 61 = .ok (.aload_n 0, 1) := by decide +kernel
theorem dX9_init_62 : decode cX9_init 62 = .ok (.iconst 0, 1) := by decide +kernel
theorem dX9_init_63 : decode cX9_init 63 = .ok (.putfield 43, 3) := by decide +kernel
theorem dX9_init_66 : decode cX9_init 66 = .ok (.return_, 1) := by decide +kernel
theorem dX9_outdate_0 : decode cX9_outdate 0 = .ok (.aload_n 0, 1) := by decide +kernel
theorem dX9_outdate_1 : decode cX9_outdate 1 = .ok (.iconst 1, 1) := by decide +kernel
theorem dX9_outdate_2 : decode cX9_outdate 2 = .ok (.putfield 32, 3) := by decide +kernel
theorem dX9_outdate_5 : decode cX9_outdate 5 = .ok (.return_, 1) := by decide +kernel
theorem dX9_refresh_0 : decode cX9_refresh 0 = .ok (.aload_n 0, 1) := by decide +kernel
theorem dX9_refresh_1 : decode cX9_refresh 1 = .ok (.getfield 32, 3) := by decide +kernel
theorem dX9_refresh_4 : decode cX9_refresh 4 = .ok (.ifCond .ne 4, 3) := by decide +kernel
theorem dX9_refresh_7 : decode cX9_refresh 7 = .ok (.return_, 1) := by decide +kernel
theorem dX9_refresh_8 : decode cX9_refresh 8 = .ok (.aload_n 0, 1) := by decide +kernel
theorem dX9_refresh_9 : decode cX9_refresh 9 = .ok (.iconst 0, 1) := by decide +kernel
theorem dX9_refresh_10 : decode cX9_refresh 10 = .ok (.putfield 32, 3) := by decide +kernel
theorem dX9_refresh_13 : decode cX9_refresh 13 = .ok (.aload_n 0, 1) := by decide +kernel
theorem dX9_refresh_14 : decode cX9_refresh 14 = .ok (.getfield 15, 3) := by decide +kernel
theorem dX9_refresh_17 : decode cX9_refresh 17 = .ok (.invokevirtual 46, 3) := by decide +kernel
theorem dX9_refresh_20 : decode cX9_refresh 20 = .ok (.aload_n 0, 1) := by decide +kernel
theorem dX9_refresh_21 : decode cX9_refresh 21 = .ok (.invokevirtual 51, 3) := by decide +kernel
theorem dX9_refresh_24 : decode cX9_refresh 24 = .ok (.aload_n 0, 1) := by decide +kernel
theorem dX9_refresh_25 : decode cX9_refresh 25 = .ok (.aload_n 0, 1) := by decide +kernel
theorem dX9_refresh_26 : decode cX9_refresh 26 = .ok (.aload_n 0, 1) := by decide +kernel
theorem dX9_refresh_27 : decode cX9_refresh 27 = .ok (.getfield 9, 3) := by decide +kernel
theorem dX9_refresh_30 : decode cX9_refresh 30 = .ok (.getfield 54, 3) := by decide +kernel
theorem dX9_refresh_33 : decode cX9_refresh 33 = .ok (.invokevirtual 59, 3) := by decide +kernel
theorem dX9_refresh_36 : decode cX9_refresh 36 = .ok (.putfield 40, 3) := by decide +kernel
theorem dX9_refresh_39 : decode cX9_refresh 39 = .ok (.aload_n 0, 1) := by decide +kernel
theorem dX9_refresh_40 : decode cX9_refresh 40 = .ok (.invokevirtual 63, 3) := by decide +kernel
theorem dX9_refresh_43 : decode cX9_refresh 43 = .ok (.aload_n 0, 1) := by decide +kernel
theorem dX9_refresh_44 : decode cX9_refresh 44 = .ok (.aload_n 0, 1) := by decide +kernel
theorem dX9_refresh_45 : decode cX9_refresh 45 = .ok (.invokevirtual 66, 3) := by decide +kernel
theorem dX9_refresh_48 : decode cX9_refresh 48 = .ok (.putfield 43, 3) := by decide +kernel
theorem dX9_refresh_51 : decode cX9_refresh 51 = .ok (.return_, 1) := by decide +kernel
theorem dX9_pieceAt_0 : decode cX9_pieceAt 0 = .ok (.aload_n 0, 1) := by decide +kernel
theorem dX9_pieceAt_1 : decode cX9_pieceAt 1 = .ok (.getfield 9, 3) := by decide +kernel
theorem dX9_pieceAt_4 : decode cX9_pieceAt 4 = .ok (.iload_n 1, 1) := by decide +kernel
theorem dX9_pieceAt_5 : decode cX9_pieceAt 5 = .ok (.invokevirtual 70, 3) := by decide +kernel
theorem dX9_pieceAt_8 : decode cX9_pieceAt 8 = .ok (.ifCond .eq 18, 3) := by decide +kernel
theorem dX9_pieceAt_11 : decode cX9_pieceAt 11 = .ok (.iload_n 1, 1) := by decide +kernel
theorem dX9_pieceAt_12 : decode cX9_pieceAt 12 = .ok (.bipush 14, 2) := by decide +kernel
theorem dX9_pieceAt_14 : decode cX9_pieceAt 14 = .ok (.if_icmp .ge 12, 3) := by decide +kernel
theorem dX9_pieceAt_17 : decode cX9_pieceAt 17 = .ok (.aload_n 0, 1) := by decide +kernel
theorem dX9_pieceAt_18 : decode cX9_pieceAt 18 = .ok (.getfield 19, 3) := by decide +kernel
theorem dX9_pieceAt_21 : decode cX9_pieceAt 21 = .ok (.iload_n 1, 1) := by decide +kernel
theorem dX9_pieceAt_22 : decode cX9_pieceAt 22 = .ok (.iaload, 1) := by decide +kernel
theorem dX9_pieceAt_23 : decode cX9_pieceAt 23 = .ok (.goto 5, 3) := by decide +kernel
theorem dX9_pieceAt_26 : decode cX9_pieceAt 26 = .ok (.bipush (-9), 2) := by decide +kernel
theorem dX9_pieceAt_28 : decode cX9_pieceAt 28 = .ok (.ireturn, 1) := by decide +kernel
theorem dX9_sentAt_0 : decode cX9_sentAt 0 = .ok (.aload_n 0, 1) := by decide +kernel
theorem dX9_sentAt_1 : decode cX9_sentAt 1 = .ok (.getfield 9, 3) := by decide +kernel
theorem dX9_sentAt_4 : decode cX9_sentAt 4 = .ok (.iload_n 1, 1) := by decide +kernel
theorem dX9_sentAt_5 : decode cX9_sentAt 5 = .ok (.invokevirtual 70, 3) := by decide +kernel
theorem dX9_sentAt_8 : decode cX9_sentAt 8 = .ok (.ifCond .eq 18, 3) := by decide +kernel
theorem dX9_sentAt_11 : decode cX9_sentAt 11 = .ok (.iload_n 1, 1) := by decide +kernel
theorem dX9_sentAt_12 : decode cX9_sentAt 12 = .ok (.bipush 14, 2) := by decide +kernel
theorem dX9_sentAt_14 : decode cX9_sentAt 14 = .ok (.if_icmp .ge 12, 3) := by decide +kernel
theorem dX9_sentAt_17 : decode cX9_sentAt 17 = .ok (.aload_n 0, 1) := by decide +kernel
theorem dX9_sentAt_18 : decode cX9_sentAt 18 = .ok (.getfield 23, 3) := by decide +kernel
theorem dX9_sentAt_21 : decode cX9_sentAt 21 = .ok (.iload_n 1, 1) := by decide +kernel
theorem dX9_sentAt_22 : decode cX9_sentAt 22 = .ok (.iaload, 1) := by decide +kernel
theorem dX9_sentAt_23 : decode cX9_sentAt 23 = .ok (.goto 5, 3) := by decide +kernel
theorem dX9_sentAt_26 : decode cX9_sentAt 26 = .ok (.bipush (-9), 2) := by decide +kernel
theorem dX9_sentAt_28 : decode cX9_sentAt 28 = .ok (.ireturn, 1) := by decide +kernel
theorem dX9_cutPieces_0 : decode cX9_cutPieces 0 = .ok (.aload_n 0, 1) := by decide +kernel
theorem dX9_cutPieces_1 : decode cX9_cutPieces 1 = .ok (.iconst 0, 1) := by decide +kernel
theorem dX9_cutPieces_2 : decode cX9_cutPieces 2 = .ok (.putfield 36, 3) := by decide +kernel
theorem dX9_cutPieces_5 : decode cX9_cutPieces 5 = .ok (.iconst 0, 1) := by decide +kernel
theorem dX9_cutPieces_6 : decode cX9_cutPieces 6 = .ok (.istore_n 1, 1) := by decide +kernel
theorem dX9_cutPieces_7 : decode cX9_cutPieces 7 = .ok (.iconst 0, 1) := by decide +kernel
theorem dX9_cutPieces_8 : decode cX9_cutPieces 8 = .ok (.istore_n 2, 1) := by decide +kernel
theorem dX9_cutPieces_9 : decode cX9_cutPieces 9 = .ok (.iload_n 2, 1) := by decide +kernel
theorem dX9_cutPieces_10 : decode cX9_cutPieces 10 = .ok (.aload_n 0, 1) := by decide +kernel
theorem dX9_cutPieces_11 : decode cX9_cutPieces 11 = .ok (.getfield 9, 3) := by decide +kernel
theorem dX9_cutPieces_14 : decode cX9_cutPieces 14 = .ok (.getfield 74, 3) := by decide +kernel
theorem dX9_cutPieces_17 : decode cX9_cutPieces 17 = .ok (.if_icmp .ge 86, 3) := by decide +kernel
theorem dX9_cutPieces_20 : decode cX9_cutPieces 20 = .ok (.iload_n 2, 1) := by decide +kernel
theorem dX9_cutPieces_21 : decode cX9_cutPieces 21 = .ok (.bipush 14, 2) := by decide +kernel
theorem dX9_cutPieces_23 : decode cX9_cutPieces 23 = .ok (.if_icmp .ge 80, 3) := by decide +kernel
theorem dX9_cutPieces_26 : decode cX9_cutPieces 26 = .ok (.aload_n 0, 1) := by decide +kernel
theorem dX9_cutPieces_27 : decode cX9_cutPieces 27 = .ok (.getfield 9, 3) := by decide +kernel
theorem dX9_cutPieces_30 : decode cX9_cutPieces 30 = .ok (.iload_n 2, 1) := by decide +kernel
theorem dX9_cutPieces_31 : decode cX9_cutPieces 31 = .ok (.invokevirtual 77, 3) := by decide +kernel
theorem dX9_cutPieces_34 : decode cX9_cutPieces 34 = .ok (.ifCond .ne 23, 3) := by decide +kernel
theorem dX9_cutPieces_37 : decode cX9_cutPieces 37 = .ok (.aload_n 0, 1) := by decide +kernel
theorem dX9_cutPieces_38 : decode cX9_cutPieces 38 = .ok (.getfield 9, 3) := by decide +kernel
theorem dX9_cutPieces_41 : decode cX9_cutPieces 41 = .ok (.iload_n 2, 1) := by decide +kernel
theorem dX9_cutPieces_42 : decode cX9_cutPieces 42 = .ok (.invokevirtual 80, 3) := by decide +kernel
theorem dX9_cutPieces_45 : decode cX9_cutPieces 45 = .ok (.ifCond .eq 24, 3) := by decide +kernel
theorem dX9_cutPieces_48 : decode cX9_cutPieces 48 = .ok (.aload_n 0, 1) := by decide +kernel
theorem dX9_cutPieces_49 : decode cX9_cutPieces 49 = .ok (.iload_n 1, 1) := by decide +kernel
theorem dX9_cutPieces_50 : decode cX9_cutPieces 50 = .ok (.iload_n 2, 1) := by decide +kernel
theorem dX9_cutPieces_51 : decode cX9_cutPieces 51 = .ok (.invokevirtual 83, 3) := by decide +kernel
theorem dX9_cutPieces_54 : decode cX9_cutPieces 54 = .ok (.ifCond .ne 15, 3) := by decide +kernel
theorem dX9_cutPieces_57 : decode cX9_cutPieces 57 = .ok (.iload_n 2, 1) := by decide +kernel
theorem dX9_cutPieces_58 : decode cX9_cutPieces 58 = .ok (.istore_n 1, 1) := by decide +kernel
theorem dX9_cutPieces_59 : decode cX9_cutPieces 59 = .ok (.aload_n 0, 1) := by decide +kernel
theorem dX9_cutPieces_60 : decode cX9_cutPieces 60 = .ok (.dup, 1) := by decide +kernel
theorem dX9_cutPieces_61 : decode cX9_cutPieces 61 = .ok (.getfield 36, 3) := by decide +kernel
theorem dX9_cutPieces_64 : decode cX9_cutPieces 64 = .ok (.iconst 1, 1) := by decide +kernel
theorem dX9_cutPieces_65 : decode cX9_cutPieces 65 = .ok (.iadd, 1) := by decide +kernel
theorem dX9_cutPieces_66 : decode cX9_cutPieces 66 = .ok (.putfield 36, 3) := by decide +kernel
theorem dX9_cutPieces_69 : decode cX9_cutPieces 69 = .ok (.aload_n 0, 1) := by decide +kernel
theorem dX9_cutPieces_70 : decode cX9_cutPieces 70 = .ok (.getfield 19, 3) := by decide +kernel
theorem dX9_cutPieces_73 : decode cX9_cutPieces 73 = .ok (.iload_n 2, 1) := by decide +kernel
theorem dX9_cutPieces_74 : decode cX9_cutPieces 74 = .ok (.aload_n 0, 1) := by decide +kernel
theorem dX9_cutPieces_75 : decode cX9_cutPieces 75 = .ok (.getfield 9, 3) := by decide +kernel
theorem dX9_cutPieces_78 : decode cX9_cutPieces 78 = .ok (.iload_n 2, 1) := by decide +kernel
theorem dX9_cutPieces_79 : decode cX9_cutPieces 79 = .ok (.invokevirtual 80, 3) := by decide +kernel
theorem dX9_cutPieces_82 : decode cX9_cutPieces 82 = .ok (.ifCond .eq 12, 3) := by decide +kernel
theorem dX9_cutPieces_85 : decode cX9_cutPieces 85 = .ok (.aload_n 0, 1) := by decide +kernel
theorem dX9_cutPieces_86 : decode cX9_cutPieces 86 = .ok (.getfield 36, 3) := by decide +kernel
theorem dX9_cutPieces_89 : decode cX9_cutPieces 89 = .ok (.iconst 1, 1) := by decide +kernel
theorem dX9_cutPieces_90 : decode cX9_cutPieces 90 = .ok (.isub, 1) := by decide +kernel
theorem dX9_cutPieces_91 : decode cX9_cutPieces 91 = .ok (.goto 5, 3) := by decide +kernel
theorem dX9_cutPieces_94 : decode cX9_cutPieces 94 = .ok (.bipush (-9), 2) := by decide +kernel
theorem dX9_cutPieces_96 : decode cX9_cutPieces 96 = .ok (.iastore, 1) := by decide +kernel
theorem dX9_cutPieces_97 : decode cX9_cutPieces 97 = .ok (.iinc 2 1, 3) := by decide +kernel
theorem dX9_cutPieces_100 : decode cX9_cutPieces 100 = .ok (.goto (-91), 3) := by decide +kernel
theorem dX9_cutPieces_103 : decode cX9_cutPieces 103 = .ok (.return_, 1) := by decide +kernel
theorem dX9_fitsStrip_0 : decode cX9_fitsStrip 0 = .ok (.iload_n 1, 1) := by decide +kernel
theorem dX9_fitsStrip_1 : decode cX9_fitsStrip 1 = .ok (.istore_n 3, 1) := by decide +kernel
theorem dX9_fitsStrip_2 : decode cX9_fitsStrip 2 = .ok (.iload_n 3, 1) := by decide +kernel
theorem dX9_fitsStrip_3 : decode cX9_fitsStrip 3 = .ok (.iload_n 2, 1) := by decide +kernel
theorem dX9_fitsStrip_4 : decode cX9_fitsStrip 4 = .ok (.if_icmp .ge 32, 3) := by decide +kernel
theorem dX9_fitsStrip_7 : decode cX9_fitsStrip 7 = .ok (.aload_n 0, 1) := by decide +kernel
theorem dX9_fitsStrip_8 : decode cX9_fitsStrip 8 = .ok (.getfield 15, 3) := by decide +kernel
theorem dX9_fitsStrip_11 : decode cX9_fitsStrip 11 = .ok (.iload_n 3, 1) := by decide +kernel
theorem dX9_fitsStrip_12 : decode cX9_fitsStrip 12 = .ok (.iload_n 2, 1) := by decide +kernel
theorem dX9_fitsStrip_13 : decode cX9_fitsStrip 13 = .ok (.invokevirtual 87, 3) := by decide +kernel
theorem dX9_fitsStrip_16 : decode cX9_fitsStrip 16 = .ok (.iconst 2, 1) := by decide +kernel
theorem dX9_fitsStrip_17 : decode cX9_fitsStrip 17 = .ok (.aload_n 0, 1) := by decide +kernel
theorem dX9_fitsStrip_18 : decode cX9_fitsStrip 18 = .ok (.getfield 9, 3) := by decide +kernel
theorem dX9_fitsStrip_21 : decode cX9_fitsStrip 21 = .ok (.getfield 54, 3) := by decide +kernel
theorem dX9_fitsStrip_24 : decode cX9_fitsStrip 24 = .ok (.imul, 1) := by decide +kernel
theorem dX9_fitsStrip_25 : decode cX9_fitsStrip 25 = .ok (.if_icmp .le 5, 3) := by decide +kernel
theorem dX9_fitsStrip_28 : decode cX9_fitsStrip 28 = .ok (.iconst 0, 1) := by decide +kernel
theorem dX9_fitsStrip_29 : decode cX9_fitsStrip 29 = .ok (.ireturn, 1) := by decide +kernel
theorem dX9_fitsStrip_30 : decode cX9_fitsStrip 30 = .ok (.iinc 3 1, 3) := by decide +kernel
theorem dX9_fitsStrip_33 : decode cX9_fitsStrip 33 = .ok (.goto (-31), 3) := by decide +kernel
theorem dX9_fitsStrip_36 : decode cX9_fitsStrip 36 = .ok (.iconst 1, 1) := by decide +kernel
theorem dX9_fitsStrip_37 : decode cX9_fitsStrip 37 = .ok (.ireturn, 1) := by decide +kernel
theorem dX9_swingDoor_0 : decode cX9_swingDoor 0 = .ok (.iconst 0, 1) := by decide +kernel
theorem dX9_swingDoor_1 : decode cX9_swingDoor 1 = .ok (.istore_n 2, 1) := by decide +kernel
theorem dX9_swingDoor_2 : decode cX9_swingDoor 2 = .ok (.iconst 0, 1) := by decide +kernel
theorem dX9_swingDoor_3 : decode cX9_swingDoor 3 = .ok (.istore_n 3, 1) := by decide +kernel
theorem dX9_swingDoor_4 : decode cX9_swingDoor 4 = .ok (.iconst 0, 1) := by decide +kernel
theorem dX9_swingDoor_5 : decode cX9_swingDoor 5 = .ok (.istore 4, 2) := by decide +kernel
theorem dX9_swingDoor_7 : decode cX9_swingDoor 7 = .ok (.iload 4, 2) := by decide +kernel
theorem dX9_swingDoor_9 : decode cX9_swingDoor 9 = .ok (.aload_n 0, 1) := by decide +kernel
theorem dX9_swingDoor_10 : decode cX9_swingDoor 10 = .ok (.getfield 9, 3) := by decide +kernel
theorem dX9_swingDoor_13 : decode cX9_swingDoor 13 = .ok (.getfield 74, 3) := by decide +kernel
theorem dX9_swingDoor_16 : decode cX9_swingDoor 16 = .ok (.if_icmp .ge 107, 3) := by decide +kernel
theorem dX9_swingDoor_19 : decode cX9_swingDoor 19 = .ok (.aload_n 0, 1) := by decide +kernel
theorem dX9_swingDoor_20 : decode cX9_swingDoor 20 = .ok (.getfield 9, 3) := by decide +kernel
theorem dX9_swingDoor_23 : decode cX9_swingDoor 23 = .ok (.iload 4, 2) := by decide +kernel
theorem dX9_swingDoor_25 : decode cX9_swingDoor 25 = .ok (.invokevirtual 80, 3) := by decide +kernel
theorem dX9_swingDoor_28 : decode cX9_swingDoor 28 = .ok (.ifCond .ne 6, 3) := by decide +kernel
theorem dX9_swingDoor_31 : decode cX9_swingDoor 31 = .ok (.goto 86, 3) := by decide +kernel
theorem dX9_swingDoor_34 : decode cX9_swingDoor 34 = .ok (.aload_n 0, 1) := by decide +kernel
theorem dX9_swingDoor_35 : decode cX9_swingDoor 35 = .ok (.getfield 9, 3) := by decide +kernel
theorem dX9_swingDoor_38 : decode cX9_swingDoor 38 = .ok (.iload 4, 2) := by decide +kernel
theorem dX9_swingDoor_40 : decode cX9_swingDoor 40 = .ok (.invokevirtual 77, 3) := by decide +kernel
theorem dX9_swingDoor_43 : decode cX9_swingDoor 43 = .ok (.ifCond .eq 16, 3) := by decide +kernel
theorem dX9_swingDoor_46 : decode cX9_swingDoor 46 = .ok (.iload 4, 2) := by decide +kernel
theorem dX9_swingDoor_48 : decode cX9_swingDoor 48 = .ok (.istore_n 3, 1) := by decide +kernel
theorem dX9_swingDoor_49 : decode cX9_swingDoor 49 = .ok (.iload_n 2, 1) := by decide +kernel
theorem dX9_swingDoor_50 : decode cX9_swingDoor 50 = .ok (.iconst 1, 1) := by decide +kernel
theorem dX9_swingDoor_51 : decode cX9_swingDoor 51 = .ok (.iload 4, 2) := by decide +kernel
theorem dX9_swingDoor_53 : decode cX9_swingDoor 53 = .ok (.ishl, 1) := by decide +kernel
theorem dX9_swingDoor_54 : decode cX9_swingDoor 54 = .ok (.ior, 1) := by decide +kernel
theorem dX9_swingDoor_55 : decode cX9_swingDoor 55 = .ok (.istore_n 2, 1) := by decide +kernel
theorem dX9_swingDoor_56 : decode cX9_swingDoor 56 = .ok (.goto 61, 3) := by decide +kernel
theorem dX9_swingDoor_59 : decode cX9_swingDoor 59 = .ok (.iload 4, 2) := by decide +kernel
theorem dX9_swingDoor_61 : decode cX9_swingDoor 61 = .ok (.iload_n 3, 1) := by decide +kernel
theorem dX9_swingDoor_62 : decode cX9_swingDoor 62 = .ok (.isub, 1) := by decide +kernel
theorem dX9_swingDoor_63 : decode cX9_swingDoor 63 = .ok (.aload_n 0, 1) := by decide +kernel
theorem dX9_swingDoor_64 : decode cX9_swingDoor 64 = .ok (.getfield 9, 3) := by decide +kernel
theorem dX9_swingDoor_67 : decode cX9_swingDoor 67 = .ok (.getfield 91, 3) := by decide +kernel
theorem dX9_swingDoor_70 : decode cX9_swingDoor 70 = .ok (.if_icmp .gt 17, 3) := by decide +kernel
theorem dX9_swingDoor_73 : decode cX9_swingDoor 73 = .ok (.aload_n 0, 1) := by decide +kernel
theorem dX9_swingDoor_74 : decode cX9_swingDoor 74 = .ok (.getfield 15, 3) := by decide +kernel
theorem dX9_swingDoor_77 : decode cX9_swingDoor 77 = .ok (.iload_n 3, 1) := by decide +kernel
theorem dX9_swingDoor_78 : decode cX9_swingDoor 78 = .ok (.iload 4, 2) := by decide +kernel
theorem dX9_swingDoor_80 : decode cX9_swingDoor 80 = .ok (.invokevirtual 87, 3) := by decide +kernel
theorem dX9_swingDoor_83 : decode cX9_swingDoor 83 = .ok (.iload_n 1, 1) := by decide +kernel
theorem dX9_swingDoor_84 : decode cX9_swingDoor 84 = .ok (.if_icmp .le 14, 3) := by decide +kernel
theorem dX9_swingDoor_87 : decode cX9_swingDoor 87 = .ok (.iload 4, 2) := by decide +kernel
theorem dX9_swingDoor_89 : decode cX9_swingDoor 89 = .ok (.iconst 1, 1) := by decide +kernel
theorem dX9_swingDoor_90 : decode cX9_swingDoor 90 = .ok (.isub, 1) := by decide +kernel
theorem dX9_swingDoor_91 : decode cX9_swingDoor 91 = .ok (.istore_n 3, 1) := by decide +kernel
theorem dX9_swingDoor_92 : decode cX9_swingDoor 92 = .ok (.iload_n 2, 1) := by decide +kernel
theorem dX9_swingDoor_93 : decode cX9_swingDoor 93 = .ok (.iconst 1, 1) := by decide +kernel
theorem dX9_swingDoor_94 : decode cX9_swingDoor 94 = .ok (.iload_n 3, 1) := by decide +kernel
theorem dX9_swingDoor_95 : decode cX9_swingDoor 95 = .ok (.ishl, 1) := by decide +kernel
theorem dX9_swingDoor_96 : decode cX9_swingDoor 96 = .ok (.ior, 1) := by decide +kernel
theorem dX9_swingDoor_97 : decode cX9_swingDoor 97 = .ok (.istore_n 2, 1) := by decide +kernel
theorem dX9_swingDoor_98 : decode cX9_swingDoor 98 = .ok (.aload_n 0, 1) := by decide +kernel
theorem dX9_swingDoor_99 : decode cX9_swingDoor 99 = .ok (.getfield 9, 3) := by decide +kernel
theorem dX9_swingDoor_102 : decode cX9_swingDoor 102 = .ok (.iload 4, 2) := by decide +kernel
theorem dX9_swingDoor_104 : decode cX9_swingDoor 104 = .ok (.invokevirtual 94, 3) := by decide +kernel
theorem dX9_swingDoor_107 : decode cX9_swingDoor 107 = .ok (.ifCond .eq 10, 3) := by decide +kernel
theorem dX9_swingDoor_110 : decode cX9_swingDoor 110 = .ok (.iload_n 2, 1) := by decide +kernel
theorem dX9_swingDoor_111 : decode cX9_swingDoor 111 = .ok (.iconst 1, 1) := by decide +kernel
theorem dX9_swingDoor_112 : decode cX9_swingDoor 112 = .ok (.iload 4, 2) := by decide +kernel
theorem dX9_swingDoor_114 : decode cX9_swingDoor 114 = .ok (.ishl, 1) := by decide +kernel
theorem dX9_swingDoor_115 : decode cX9_swingDoor 115 = .ok (.ior, 1) := by decide +kernel
theorem dX9_swingDoor_116 : decode cX9_swingDoor 116 = .ok (.istore_n 2, 1) := by decide +kernel
theorem dX9_swingDoor_117 : decode cX9_swingDoor 117 = .ok (.iinc 4 1, 3) := by decide +kernel
theorem dX9_swingDoor_120 : decode cX9_swingDoor 120 = .ok (.goto (-113), 3) := by decide +kernel
theorem dX9_swingDoor_123 : decode cX9_swingDoor 123 = .ok (.iload_n 2, 1) := by decide +kernel
theorem dX9_swingDoor_124 : decode cX9_swingDoor 124 = .ok (.ireturn, 1) := by decide +kernel
theorem dX9_sendKept_0 : decode cX9_sendKept 0 = .ok (.iconst 0, 1) := by decide +kernel
theorem dX9_sendKept_1 : decode cX9_sendKept 1 = .ok (.istore_n 1, 1) := by decide +kernel
theorem dX9_sendKept_2 : decode cX9_sendKept 2 = .ok (.iconst 0, 1) := by decide +kernel
theorem dX9_sendKept_3 : decode cX9_sendKept 3 = .ok (.istore_n 2, 1) := by decide +kernel
theorem dX9_sendKept_4 : decode cX9_sendKept 4 = .ok (.iload_n 2, 1) := by decide +kernel
theorem dX9_sendKept_5 : decode cX9_sendKept 5 = .ok (.aload_n 0, 1) := by decide +kernel
theorem dX9_sendKept_6 : decode cX9_sendKept 6 = .ok (.getfield 9, 3) := by decide +kernel
theorem dX9_sendKept_9 : decode cX9_sendKept 9 = .ok (.getfield 74, 3) := by decide +kernel
theorem dX9_sendKept_12 : decode cX9_sendKept 12 = .ok (.if_icmp .ge 104, 3) := by decide +kernel
theorem dX9_sendKept_15 : decode cX9_sendKept 15 = .ok (.iload_n 2, 1) := by decide +kernel
theorem dX9_sendKept_16 : decode cX9_sendKept 16 = .ok (.bipush 14, 2) := by decide +kernel
theorem dX9_sendKept_18 : decode cX9_sendKept 18 = .ok (.if_icmp .ge 98, 3) := by decide +kernel
theorem dX9_sendKept_21 : decode cX9_sendKept 21 = .ok (.aload_n 0, 1) := by decide +kernel
theorem dX9_sendKept_22 : decode cX9_sendKept 22 = .ok (.getfield 40, 3) := by decide +kernel
theorem dX9_sendKept_25 : decode cX9_sendKept 25 = .ok (.iload_n 2, 1) := by decide +kernel
theorem dX9_sendKept_26 : decode cX9_sendKept 26 = .ok (.invokestatic 97, 3) := by decide +kernel
theorem dX9_sendKept_29 : decode cX9_sendKept 29 = .ok (.ifCond .ne 14, 3) := by decide +kernel
theorem dX9_sendKept_32 : decode cX9_sendKept 32 = .ok (.aload_n 0, 1) := by decide +kernel
theorem dX9_sendKept_33 : decode cX9_sendKept 33 = .ok (.getfield 23, 3) := by decide +kernel
theorem dX9_sendKept_36 : decode cX9_sendKept 36 = .ok (.iload_n 2, 1) := by decide +kernel
theorem dX9_sendKept_37 : decode cX9_sendKept 37 = .ok (.bipush (-9), 2) := by decide +kernel
theorem dX9_sendKept_39 : decode cX9_sendKept 39 = .ok (.iastore, 1) := by decide +kernel
theorem dX9_sendKept_40 : decode cX9_sendKept 40 = .ok (.goto 70, 3) := by decide +kernel
theorem dX9_sendKept_43 : decode cX9_sendKept 43 = .ok (.aload_n 0, 1) := by decide +kernel
theorem dX9_sendKept_44 : decode cX9_sendKept 44 = .ok (.getfield 9, 3) := by decide +kernel
theorem dX9_sendKept_47 : decode cX9_sendKept 47 = .ok (.iload_n 2, 1) := by decide +kernel
theorem dX9_sendKept_48 : decode cX9_sendKept 48 = .ok (.invokevirtual 77, 3) := by decide +kernel
theorem dX9_sendKept_51 : decode cX9_sendKept 51 = .ok (.ifCond .ne 27, 3) := by decide +kernel
theorem dX9_sendKept_54 : decode cX9_sendKept 54 = .ok (.aload_n 0, 1) := by decide +kernel
theorem dX9_sendKept_55 : decode cX9_sendKept 55 = .ok (.getfield 9, 3) := by decide +kernel
theorem dX9_sendKept_58 : decode cX9_sendKept 58 = .ok (.iload_n 2, 1) := by decide +kernel
theorem dX9_sendKept_59 : decode cX9_sendKept 59 = .ok (.invokevirtual 94, 3) := by decide +kernel
theorem dX9_sendKept_62 : decode cX9_sendKept 62 = .ok (.ifCond .ne 16, 3) := by decide +kernel
theorem dX9_sendKept_65 : decode cX9_sendKept 65 = .ok (.iload_n 2, 1) := by decide +kernel
theorem dX9_sendKept_66 : decode cX9_sendKept 66 = .ok (.iload_n 1, 1) := by decide +kernel
theorem dX9_sendKept_67 : decode cX9_sendKept 67 = .ok (.isub, 1) := by decide +kernel
theorem dX9_sendKept_68 : decode cX9_sendKept 68 = .ok (.aload_n 0, 1) := by decide +kernel
theorem dX9_sendKept_69 : decode cX9_sendKept 69 = .ok (.getfield 9, 3) := by decide +kernel
theorem dX9_sendKept_72 : decode cX9_sendKept 72 = .ok (.getfield 91, 3) := by decide +kernel
theorem dX9_sendKept_75 : decode cX9_sendKept 75 = .ok (.if_icmp .ne 7, 3) := by decide +kernel
theorem dX9_sendKept_78 : decode cX9_sendKept 78 = .ok (.iconst 1, 1) := by decide +kernel
theorem dX9_sendKept_79 : decode cX9_sendKept 79 = .ok (.goto 4, 3) := by decide +kernel
theorem dX9_sendKept_82 : decode cX9_sendKept 82 = .ok (.iconst 0, 1) := by decide +kernel
theorem dX9_sendKept_83 : decode cX9_sendKept 83 = .ok (.istore_n 3, 1) := by decide +kernel
theorem dX9_sendKept_84 : decode cX9_sendKept 84 = .ok (.aload_n 0, 1) := by decide +kernel
theorem dX9_sendKept_85 : decode cX9_sendKept 85 = .ok (.getfield 23, 3) := by decide +kernel
theorem dX9_sendKept_88 : decode cX9_sendKept 88 = .ok (.iload_n 2, 1) := by decide +kernel
theorem dX9_sendKept_89 : decode cX9_sendKept 89 = .ok (.aload_n 0, 1) := by decide +kernel
theorem dX9_sendKept_90 : decode cX9_sendKept 90 = .ok (.getfield 9, 3) := by decide +kernel
theorem dX9_sendKept_93 : decode cX9_sendKept 93 = .ok (.iload_n 3, 1) := by decide +kernel
theorem dX9_sendKept_94 : decode cX9_sendKept 94 = .ok (.ifCond .eq 7, 3) := by decide +kernel
theorem dX9_sendKept_97 : decode cX9_sendKept 97 = .ok (.iload_n 2, 1) := by decide +kernel
theorem dX9_sendKept_98 : decode cX9_sendKept 98 = .ok (.goto 6, 3) := by decide +kernel
theorem dX9_sendKept_101 : decode cX9_sendKept 101 = .ok (.iload_n 2, 1) := by decide +kernel
theorem dX9_sendKept_102 : decode cX9_sendKept 102 = .ok (.iconst 1, 1) := by decide +kernel
theorem dX9_sendKept_103 : decode cX9_sendKept 103 = .ok (.iadd, 1) := by decide +kernel
theorem dX9_sendKept_104 : decode cX9_sendKept 104 = .ok (.invokevirtual 100, 3) := by decide +kernel
theorem dX9_sendKept_107 : decode cX9_sendKept 107 = .ok (.iastore, 1) := by decide +kernel
theorem dX9_sendKept_108 : decode cX9_sendKept 108 = .ok (.iload_n 2, 1) := by decide +kernel
theorem dX9_sendKept_109 : decode cX9_sendKept 109 = .ok (.istore_n 1, 1) := by decide +kernel
theorem dX9_sendKept_110 : decode cX9_sendKept 110 = .ok (.iinc 2 1, 3) := by decide +kernel
theorem dX9_sendKept_113 : decode cX9_sendKept 113 = .ok (.goto (-109), 3) := by decide +kernel
theorem dX9_sendKept_116 : decode cX9_sendKept 116 = .ok (.return_, 1) := by decide +kernel
theorem dX9_longestWait_0 : decode cX9_longestWait 0 = .ok (.bipush (-9), 2) := by decide +kernel
theorem dX9_longestWait_2 : decode cX9_longestWait 2 = .ok (.istore_n 1, 1) := by decide +kernel
theorem dX9_longestWait_3 : decode cX9_longestWait 3 = .ok (.bipush (-9), 2) := by decide +kernel
theorem dX9_longestWait_5 : decode cX9_longestWait 5 = .ok (.istore_n 2, 1) := by decide +kernel
theorem dX9_longestWait_6 : decode cX9_longestWait 6 = .ok (.aload_n 0, 1) := by decide +kernel
theorem dX9_longestWait_7 : decode cX9_longestWait 7 = .ok (.getfield 9, 3) := by decide +kernel
theorem dX9_longestWait_10 : decode cX9_longestWait 10 = .ok (.getfield 74, 3) := by decide +kernel
theorem dX9_longestWait_13 : decode cX9_longestWait 13 = .ok (.iconst 1, 1) := by decide +kernel
theorem dX9_longestWait_14 : decode cX9_longestWait 14 = .ok (.isub, 1) := by decide +kernel
theorem dX9_longestWait_15 : decode cX9_longestWait 15 = .ok (.istore_n 3, 1) := by decide +kernel
theorem dX9_longestWait_16 : decode cX9_longestWait 16 = .ok (.iload_n 3, 1) := by decide +kernel
theorem dX9_longestWait_17 : decode cX9_longestWait 17 = .ok (.ifCond .lt 56, 3) := by decide +kernel
theorem dX9_longestWait_20 : decode cX9_longestWait 20 = .ok (.aload_n 0, 1) := by decide +kernel
theorem dX9_longestWait_21 : decode cX9_longestWait 21 = .ok (.getfield 9, 3) := by decide +kernel
theorem dX9_longestWait_24 : decode cX9_longestWait 24 = .ok (.iload_n 3, 1) := by decide +kernel
theorem dX9_longestWait_25 : decode cX9_longestWait 25 = .ok (.invokevirtual 80, 3) := by decide +kernel
theorem dX9_longestWait_28 : decode cX9_longestWait 28 = .ok (.ifCond .ne 6, 3) := by decide +kernel
theorem dX9_longestWait_31 : decode cX9_longestWait 31 = .ok (.goto 36, 3) := by decide +kernel
theorem dX9_longestWait_34 : decode cX9_longestWait 34 = .ok (.aload_n 0, 1) := by decide +kernel
theorem dX9_longestWait_35 : decode cX9_longestWait 35 = .ok (.getfield 40, 3) := by decide +kernel
theorem dX9_longestWait_38 : decode cX9_longestWait 38 = .ok (.iload_n 3, 1) := by decide +kernel
theorem dX9_longestWait_39 : decode cX9_longestWait 39 = .ok (.invokestatic 97, 3) := by decide +kernel
theorem dX9_longestWait_42 : decode cX9_longestWait 42 = .ok (.iconst 1, 1) := by decide +kernel
theorem dX9_longestWait_43 : decode cX9_longestWait 43 = .ok (.if_icmp .ne 9, 3) := by decide +kernel
theorem dX9_longestWait_46 : decode cX9_longestWait 46 = .ok (.aload_n 0, 1) := by decide +kernel
theorem dX9_longestWait_47 : decode cX9_longestWait 47 = .ok (.iload_n 3, 1) := by decide +kernel
theorem dX9_longestWait_48 : decode cX9_longestWait 48 = .ok (.invokevirtual 103, 3) := by decide +kernel
theorem dX9_longestWait_51 : decode cX9_longestWait 51 = .ok (.istore_n 2, 1) := by decide +kernel
theorem dX9_longestWait_52 : decode cX9_longestWait 52 = .ok (.iload_n 1, 1) := by decide +kernel
theorem dX9_longestWait_53 : decode cX9_longestWait 53 = .ok (.iload_n 2, 1) := by decide +kernel
theorem dX9_longestWait_54 : decode cX9_longestWait 54 = .ok (.aload_n 0, 1) := by decide +kernel
theorem dX9_longestWait_55 : decode cX9_longestWait 55 = .ok (.getfield 9, 3) := by decide +kernel
theorem dX9_longestWait_58 : decode cX9_longestWait 58 = .ok (.iload_n 3, 1) := by decide +kernel
theorem dX9_longestWait_59 : decode cX9_longestWait 59 = .ok (.invokevirtual 100, 3) := by decide +kernel
theorem dX9_longestWait_62 : decode cX9_longestWait 62 = .ok (.isub, 1) := by decide +kernel
theorem dX9_longestWait_63 : decode cX9_longestWait 63 = .ok (.invokestatic 106, 3) := by decide +kernel
theorem dX9_longestWait_66 : decode cX9_longestWait 66 = .ok (.istore_n 1, 1) := by decide +kernel
theorem dX9_longestWait_67 : decode cX9_longestWait 67 = .ok (.iinc 3 (-1), 3) := by decide +kernel
theorem dX9_longestWait_70 : decode cX9_longestWait 70 = .ok (.goto (-54), 3) := by decide +kernel
theorem dX9_longestWait_73 : decode cX9_longestWait 73 = .ok (.iload_n 1, 1) := by decide +kernel
theorem dX9_longestWait_74 : decode cX9_longestWait 74 = .ok (.ireturn, 1) := by decide +kernel
theorem dX9_chooseLeast_0 : decode cX9_chooseLeast 0 = .ok (.aload_n 0, 1) := by decide +kernel
theorem dX9_chooseLeast_1 : decode cX9_chooseLeast 1 = .ok (.getfield 9, 3) := by decide +kernel
theorem dX9_chooseLeast_4 : decode cX9_chooseLeast 4 = .ok (.getfield 74, 3) := by decide +kernel
theorem dX9_chooseLeast_7 : decode cX9_chooseLeast 7 = .ok (.bipush 14, 2) := by decide +kernel
theorem dX9_chooseLeast_9 : decode cX9_chooseLeast 9 = .ok (.invokestatic 111, 3) := by decide +kernel
theorem dX9_chooseLeast_12 : decode cX9_chooseLeast 12 = .ok (.iconst 1, 1) := by decide +kernel
theorem dX9_chooseLeast_13 : decode cX9_chooseLeast 13 = .ok (.isub, 1) := by decide +kernel
theorem dX9_chooseLeast_14 : decode cX9_chooseLeast 14 = .ok (.istore_n 1, 1) := by decide +kernel
theorem dX9_chooseLeast_15 : decode cX9_chooseLeast 15 = .ok (.iload_n 1, 1) := by decide +kernel
theorem dX9_chooseLeast_16 : decode cX9_chooseLeast 16 = .ok (.ifCond .lt 14, 3) := by decide +kernel
theorem dX9_chooseLeast_19 : decode cX9_chooseLeast 19 = .ok (.aload_n 0, 1) := by decide +kernel
theorem dX9_chooseLeast_20 : decode cX9_chooseLeast 20 = .ok (.iload_n 1, 1) := by decide +kernel
theorem dX9_chooseLeast_21 : decode cX9_chooseLeast 21 = .ok (.invokevirtual 114, 3) := by decide +kernel
theorem dX9_chooseLeast_24 : decode cX9_chooseLeast 24 = .ok (.iinc 1 (-1), 3) := by decide +kernel
theorem dX9_chooseLeast_27 : decode cX9_chooseLeast 27 = .ok (.goto (-12), 3) := by decide +kernel
theorem dX9_chooseLeast_30 : decode cX9_chooseLeast 30 = .ok (.iconst 0, 1) := by decide +kernel
theorem dX9_chooseLeast_31 : decode cX9_chooseLeast 31 = .ok (.istore_n 1, 1) := by decide +kernel
theorem dX9_chooseLeast_32 : decode cX9_chooseLeast 32 = .ok (.bipush (-9), 2) := by decide +kernel
theorem dX9_chooseLeast_34 : decode cX9_chooseLeast 34 = .ok (.istore_n 2, 1) := by decide +kernel
theorem dX9_chooseLeast_35 : decode cX9_chooseLeast 35 = .ok (.iconst 0, 1) := by decide +kernel
theorem dX9_chooseLeast_36 : decode cX9_chooseLeast 36 = .ok (.istore_n 3, 1) := by decide +kernel
theorem dX9_chooseLeast_37 : decode cX9_chooseLeast 37 = .ok (.iload_n 3, 1) := by decide +kernel
theorem dX9_chooseLeast_38 : decode cX9_chooseLeast 38 = .ok (.aload_n 0, 1) := by decide +kernel
theorem dX9_chooseLeast_39 : decode cX9_chooseLeast 39 = .ok (.getfield 9, 3) := by decide +kernel
theorem dX9_chooseLeast_42 : decode cX9_chooseLeast 42 = .ok (.getfield 74, 3) := by decide +kernel
theorem dX9_chooseLeast_45 : decode cX9_chooseLeast 45 = .ok (.if_icmp .ge 44, 3) := by decide +kernel
theorem dX9_chooseLeast_48 : decode cX9_chooseLeast 48 = .ok (.iload_n 3, 1) := by decide +kernel
theorem dX9_chooseLeast_49 : decode cX9_chooseLeast 49 = .ok (.bipush 14, 2) := by decide +kernel
theorem dX9_chooseLeast_51 : decode cX9_chooseLeast 51 = .ok (.if_icmp .ge 38, 3) := by decide +kernel
theorem dX9_chooseLeast_54 : decode cX9_chooseLeast 54 = .ok (.aload_n 0, 1) := by decide +kernel
theorem dX9_chooseLeast_55 : decode cX9_chooseLeast 55 = .ok (.getfield 9, 3) := by decide +kernel
theorem dX9_chooseLeast_58 : decode cX9_chooseLeast 58 = .ok (.iload_n 3, 1) := by decide +kernel
theorem dX9_chooseLeast_59 : decode cX9_chooseLeast 59 = .ok (.invokevirtual 77, 3) := by decide +kernel
theorem dX9_chooseLeast_62 : decode cX9_chooseLeast 62 = .ok (.ifCond .ne 8, 3) := by decide +kernel
theorem dX9_chooseLeast_65 : decode cX9_chooseLeast 65 = .ok (.iload_n 3, 1) := by decide +kernel
theorem dX9_chooseLeast_66 : decode cX9_chooseLeast 66 = .ok (.iload_n 2, 1) := by decide +kernel
theorem dX9_chooseLeast_67 : decode cX9_chooseLeast 67 = .ok (.if_icmp .ne 16, 3) := by decide +kernel
theorem dX9_chooseLeast_70 : decode cX9_chooseLeast 70 = .ok (.iload_n 1, 1) := by decide +kernel
theorem dX9_chooseLeast_71 : decode cX9_chooseLeast 71 = .ok (.iconst 1, 1) := by decide +kernel
theorem dX9_chooseLeast_72 : decode cX9_chooseLeast 72 = .ok (.iload_n 3, 1) := by decide +kernel
theorem dX9_chooseLeast_73 : decode cX9_chooseLeast 73 = .ok (.ishl, 1) := by decide +kernel
theorem dX9_chooseLeast_74 : decode cX9_chooseLeast 74 = .ok (.ior, 1) := by decide +kernel
theorem dX9_chooseLeast_75 : decode cX9_chooseLeast 75 = .ok (.istore_n 1, 1) := by decide +kernel
theorem dX9_chooseLeast_76 : decode cX9_chooseLeast 76 = .ok (.aload_n 0, 1) := by decide +kernel
theorem dX9_chooseLeast_77 : decode cX9_chooseLeast 77 = .ok (.getfield 29, 3) := by decide +kernel
theorem dX9_chooseLeast_80 : decode cX9_chooseLeast 80 = .ok (.iload_n 3, 1) := by decide +kernel
theorem dX9_chooseLeast_81 : decode cX9_chooseLeast 81 = .ok (.iaload, 1) := by decide +kernel
theorem dX9_chooseLeast_82 : decode cX9_chooseLeast 82 = .ok (.istore_n 2, 1) := by decide +kernel
theorem dX9_chooseLeast_83 : decode cX9_chooseLeast 83 = .ok (.iinc 3 1, 3) := by decide +kernel
theorem dX9_chooseLeast_86 : decode cX9_chooseLeast 86 = .ok (.goto (-49), 3) := by decide +kernel
theorem dX9_chooseLeast_89 : decode cX9_chooseLeast 89 = .ok (.iload_n 1, 1) := by decide +kernel
theorem dX9_chooseLeast_90 : decode cX9_chooseLeast 90 = .ok (.ireturn, 1) := by decide +kernel
theorem dX9_chooseNext_0 : decode cX9_chooseNext 0 = .ok (.aload_n 0, 1) := by decide +kernel
theorem dX9_chooseNext_1 : decode cX9_chooseNext 1 = .ok (.getfield 26, 3) := by decide +kernel
theorem dX9_chooseNext_4 : decode cX9_chooseNext 4 = .ok (.iload_n 1, 1) := by decide +kernel
theorem dX9_chooseNext_5 : decode cX9_chooseNext 5 = .ok (.iconst 0, 1) := by decide +kernel
theorem dX9_chooseNext_6 : decode cX9_chooseNext 6 = .ok (.iastore, 1) := by decide +kernel
theorem dX9_chooseNext_7 : decode cX9_chooseNext 7 = .ok (.aload_n 0, 1) := by decide +kernel
theorem dX9_chooseNext_8 : decode cX9_chooseNext 8 = .ok (.getfield 29, 3) := by decide +kernel
theorem dX9_chooseNext_11 : decode cX9_chooseNext 11 = .ok (.iload_n 1, 1) := by decide +kernel
theorem dX9_chooseNext_12 : decode cX9_chooseNext 12 = .ok (.bipush (-9), 2) := by decide +kernel
theorem dX9_chooseNext_14 : decode cX9_chooseNext 14 = .ok (.iastore, 1) := by decide +kernel
theorem dX9_chooseNext_15 : decode cX9_chooseNext 15 = .ok (.aload_n 0, 1) := by decide +kernel
theorem dX9_chooseNext_16 : decode cX9_chooseNext 16 = .ok (.getfield 9, 3) := by decide +kernel
theorem dX9_chooseNext_19 : decode cX9_chooseNext 19 = .ok (.iload_n 1, 1) := by decide +kernel
theorem dX9_chooseNext_20 : decode cX9_chooseNext 20 = .ok (.invokevirtual 80, 3) := by decide +kernel
theorem dX9_chooseNext_23 : decode cX9_chooseNext 23 = .ok (.ifCond .ne 4, 3) := by decide +kernel
theorem dX9_chooseNext_26 : decode cX9_chooseNext 26 = .ok (.return_, 1) := by decide +kernel
theorem dX9_chooseNext_27 : decode cX9_chooseNext 27 = .ok (.iload_n 1, 1) := by decide +kernel
theorem dX9_chooseNext_28 : decode cX9_chooseNext 28 = .ok (.iconst 1, 1) := by decide +kernel
theorem dX9_chooseNext_29 : decode cX9_chooseNext 29 = .ok (.iadd, 1) := by decide +kernel
theorem dX9_chooseNext_30 : decode cX9_chooseNext 30 = .ok (.istore_n 2, 1) := by decide +kernel
theorem dX9_chooseNext_31 : decode cX9_chooseNext 31 = .ok (.iload_n 2, 1) := by decide +kernel
theorem dX9_chooseNext_32 : decode cX9_chooseNext 32 = .ok (.bipush 14, 2) := by decide +kernel
theorem dX9_chooseNext_34 : decode cX9_chooseNext 34 = .ok (.if_icmp .ge 98, 3) := by decide +kernel
theorem dX9_chooseNext_37 : decode cX9_chooseNext 37 = .ok (.aload_n 0, 1) := by decide +kernel
theorem dX9_chooseNext_38 : decode cX9_chooseNext 38 = .ok (.getfield 9, 3) := by decide +kernel
theorem dX9_chooseNext_41 : decode cX9_chooseNext 41 = .ok (.iload_n 2, 1) := by decide +kernel
theorem dX9_chooseNext_42 : decode cX9_chooseNext 42 = .ok (.invokevirtual 80, 3) := by decide +kernel
theorem dX9_chooseNext_45 : decode cX9_chooseNext 45 = .ok (.ifCond .eq 87, 3) := by decide +kernel
theorem dX9_chooseNext_48 : decode cX9_chooseNext 48 = .ok (.aload_n 0, 1) := by decide +kernel
theorem dX9_chooseNext_49 : decode cX9_chooseNext 49 = .ok (.getfield 29, 3) := by decide +kernel
theorem dX9_chooseNext_52 : decode cX9_chooseNext 52 = .ok (.iload_n 1, 1) := by decide +kernel
theorem dX9_chooseNext_53 : decode cX9_chooseNext 53 = .ok (.iaload, 1) := by decide +kernel
theorem dX9_chooseNext_54 : decode cX9_chooseNext 54 = .ok (.bipush (-9), 2) := by decide +kernel
theorem dX9_chooseNext_56 : decode cX9_chooseNext 56 = .ok (.if_icmp .eq 20, 3) := by decide +kernel
theorem dX9_chooseNext_59 : decode cX9_chooseNext 59 = .ok (.aload_n 0, 1) := by decide +kernel
theorem dX9_chooseNext_60 : decode cX9_chooseNext 60 = .ok (.getfield 26, 3) := by decide +kernel
theorem dX9_chooseNext_63 : decode cX9_chooseNext 63 = .ok (.iload_n 2, 1) := by decide +kernel
theorem dX9_chooseNext_64 : decode cX9_chooseNext 64 = .ok (.iaload, 1) := by decide +kernel
theorem dX9_chooseNext_65 : decode cX9_chooseNext 65 = .ok (.iconst 1, 1) := by decide +kernel
theorem dX9_chooseNext_66 : decode cX9_chooseNext 66 = .ok (.iadd, 1) := by decide +kernel
theorem dX9_chooseNext_67 : decode cX9_chooseNext 67 = .ok (.aload_n 0, 1) := by decide +kernel
theorem dX9_chooseNext_68 : decode cX9_chooseNext 68 = .ok (.getfield 26, 3) := by decide +kernel
theorem dX9_chooseNext_71 : decode cX9_chooseNext 71 = .ok (.iload_n 1, 1) := by decide +kernel
theorem dX9_chooseNext_72 : decode cX9_chooseNext 72 = .ok (.iaload, 1) := by decide +kernel
theorem dX9_chooseNext_73 : decode cX9_chooseNext 73 = .ok (.if_icmp .ge 7, 3) := by decide +kernel
theorem dX9_chooseNext_76 : decode cX9_chooseNext 76 = .ok (.iconst 1, 1) := by decide +kernel
theorem dX9_chooseNext_77 : decode cX9_chooseNext 77 = .ok (.goto 4, 3) := by decide +kernel
theorem dX9_chooseNext_80 : decode cX9_chooseNext 80 = .ok (.iconst 0, 1) := by decide +kernel
theorem dX9_chooseNext_81 : decode cX9_chooseNext 81 = .ok (.istore_n 3, 1) := by decide +kernel
theorem dX9_chooseNext_82 : decode cX9_chooseNext 82 = .ok (.iload_n 3, 1) := by decide +kernel
theorem dX9_chooseNext_83 : decode cX9_chooseNext 83 = .ok (.ifCond .eq 43, 3) := by decide +kernel
theorem dX9_chooseNext_86 : decode cX9_chooseNext 86 = .ok (.aload_n 0, 1) := by decide +kernel
theorem dX9_chooseNext_87 : decode cX9_chooseNext 87 = .ok (.getfield 15, 3) := by decide +kernel
theorem dX9_chooseNext_90 : decode cX9_chooseNext 90 = .ok (.iload_n 1, 1) := by decide +kernel
theorem dX9_chooseNext_91 : decode cX9_chooseNext 91 = .ok (.iload_n 2, 1) := by decide +kernel
theorem dX9_chooseNext_92 : decode cX9_chooseNext 92 = .ok (.invokevirtual 87, 3) := by decide +kernel
theorem dX9_chooseNext_95 : decode cX9_chooseNext 95 = .ok (.aload_n 0, 1) := by decide +kernel
theorem dX9_chooseNext_96 : decode cX9_chooseNext 96 = .ok (.getfield 9, 3) := by decide +kernel
theorem dX9_chooseNext_99 : decode cX9_chooseNext 99 = .ok (.getfield 54, 3) := by decide +kernel
theorem dX9_chooseNext_102 : decode cX9_chooseNext 102 = .ok (.if_icmp .gt 24, 3) := by decide +kernel
theorem dX9_chooseNext_105 : decode cX9_chooseNext 105 = .ok (.aload_n 0, 1) := by decide +kernel
theorem dX9_chooseNext_106 : decode cX9_chooseNext 106 = .ok (.getfield 26, 3) := by decide +kernel
theorem dX9_chooseNext_109 : decode cX9_chooseNext 109 = .ok (.iload_n 1, 1) := by decide +kernel
theorem dX9_chooseNext_110 : decode cX9_chooseNext 110 = .ok (.aload_n 0, 1) := by decide +kernel
theorem dX9_chooseNext_111 : decode cX9_chooseNext 111 = .ok (.getfield 26, 3) := by decide +kernel
theorem dX9_chooseNext_114 : decode cX9_chooseNext 114 = .ok (.iload_n 2, 1) := by decide +kernel
theorem dX9_chooseNext_115 : decode cX9_chooseNext 115 = .ok (.iaload, 1) := by decide +kernel
theorem dX9_chooseNext_116 : decode cX9_chooseNext 116 = .ok (.iconst 1, 1) := by decide +kernel
theorem dX9_chooseNext_117 : decode cX9_chooseNext 117 = .ok (.iadd, 1) := by decide +kernel
theorem dX9_chooseNext_118 : decode cX9_chooseNext 118 = .ok (.iastore, 1) := by decide +kernel
theorem dX9_chooseNext_119 : decode cX9_chooseNext 119 = .ok (.aload_n 0, 1) := by decide +kernel
theorem dX9_chooseNext_120 : decode cX9_chooseNext 120 = .ok (.getfield 29, 3) := by decide +kernel
theorem dX9_chooseNext_123 : decode cX9_chooseNext 123 = .ok (.iload_n 1, 1) := by decide +kernel
theorem dX9_chooseNext_124 : decode cX9_chooseNext 124 = .ok (.iload_n 2, 1) := by decide +kernel
theorem dX9_chooseNext_125 : decode cX9_chooseNext 125 = .ok (.iastore, 1) := by decide +kernel
theorem dX9_chooseNext_126 : decode cX9_chooseNext 126 = .ok (.iinc 2 1, 3) := by decide +kernel
theorem dX9_chooseNext_129 : decode cX9_chooseNext 129 = .ok (.goto (-98), 3) := by decide +kernel
theorem dX9_chooseNext_132 : decode cX9_chooseNext 132 = .ok (.return_, 1) := by decide +kernel
theorem dX10_init_0 : decode cX10_init 0 = .ok (.aload_n 0, 1) := by decide +kernel
theorem dX10_init_1 : decode cX10_init 1 = .ok (.invokespecial 3, 3) := by decide +kernel
theorem dX10_init_4 : decode cX10_init 4 = .ok (.aload_n 0, 1) := by decide +kernel
theorem dX10_init_5 : decode cX10_init 5 = .ok (.new 9, 3) := by decide +kernel
theorem dX10_init_8 : decode cX10_init 8 = .ok (.dup, 1) := by decide +kernel
theorem dX10_init_9 : decode cX10_init 9 = .ok (.invokespecial 11, 3) := by decide +kernel
theorem dX10_init_12 : decode cX10_init 12 = .ok (.putfield 12, 3) := by decide +kernel
theorem dX10_init_15 : decode cX10_init 15 = .ok (.aload_n 0, 1) := by decide +kernel
theorem dX10_init_16 : decode cX10_init 16 = .ok (.new 16, 3) := by decide +kernel
theorem dX10_init_19 : decode cX10_init 19 = .ok (.dup, 1) := by decide +kernel
theorem dX10_init_20 : decode cX10_init 20 = .ok (.aload_n 0, 1) := by decide +kernel
theorem dX10_init_21 : decode cX10_init 21 = .ok (.getfield 12, 3) := by decide +kernel
theorem dX10_init_24 : decode cX10_init 24 = .ok (.invokespecial 18, 3) := by decide +kernel
theorem dX10_init_27 : decode cX10_init 27 = .ok (.putfield 21, 3) := by decide +kernel
theorem dX10_init_30 : decode cX10_init 30 = .ok (.aload_n 0, 1) := by decide +kernel
theorem dX10_init_31 : decode cX10_init 31 = .ok (.new 25, 3) := by decide +kernel
theorem dX10_init_34 : decode cX10_init 34 = .ok (.dup, 1) := by decide +kernel
theorem dX10_init_35 : decode cX10_init 35 = .ok (.invokespecial 27, 3) := by decide +kernel
theorem dX10_init_38 : decode cX10_init 38 = .ok (.putfield 28, 3) := by decide +kernel
theorem dX10_init_41 : decode cX10_init 41 = .ok (.aload_n 0, 1) := by decide +kernel
theorem dX10_init_42 : decode cX10_init 42 = .ok (.new 32, 3) := by decide +kernel
theorem dX10_init_45 : decode cX10_init 45 = .ok (.dup, 1) := by decide +kernel
theorem dX10_init_46 : decode cX10_init 46 = .ok (.invokespecial 34, 3) := by decide +kernel
theorem dX10_init_49 : decode cX10_init 49 = .ok (.putfield 35, 3) := by decide +kernel
theorem dX10_init_52 : decode cX10_init 52 = .ok (.aload_n 0, 1) := by decide +kernel
theorem dX10_init_53 : decode cX10_init 53 = .ok (.new 39, 3) := by decide +kernel
theorem dX10_init_56 : decode cX10_init 56 = .ok (.dup, 1) := by decide +kernel
theorem dX10_init_57 : decode cX10_init 57 = .ok (.iconst 2, 1) := by decide +kernel
theorem dX10_init_58 : decode cX10_init 58 = .ok (.invokespecial 41, 3) := by decide +kernel
theorem dX10_init_61 : decode cX10_init 61 = .ok (.putfield 44, 3) := by decide +kernel
theorem dX10_init_64 : decode cX10_init 64 = .ok (.aload_n 0, 1) := by decide +kernel
theorem dX10_init_65 : decode cX10_init 65 = .ok (.new 48, 3) := by decide +kernel
theorem dX10_init_68 : decode cX10_init 68 = .ok (.dup, 1) := by decide +kernel
theorem dX10_init_69 : decode cX10_init 69 = .ok (.aload_n 0, 1) := by decide +kernel
theorem dX10_init_70 : decode cX10_init 70 = .ok (.getfield 28, 3) := by decide +kernel
theorem dX10_init_73 : decode cX10_init 73 = .ok (.invokespecial 50, 3) := by decide +kernel
theorem dX10_init_76 : decode cX10_init 76 = .ok (.putfield 53, 3) := by decide +kernel
theorem dX10_init_79 : decode cX10_init 79 = .ok (.aload_n 0, 1) := by decide +kernel
theorem dX10_init_80 : decode cX10_init 80 = .ok (.new 57, 3) := by decide +kernel
theorem dX10_init_83 : decode cX10_init 83 = .ok (.dup, 1) := by decide +kernel
theorem dX10_init_84 : decode cX10_init 84 = .ok (.aload_n 0, 1) := by decide +kernel
theorem dX10_init_85 : decode cX10_init 85 = .ok (.getfield 28, 3) := by decide +kernel
theorem dX10_init_88 : decode cX10_init 88 = .ok (.aload_n 0, 1) := by decide +kernel
theorem dX10_init_89 : decode cX10_init 89 = .ok (.getfield 53, 3) := by decide +kernel
theorem dX10_init_92 : decode cX10_init 92 = .ok (.invokespecial 59, 3) := by decide +kernel
theorem dX10_init_95 : decode cX10_init 95 = .ok (.putfield 62, 3) := by decide +kernel
theorem dX10_init_98 : decode cX10_init 98 = .ok (.aload_n 0, 1) := by decide +kernel
theorem dX10_init_99 : decode cX10_init 99 = .ok (.new 66, 3) := by decide +kernel
theorem dX10_init_102 : decode cX10_init 102 = .ok (.dup, 1) := by decide +kernel
theorem dX10_init_103 : decode cX10_init 103 = .ok (.invokespecial 68, 3) := by decide +kernel
theorem dX10_init_106 : decode cX10_init 106 = .ok (.putfield 69, 3) := by decide +kernel
theorem dX10_init_109 : decode cX10_init 109 = .ok (.aload_n 0, 1) := by decide +kernel
theorem dX10_init_110 : decode cX10_init 110 = .ok (.new 73, 3) := by decide +kernel
theorem dX10_init_113 : decode cX10_init 113 = .ok (.dup, 1) := by decide +kernel
theorem dX10_init_114 : decode cX10_init 114 = .ok (.aload_n 0, 1) := by decide +kernel
theorem dX10_init_115 : decode cX10_init 115 = .ok (.getfield 28, 3) := by decide +kernel
theorem dX10_init_118 : decode cX10_init 118 = .ok (.aload_n 0, 1) := by decide +kernel
theorem dX10_init_119 : decode cX10_init 119 = .ok (.getfield 62, 3) := by decide +kernel
theorem dX10_init_122 : decode cX10_init 122 = .ok (.aload_n 0, 1) := by decide +kernel
theorem dX10_init_123 : decode cX10_init 123 = .ok (.getfield 69, 3) := by decide +kernel
theorem dX10_init_126 : decode cX10_init 126 = .ok (.invokespecial 75, 3) := by decide +kernel
theorem dX10_init_129 : decode cX10_init 129 = .ok (.putfield 78, 3) := by decide +kernel
theorem dX10_init_132 : decode cX10_init 132 = .ok (.aload_n 0, 1) := by decide +kernel
theorem dX10_init_133 : decode cX10_init 133 = .ok (.new 82, 3) := by decide +kernel
theorem dX10_init_136 : decode cX10_init 136 = .ok (.dup, 1) := by decide +kernel
theorem dX10_init_137 : decode cX10_init 137 = .ok (.invokespecial 84, 3) := by decide +kernel
theorem dX10_init_140 : decode cX10_init 140 = .ok (.putfield 85, 3) := by decide +kernel
theorem dX10_init_143 : decode cX10_init 143 = .ok (.return_, 1) := by decide +kernel
theorem dX10_type_0 : decode cX10_type 0 = .ok (.iload_n 1, 1) := by decide +kernel
theorem dX10_type_1 : decode cX10_type 1 = .ok (.iconst 0, 1) := by decide +kernel
theorem dX10_type_2 : decode cX10_type 2 = .ok (.sipush 255, 3) := by decide +kernel
theorem dX10_type_5 : decode cX10_type 5 = .ok (.invokestatic 89, 3) := by decide +kernel
theorem dX10_type_8 : decode cX10_type 8 = .ok (.ifCond .ne 5, 3) := by decide +kernel
theorem dX10_type_11 : decode cX10_type 11 = .ok (.iconst (-1), 1) := by decide +kernel
theorem dX10_type_12 : decode cX10_type 12 = .ok (.ireturn, 1) := by decide +kernel
theorem dX10_type_13 : decode cX10_type 13 = .ok (.aload_n 0, 1) := by decide +kernel
theorem dX10_type_14 : decode cX10_type 14 = .ok (.getfield 12, 3) := by decide +kernel
theorem dX10_type_17 : decode cX10_type 17 = .ok (.invokevirtual 93, 3) := by decide +kernel
theorem dX10_type_20 : decode cX10_type 20 = .ok (.ifCond .eq 6, 3) := by decide +kernel
theorem dX10_type_23 : decode cX10_type 23 = .ok (.bipush (-3), 2) := by decide +kernel
theorem dX10_type_25 : decode cX10_type 25 = .ok (.ireturn, 1) := by decide +kernel
theorem dX10_type_26 : decode cX10_type 26 = .ok (.aload_n 0, 1) := by decide +kernel
theorem dX10_type_27 : decode cX10_type 27 = .ok (.getfield 12, 3) := by decide +kernel
theorem dX10_type_30 : decode cX10_type 30 = .ok (.iload_n 1, 1) := by decide +kernel
theorem dX10_type_31 : decode cX10_type 31 = .ok (.i2c, 1) := by decide +kernel
theorem dX10_type_32 : decode cX10_type 32 = .ok (.invokevirtual 97, 3) := by decide +kernel
theorem dX10_type_35 : decode cX10_type 35 = .ok (.ireturn, 1) := by decide +kernel
theorem dX10_clear_0 : decode cX10_clear 0 = .ok (.aload_n 0, 1) := by decide +kernel
theorem dX10_clear_1 : decode cX10_clear 1 = .ok (.getfield 12, 3) := by decide +kernel
theorem dX10_clear_4 : decode cX10_clear 4 = .ok (.invokevirtual 101, 3) := by decide +kernel
theorem dX10_clear_7 : decode cX10_clear 7 = .ok (.ireturn, 1) := by decide +kernel
theorem dX10_readings_0 : decode cX10_readings 0 = .ok (.aload_n 0, 1) := by decide +kernel
theorem dX10_readings_1 : decode cX10_readings 1 = .ok (.getfield 21, 3) := by decide +kernel
theorem dX10_readings_4 : decode cX10_readings 4 = .ok (.invokevirtual 105, 3) := by decide +kernel
theorem dX10_readings_7 : decode cX10_readings 7 = .ok (.istore_n 1, 1) := by decide +kernel
theorem dX10_readings_8 : decode cX10_readings 8 = .ok (.iload_n 1, 1) := by decide +kernel
theorem dX10_readings_9 : decode cX10_readings 9 = .ok (.ifCond .ge 5, 3) := by decide +kernel
theorem dX10_readings_12 : decode cX10_readings 12 = .ok (.iload_n 1, 1) := by decide +kernel
theorem dX10_readings_13 : decode cX10_readings 13 = .ok (.ireturn, 1) := by decide +kernel
theorem dX10_readings_14 : decode cX10_readings 14 = .ok (.aload_n 0, 1) := by decide +kernel
theorem dX10_readings_15 : decode cX10_readings 15 = .ok (.getfield 28, 3) := by decide +kernel
theorem dX10_readings_18 : decode cX10_readings 18 = .ok (.aload_n 0, 1) := by decide +kernel
theorem dX10_readings_19 : decode cX10_readings 19 = .ok (.getfield 21, 3) := by decide +kernel
theorem dX10_readings_22 : decode cX10_readings 22 = .ok (.getfield 108, 3) := by decide +kernel
theorem dX10_readings_25 : decode cX10_readings 25 = .ok (.invokevirtual 111, 3) := by decide +kernel
theorem dX10_readings_28 : decode cX10_readings 28 = .ok (.aload_n 0, 1) := by decide +kernel
theorem dX10_readings_29 : decode cX10_readings 29 = .ok (.getfield 12, 3) := by decide +kernel
theorem dX10_readings_32 : decode cX10_readings 32 = .ok (.invokevirtual 101, 3) := by decide +kernel
theorem dX10_readings_35 : decode cX10_readings 35 = .ok (.pop, 1) := by decide +kernel
theorem dX10_readings_36 : decode cX10_readings 36 = .ok (.aload_n 0, 1) := by decide +kernel
theorem dX10_readings_37 : decode cX10_readings 37 = .ok (.getfield 35, 3) := by decide +kernel
theorem dX10_readings_40 : decode cX10_readings 40 = .ok (.invokevirtual 114, 3) := by decide +kernel
theorem dX10_readings_43 : decode cX10_readings 43 = .ok (.aload_n 0, 1) := by decide +kernel
theorem dX10_readings_44 : decode cX10_readings 44 = .ok (.getfield 44, 3) := by decide +kernel
theorem dX10_readings_47 : decode cX10_readings 47 = .ok (.invokevirtual 116, 3) := by decide +kernel
theorem dX10_readings_50 : decode cX10_readings 50 = .ok (.aload_n 0, 1) := by decide +kernel
theorem dX10_readings_51 : decode cX10_readings 51 = .ok (.getfield 69, 3) := by decide +kernel
theorem dX10_readings_54 : decode cX10_readings 54 = .ok (.invokevirtual 117, 3) := by decide +kernel
theorem dX10_readings_57 : decode cX10_readings 57 = .ok (.pop, 1) := by decide +kernel
theorem dX10_readings_58 : decode cX10_readings 58 = .ok (.aload_n 0, 1) := by decide +kernel
theorem dX10_readings_59 : decode cX10_readings 59 = .ok (.invokevirtual 118, 3) := by decide +kernel
theorem dX10_readings_62 : decode cX10_readings 62 = .ok (.iload_n 1, 1) := by decide +kernel
theorem dX10_readings_63 : decode cX10_readings 63 = .ok (.ireturn, 1) := by decide +kernel
theorem dX10_adds_0 : decode cX10_adds 0 = .ok (.iload_n 1, 1) := by decide +kernel
theorem dX10_adds_1 : decode cX10_adds 1 = .ok (.iconst 0, 1) := by decide +kernel
theorem dX10_adds_2 : decode cX10_adds 2 = .ok (.sipush 999, 3) := by decide +kernel
theorem dX10_adds_5 : decode cX10_adds 5 = .ok (.invokestatic 89, 3) := by decide +kernel
theorem dX10_adds_8 : decode cX10_adds 8 = .ok (.ifCond .eq 14, 3) := by decide +kernel
theorem dX10_adds_11 : decode cX10_adds 11 = .ok (.iload_n 2, 1) := by decide +kernel
theorem dX10_adds_12 : decode cX10_adds 12 = .ok (.iconst 0, 1) := by decide +kernel
theorem dX10_adds_13 : decode cX10_adds 13 = .ok (.sipush 999, 3) := by decide +kernel
theorem dX10_adds_16 : decode cX10_adds 16 = .ok (.invokestatic 89, 3) := by decide +kernel
theorem dX10_adds_19 : decode cX10_adds 19 = .ok (.ifCond .ne 5, 3) := by decide +kernel
theorem dX10_adds_22 : decode cX10_adds 22 = .ok (.iconst (-1), 1) := by decide +kernel
theorem dX10_adds_23 : decode cX10_adds 23 = .ok (.ireturn, 1) := by decide +kernel
theorem dX10_adds_24 : decode cX10_adds 24 = .ok (.aload_n 0, 1) := by decide +kernel
theorem dX10_adds_25 : decode cX10_adds 25 = .ok (.iload_n 1, 1) := by decide +kernel
theorem dX10_adds_26 : decode cX10_adds 26 = .ok (.iload_n 2, 1) := by decide +kernel
theorem dX10_adds_27 : decode cX10_adds 27 = .ok (.invokevirtual 121, 3) := by decide +kernel
theorem dX10_adds_30 : decode cX10_adds 30 = .ok (.ireturn, 1) := by decide +kernel
theorem dX10_misses_0 : decode cX10_misses 0 = .ok (.iload_n 1, 1) := by decide +kernel
theorem dX10_misses_1 : decode cX10_misses 1 = .ok (.iconst 0, 1) := by decide +kernel
theorem dX10_misses_2 : decode cX10_misses 2 = .ok (.sipush 999, 3) := by decide +kernel
theorem dX10_misses_5 : decode cX10_misses 5 = .ok (.invokestatic 89, 3) := by decide +kernel
theorem dX10_misses_8 : decode cX10_misses 8 = .ok (.ifCond .ne 5, 3) := by decide +kernel
theorem dX10_misses_11 : decode cX10_misses 11 = .ok (.iconst (-1), 1) := by decide +kernel
theorem dX10_misses_12 : decode cX10_misses 12 = .ok (.ireturn, 1) := by decide +kernel
theorem dX10_misses_13 : decode cX10_misses 13 = .ok (.aload_n 0, 1) := by decide +kernel
theorem dX10_misses_14 : decode cX10_misses 14 = .ok (.iload_n 1, 1) := by decide +kernel
theorem dX10_misses_15 : decode cX10_misses 15 = .ok (.bipush (-9), 2) := by decide +kernel
theorem dX10_misses_17 : decode cX10_misses 17 = .ok (.invokevirtual 121, 3) := by decide +kernel
theorem dX10_misses_20 : decode cX10_misses 20 = .ok (.ireturn, 1) := by decide +kernel
theorem dX10_strikes_0 : decode cX10_strikes 0 = .ok (.aload_n 0, 1) := by decide +kernel
theorem dX10_strikes_1 : decode cX10_strikes 1 = .ok (.getfield 28, 3) := by decide +kernel
theorem dX10_strikes_4 : decode cX10_strikes 4 = .ok (.iload_n 1, 1) := by decide +kernel
theorem dX10_strikes_5 : decode cX10_strikes 5 = .ok (.invokevirtual 125, 3) := by decide +kernel
theorem dX10_strikes_8 : decode cX10_strikes 8 = .ok (.ifCond .ne 5, 3) := by decide +kernel
theorem dX10_strikes_11 : decode cX10_strikes 11 = .ok (.iconst (-1), 1) := by decide +kernel
theorem dX10_strikes_12 : decode cX10_strikes 12 = .ok (.ireturn, 1) := by decide +kernel
theorem dX10_strikes_13 : decode cX10_strikes 13 = .ok (.aload_n 0, 1) := by decide +kernel
theorem dX10_strikes_14 : decode cX10_strikes 14 = .ok (.invokevirtual 129, 3) := by decide +kernel
theorem dX10_strikes_17 : decode cX10_strikes 17 = .ok (.aload_n 0, 1) := by decide +kernel
theorem dX10_strikes_18 : decode cX10_strikes 18 = .ok (.getfield 28, 3) := by decide +kernel
theorem dX10_strikes_21 : decode cX10_strikes 21 = .ok (.iload_n 1, 1) := by decide +kernel
theorem dX10_strikes_22 : decode cX10_strikes 22 = .ok (.invokevirtual 132, 3) := by decide +kernel
theorem dX10_strikes_25 : decode cX10_strikes 25 = .ok (.aload_n 0, 1) := by decide +kernel
theorem dX10_strikes_26 : decode cX10_strikes 26 = .ok (.getfield 28, 3) := by decide +kernel
theorem dX10_strikes_29 : decode cX10_strikes 29 = .ok (.getfield 135, 3) := by decide +kernel
theorem dX10_strikes_32 : decode cX10_strikes 32 = .ok (.ireturn, 1) := by decide +kernel
theorem dX10_promises_0 : decode cX10_promises 0 = .ok (.iload_n 1, 1) := by decide +kernel
theorem dX10_promises_1 : decode cX10_promises 1 = .ok (.iconst 0, 1) := by decide +kernel
theorem dX10_promises_2 : decode cX10_promises 2 = .ok (.bipush 99, 2) := by decide +kernel
theorem dX10_promises_4 : decode cX10_promises 4 = .ok (.invokestatic 89, 3) := by decide +kernel
theorem dX10_promises_7 : decode cX10_promises 7 = .ok (.ifCond .ne 5, 3) := by decide +kernel
theorem dX10_promises_10 : decode cX10_promises 10 = .ok (.iconst (-1), 1) := by decide +kernel
theorem dX10_promises_11 : decode cX10_promises 11 = .ok (.ireturn, 1) := by decide +kernel
theorem dX10_promises_12 : decode cX10_promises 12 = .ok (.aload_n 0, 1) := by decide +kernel
theorem dX10_promises_13 : decode cX10_promises 13 = .ok (.invokevirtual 129, 3) := by decide +kernel
theorem dX10_promises_16 : decode cX10_promises 16 = .ok (.aload_n 0, 1) := by decide +kernel
theorem dX10_promises_17 : decode cX10_promises 17 = .ok (.getfield 28, 3) := by decide +kernel
theorem dX10_promises_20 : decode cX10_promises 20 = .ok (.getfield 139, 3) := by decide +kernel
theorem dX10_promises_23 : decode cX10_promises 23 = .ok (.istore_n 2, 1) := by decide +kernel
theorem dX10_promises_24 : decode cX10_promises 24 = .ok (.aload_n 0, 1) := by decide +kernel
theorem dX10_promises_25 : decode cX10_promises 25 = .ok (.getfield 28, 3) := by decide +kernel
theorem dX10_promises_28 : decode cX10_promises 28 = .ok (.iload_n 1, 1) := by decide +kernel
theorem dX10_promises_29 : decode cX10_promises 29 = .ok (.putfield 139, 3) := by decide +kernel
theorem dX10_promises_32 : decode cX10_promises 32 = .ok (.iload_n 2, 1) := by decide +kernel
theorem dX10_promises_33 : decode cX10_promises 33 = .ok (.ireturn, 1) := by decide +kernel
theorem dX10_delays_0 : decode cX10_delays 0 = .ok (.iload_n 1, 1) := by decide +kernel
theorem dX10_delays_1 : decode cX10_delays 1 = .ok (.iconst 1, 1) := by decide +kernel
theorem dX10_delays_2 : decode cX10_delays 2 = .ok (.bipush 14, 2) := by decide +kernel
theorem dX10_delays_4 : decode cX10_delays 4 = .ok (.invokestatic 89, 3) := by decide +kernel
theorem dX10_delays_7 : decode cX10_delays 7 = .ok (.ifCond .ne 5, 3) := by decide +kernel
theorem dX10_delays_10 : decode cX10_delays 10 = .ok (.iconst (-1), 1) := by decide +kernel
theorem dX10_delays_11 : decode cX10_delays 11 = .ok (.ireturn, 1) := by decide +kernel
theorem dX10_delays_12 : decode cX10_delays 12 = .ok (.aload_n 0, 1) := by decide +kernel
theorem dX10_delays_13 : decode cX10_delays 13 = .ok (.invokevirtual 129, 3) := by decide +kernel
theorem dX10_delays_16 : decode cX10_delays 16 = .ok (.aload_n 0, 1) := by decide +kernel
theorem dX10_delays_17 : decode cX10_delays 17 = .ok (.getfield 28, 3) := by decide +kernel
theorem dX10_delays_20 : decode cX10_delays 20 = .ok (.getfield 142, 3) := by decide +kernel
theorem dX10_delays_23 : decode cX10_delays 23 = .ok (.istore_n 2, 1) := by decide +kernel
theorem dX10_delays_24 : decode cX10_delays 24 = .ok (.aload_n 0, 1) := by decide +kernel
theorem dX10_delays_25 : decode cX10_delays 25 = .ok (.getfield 28, 3) := by decide +kernel
theorem dX10_delays_28 : decode cX10_delays 28 = .ok (.iload_n 1, 1) := by decide +kernel
theorem dX10_delays_29 : decode cX10_delays 29 = .ok (.putfield 142, 3) := by decide +kernel
theorem dX10_delays_32 : decode cX10_delays 32 = .ok (.iload_n 2, 1) := by decide +kernel
theorem dX10_delays_33 : decode cX10_delays 33 = .ok (.ireturn, 1) := by decide +kernel
theorem dX10_undo_0 : decode cX10_undo 0 = .ok (.aload_n 0, 1) := by decide +kernel
theorem dX10_undo_1 : decode cX10_undo 1 = .ok (.getfield 35, 3) := by decide +kernel
theorem dX10_undo_4 : decode cX10_undo 4 = .ok (.getfield 145, 3) := by decide +kernel
theorem dX10_undo_7 : decode cX10_undo 7 = .ok (.ifCond .ne 6, 3) := by decide +kernel
theorem dX10_undo_10 : decode cX10_undo 10 = .ok (.bipush (-2), 2) := by decide +kernel
theorem dX10_undo_12 : decode cX10_undo 12 = .ok (.ireturn, 1) := by decide +kernel
theorem dX10_undo_13 : decode cX10_undo 13 = .ok (.aload_n 0, 1) := by decide +kernel
theorem dX10_undo_14 : decode cX10_undo 14 = .ok (.getfield 35, 3) := by decide +kernel
theorem dX10_undo_17 : decode cX10_undo 17 = .ok (.aload_n 0, 1) := by decide +kernel
theorem dX10_undo_18 : decode cX10_undo 18 = .ok (.getfield 28, 3) := by decide +kernel
theorem dX10_undo_21 : decode cX10_undo 21 = .ok (.invokevirtual 146, 3) := by decide +kernel
theorem dX10_undo_24 : decode cX10_undo 24 = .ok (.aload_n 0, 1) := by decide +kernel
theorem dX10_undo_25 : decode cX10_undo 25 = .ok (.invokevirtual 118, 3) := by decide +kernel
theorem dX10_undo_28 : decode cX10_undo 28 = .ok (.aload_n 0, 1) := by decide +kernel
theorem dX10_undo_29 : decode cX10_undo 29 = .ok (.getfield 35, 3) := by decide +kernel
theorem dX10_undo_32 : decode cX10_undo 32 = .ok (.getfield 145, 3) := by decide +kernel
theorem dX10_undo_35 : decode cX10_undo 35 = .ok (.ireturn, 1) := by decide +kernel
theorem dX10_reading_0 : decode cX10_reading 0 = .ok (.aload_n 0, 1) := by decide +kernel
theorem dX10_reading_1 : decode cX10_reading 1 = .ok (.getfield 28, 3) := by decide +kernel
theorem dX10_reading_4 : decode cX10_reading 4 = .ok (.iload_n 1, 1) := by decide +kernel
theorem dX10_reading_5 : decode cX10_reading 5 = .ok (.invokevirtual 125, 3) := by decide +kernel
theorem dX10_reading_8 : decode cX10_reading 8 = .ok (.ifCond .ne 5, 3) := by decide +kernel
theorem dX10_reading_11 : decode cX10_reading 11 = .ok (.iconst (-1), 1) := by decide +kernel
theorem dX10_reading_12 : decode cX10_reading 12 = .ok (.ireturn, 1) := by decide +kernel
theorem dX10_reading_13 : decode cX10_reading 13 = .ok (.aload_n 0, 1) := by decide +kernel
theorem dX10_reading_14 : decode cX10_reading 14 = .ok (.getfield 62, 3) := by decide +kernel
theorem dX10_reading_17 : decode cX10_reading 17 = .ok (.invokevirtual 149, 3) := by decide +kernel
theorem dX10_reading_20 : decode cX10_reading 20 = .ok (.iload_n 2, 1) := by decide +kernel
theorem dX10_reading_21 : decode cX10_reading 21 = .ok (.tableswitch 112 0 6 #[43, 52, 61, 70, 79, 91, 100], 43) := by decide +kernel
theorem dX10_reading_64 : decode cX10_reading 64 = .ok (.aload_n 0, 1) := by decide +kernel
theorem dX10_reading_65 : decode cX10_reading 65 = .ok (.getfield 28, 3) := by decide +kernel
theorem dX10_reading_68 : decode cX10_reading 68 = .ok (.iload_n 1, 1) := by decide +kernel
theorem dX10_reading_69 : decode cX10_reading 69 = .ok (.invokevirtual 152, 3) := by decide +kernel
theorem dX10_reading_72 : decode cX10_reading 72 = .ok (.ireturn, 1) := by decide +kernel
theorem dX10_reading_73 : decode cX10_reading 73 = .ok (.aload_n 0, 1) := by decide +kernel
theorem dX10_reading_74 : decode cX10_reading 74 = .ok (.getfield 28, 3) := by decide +kernel
theorem dX10_reading_77 : decode cX10_reading 77 = .ok (.iload_n 1, 1) := by decide +kernel
theorem dX10_reading_78 : decode cX10_reading 78 = .ok (.invokevirtual 156, 3) := by decide +kernel
theorem dX10_reading_81 : decode cX10_reading 81 = .ok (.ireturn, 1) := by decide +kernel
theorem dX10_reading_82 : decode cX10_reading 82 = .ok (.aload_n 0, 1) := by decide +kernel
theorem dX10_reading_83 : decode cX10_reading 83 = .ok (.getfield 53, 3) := by decide +kernel
theorem dX10_reading_86 : decode cX10_reading 86 = .ok (.iload_n 1, 1) := by decide +kernel
theorem dX10_reading_87 : decode cX10_reading 87 = .ok (.invokevirtual 159, 3) := by decide +kernel
theorem dX10_reading_90 : decode cX10_reading 90 = .ok (.ireturn, 1) := by decide +kernel
theorem dX10_reading_91 : decode cX10_reading 91 = .ok (.aload_n 0, 1) := by decide +kernel
theorem dX10_reading_92 : decode cX10_reading 92 = .ok (.getfield 62, 3) := by decide +kernel
theorem dX10_reading_95 : decode cX10_reading 95 = .ok (.iload_n 1, 1) := by decide +kernel
theorem dX10_reading_96 : decode cX10_reading 96 = .ok (.invokevirtual 162, 3) := by decide +kernel
theorem dX10_reading_99 : decode cX10_reading 99 = .ok (.ireturn, 1) := by decide +kernel
theorem dX10_reading_100 : decode cX10_reading 100 = .ok (.aload_n 0, 1) := by decide +kernel
theorem dX10_reading_101 : decode cX10_reading 101 = .ok (.getfield 62, 3) := by decide +kernel
theorem dX10_reading_104 : decode cX10_reading 104 = .ok (.getfield 165, 3) := by decide +kernel
theorem dX10_reading_107 : decode cX10_reading 107 = .ok (.iload_n 1, 1) := by decide +kernel
theorem dX10_reading_108 : decode cX10_reading 108 = .ok (.invokestatic 168, 3) := by decide +kernel
theorem dX10_reading_111 : decode cX10_reading 111 = .ok (.ireturn, 1) := by decide +kernel
theorem dX10_reading_112 : decode cX10_reading 112 = .ok (.aload_n 0, 1) := by decide +kernel
theorem dX10_reading_113 : decode cX10_reading 113 = .ok (.getfield 62, 3) := by decide +kernel
theorem dX10_reading_116 : decode cX10_reading 116 = .ok (.iload_n 1, 1) := by decide +kernel
theorem dX10_reading_117 : decode cX10_reading 117 = .ok (.invokevirtual 171, 3) := by decide +kernel
theorem dX10_reading_120 : decode cX10_reading 120 = .ok (.ireturn, 1) := by decide +kernel
theorem dX10_reading_121 : decode cX10_reading 121 = .ok (.aload_n 0, 1) := by decide +kernel
theorem dX10_reading_122 : decode cX10_reading 122 = .ok (.getfield 62, 3) := by decide +kernel
theorem dX10_reading_125 : decode cX10_reading 125 = .ok (.getfield 174, 3) := by decide +kernel
theorem dX10_reading_128 : decode cX10_reading 128 = .ok (.iload_n 1, 1) := by decide +kernel
theorem dX10_reading_129 : decode cX10_reading 129 = .ok (.invokestatic 168, 3) := by decide +kernel
theorem dX10_reading_132 : decode cX10_reading 132 = .ok (.ireturn, 1) := by decide +kernel
theorem dX10_reading_133 : decode cX10_reading 133 = .ok (.iconst (-1), 1) := by decide +kernel
theorem dX10_reading_134 : decode cX10_reading 134 = .ok (.ireturn, 1) := by decide +kernel
theorem dX10_apart_0 : decode cX10_apart 0 = .ok (.aload_n 0, 1) := by decide +kernel
theorem dX10_apart_1 : decode cX10_apart 1 = .ok (.getfield 62, 3) := by decide +kernel
theorem dX10_apart_4 : decode cX10_apart 4 = .ok (.invokevirtual 149, 3) := by decide +kernel
theorem dX10_apart_7 : decode cX10_apart 7 = .ok (.aload_n 0, 1) := by decide +kernel
theorem dX10_apart_8 : decode cX10_apart 8 = .ok (.iload_n 1, 1) := by decide +kernel
theorem dX10_apart_9 : decode cX10_apart 9 = .ok (.iload_n 2, 1) := by decide +kernel
theorem dX10_apart_10 : decode cX10_apart 10 = .ok (.invokevirtual 177, 3) := by decide +kernel
theorem dX10_apart_13 : decode cX10_apart 13 = .ok (.ifCond .eq 12, 3) := by decide +kernel
theorem dX10_apart_16 : decode cX10_apart 16 = .ok (.iload_n 3, 1) := by decide +kernel
theorem dX10_apart_17 : decode cX10_apart 17 = .ok (.iconst 0, 1) := by decide +kernel
theorem dX10_apart_18 : decode cX10_apart 18 = .ok (.iconst 2, 1) := by decide +kernel
theorem dX10_apart_19 : decode cX10_apart 19 = .ok (.invokestatic 89, 3) := by decide +kernel
theorem dX10_apart_22 : decode cX10_apart 22 = .ok (.ifCond .ne 5, 3) := by decide +kernel
theorem dX10_apart_25 : decode cX10_apart 25 = .ok (.iconst (-1), 1) := by decide +kernel
theorem dX10_apart_26 : decode cX10_apart 26 = .ok (.ireturn, 1) := by decide +kernel
theorem dX10_apart_27 : decode cX10_apart 27 = .ok (.aload_n 0, 1) := by decide +kernel
theorem dX10_apart_28 : decode cX10_apart 28 = .ok (.getfield 53, 3) := by decide +kernel
theorem dX10_apart_31 : decode cX10_apart 31 = .ok (.iload_n 1, 1) := by decide +kernel
theorem dX10_apart_32 : decode cX10_apart 32 = .ok (.iload_n 2, 1) := by decide +kernel
theorem dX10_apart_33 : decode cX10_apart 33 = .ok (.invokevirtual 181, 3) := by decide +kernel
theorem dX10_apart_36 : decode cX10_apart 36 = .ok (.istore 4, 2) := by decide +kernel
theorem dX10_apart_38 : decode cX10_apart 38 = .ok (.iload 4, 2) := by decide +kernel
theorem dX10_apart_40 : decode cX10_apart 40 = .ok (.bipush (-9), 2) := by decide +kernel
theorem dX10_apart_42 : decode cX10_apart 42 = .ok (.if_icmp .eq 8, 3) := by decide +kernel
theorem dX10_apart_45 : decode cX10_apart 45 = .ok (.iload_n 3, 1) := by decide +kernel
theorem dX10_apart_46 : decode cX10_apart 46 = .ok (.iconst 2, 1) := by decide +kernel
theorem dX10_apart_47 : decode cX10_apart 47 = .ok (.if_icmp .ne 6, 3) := by decide +kernel
theorem dX10_apart_50 : decode cX10_apart 50 = .ok (.iload 4, 2) := by decide +kernel
theorem dX10_apart_52 : decode cX10_apart 52 = .ok (.ireturn, 1) := by decide +kernel
theorem dX10_apart_53 : decode cX10_apart 53 = .ok (.aload_n 0, 1) := by decide +kernel
theorem dX10_apart_54 : decode cX10_apart 54 = .ok (.getfield 85, 3) := by decide +kernel
theorem dX10_apart_57 : decode cX10_apart 57 = .ok (.aload_n 0, 1) := by decide +kernel
theorem dX10_apart_58 : decode cX10_apart 58 = .ok (.getfield 53, 3) := by decide +kernel
theorem dX10_apart_61 : decode cX10_apart 61 = .ok (.iload_n 1, 1) := by decide +kernel
theorem dX10_apart_62 : decode cX10_apart 62 = .ok (.iload 4, 2) := by decide +kernel
theorem dX10_apart_64 : decode cX10_apart 64 = .ok (.iload_n 2, 1) := by decide +kernel
theorem dX10_apart_65 : decode cX10_apart 65 = .ok (.invokevirtual 184, 3) := by decide +kernel
theorem dX10_apart_68 : decode cX10_apart 68 = .ok (.aload_n 0, 1) := by decide +kernel
theorem dX10_apart_69 : decode cX10_apart 69 = .ok (.getfield 53, 3) := by decide +kernel
theorem dX10_apart_72 : decode cX10_apart 72 = .ok (.iload_n 1, 1) := by decide +kernel
theorem dX10_apart_73 : decode cX10_apart 73 = .ok (.iload_n 2, 1) := by decide +kernel
theorem dX10_apart_74 : decode cX10_apart 74 = .ok (.invokevirtual 188, 3) := by decide +kernel
theorem dX10_apart_77 : decode cX10_apart 77 = .ok (.invokevirtual 191, 3) := by decide +kernel
theorem dX10_apart_80 : decode cX10_apart 80 = .ok (.aload_n 0, 1) := by decide +kernel
theorem dX10_apart_81 : decode cX10_apart 81 = .ok (.getfield 85, 3) := by decide +kernel
theorem dX10_apart_84 : decode cX10_apart 84 = .ok (.iload_n 3, 1) := by decide +kernel
theorem dX10_apart_85 : decode cX10_apart 85 = .ok (.invokevirtual 195, 3) := by decide +kernel
theorem dX10_apart_88 : decode cX10_apart 88 = .ok (.ireturn, 1) := by decide +kernel
theorem dX10_why_0 : decode cX10_why 0 = .ok (.aload_n 0, 1) := by decide +kernel
theorem dX10_why_1 : decode cX10_why 1 = .ok (.getfield 62, 3) := by decide +kernel
theorem dX10_why_4 : decode cX10_why 4 = .ok (.invokevirtual 149, 3) := by decide +kernel
theorem dX10_why_7 : decode cX10_why 7 = .ok (.aload_n 0, 1) := by decide +kernel
theorem dX10_why_8 : decode cX10_why 8 = .ok (.iload_n 1, 1) := by decide +kernel
theorem dX10_why_9 : decode cX10_why 9 = .ok (.iload_n 2, 1) := by decide +kernel
theorem dX10_why_10 : decode cX10_why 10 = .ok (.invokevirtual 177, 3) := by decide +kernel
theorem dX10_why_13 : decode cX10_why 13 = .ok (.ifCond .ne 5, 3) := by decide +kernel
theorem dX10_why_16 : decode cX10_why 16 = .ok (.iconst (-1), 1) := by decide +kernel
theorem dX10_why_17 : decode cX10_why 17 = .ok (.ireturn, 1) := by decide +kernel
theorem dX10_why_18 : decode cX10_why 18 = .ok (.aload_n 0, 1) := by decide +kernel
theorem dX10_why_19 : decode cX10_why 19 = .ok (.getfield 53, 3) := by decide +kernel
theorem dX10_why_22 : decode cX10_why 22 = .ok (.iload_n 1, 1) := by decide +kernel
theorem dX10_why_23 : decode cX10_why 23 = .ok (.iload_n 2, 1) := by decide +kernel
theorem dX10_why_24 : decode cX10_why 24 = .ok (.aload_n 0, 1) := by decide +kernel
theorem dX10_why_25 : decode cX10_why 25 = .ok (.getfield 28, 3) := by decide +kernel
theorem dX10_why_28 : decode cX10_why 28 = .ok (.getfield 139, 3) := by decide +kernel
theorem dX10_why_31 : decode cX10_why 31 = .ok (.invokevirtual 198, 3) := by decide +kernel
theorem dX10_why_34 : decode cX10_why 34 = .ok (.ireturn, 1) := by decide +kernel
theorem dX10_strip_0 : decode cX10_strip 0 = .ok (.aload_n 0, 1) := by decide +kernel
theorem dX10_strip_1 : decode cX10_strip 1 = .ok (.getfield 62, 3) := by decide +kernel
theorem dX10_strip_4 : decode cX10_strip 4 = .ok (.invokevirtual 149, 3) := by decide +kernel
theorem dX10_strip_7 : decode cX10_strip 7 = .ok (.iload_n 1, 1) := by decide +kernel
theorem dX10_strip_8 : decode cX10_strip 8 = .ok (.iload_n 2, 1) := by decide +kernel
theorem dX10_strip_9 : decode cX10_strip 9 = .ok (.if_icmp .ne 18, 3) := by decide +kernel
theorem dX10_strip_12 : decode cX10_strip 12 = .ok (.aload_n 0, 1) := by decide +kernel
theorem dX10_strip_13 : decode cX10_strip 13 = .ok (.getfield 28, 3) := by decide +kernel
theorem dX10_strip_16 : decode cX10_strip 16 = .ok (.iload_n 1, 1) := by decide +kernel
theorem dX10_strip_17 : decode cX10_strip 17 = .ok (.invokevirtual 201, 3) := by decide +kernel
theorem dX10_strip_20 : decode cX10_strip 20 = .ok (.ifCond .eq 7, 3) := by decide +kernel
theorem dX10_strip_23 : decode cX10_strip 23 = .ok (.iconst 1, 1) := by decide +kernel
theorem dX10_strip_24 : decode cX10_strip 24 = .ok (.goto 4, 3) := by decide +kernel
theorem dX10_strip_27 : decode cX10_strip 27 = .ok (.iconst 0, 1) := by decide +kernel
theorem dX10_strip_28 : decode cX10_strip 28 = .ok (.istore 4, 2) := by decide +kernel
theorem dX10_strip_30 : decode cX10_strip 30 = .ok (.iload 4, 2) := by decide +kernel
theorem dX10_strip_32 : decode cX10_strip 32 = .ok (.ifCond .ne 12, 3) := by decide +kernel
theorem dX10_strip_35 : decode cX10_strip 35 = .ok (.aload_n 0, 1) := by decide +kernel
theorem dX10_strip_36 : decode cX10_strip 36 = .ok (.iload_n 1, 1) := by decide +kernel
theorem dX10_strip_37 : decode cX10_strip 37 = .ok (.iload_n 2, 1) := by decide +kernel
theorem dX10_strip_38 : decode cX10_strip 38 = .ok (.invokevirtual 177, 3) := by decide +kernel
theorem dX10_strip_41 : decode cX10_strip 41 = .ok (.ifCond .eq 12, 3) := by decide +kernel
theorem dX10_strip_44 : decode cX10_strip 44 = .ok (.iload_n 3, 1) := by decide +kernel
theorem dX10_strip_45 : decode cX10_strip 45 = .ok (.iconst 0, 1) := by decide +kernel
theorem dX10_strip_46 : decode cX10_strip 46 = .ok (.iconst 1, 1) := by decide +kernel
theorem dX10_strip_47 : decode cX10_strip 47 = .ok (.invokestatic 89, 3) := by decide +kernel
theorem dX10_strip_50 : decode cX10_strip 50 = .ok (.ifCond .ne 5, 3) := by decide +kernel
theorem dX10_strip_53 : decode cX10_strip 53 = .ok (.iconst (-1), 1) := by decide +kernel
theorem dX10_strip_54 : decode cX10_strip 54 = .ok (.ireturn, 1) := by decide +kernel
theorem dX10_strip_55 : decode cX10_strip 55 = .ok (.aload_n 0, 1) := by decide +kernel
theorem dX10_strip_56 : decode cX10_strip 56 = .ok (.getfield 53, 3) := by decide +kernel
theorem dX10_strip_59 : decode cX10_strip 59 = .ok (.iload_n 1, 1) := by decide +kernel
theorem dX10_strip_60 : decode cX10_strip 60 = .ok (.iload_n 2, 1) := by decide +kernel
theorem dX10_strip_61 : decode cX10_strip 61 = .ok (.aload_n 0, 1) := by decide +kernel
theorem dX10_strip_62 : decode cX10_strip 62 = .ok (.getfield 85, 3) := by decide +kernel
theorem dX10_strip_65 : decode cX10_strip 65 = .ok (.invokevirtual 204, 3) := by decide +kernel
theorem dX10_strip_68 : decode cX10_strip 68 = .ok (.aload_n 0, 1) := by decide +kernel
theorem dX10_strip_69 : decode cX10_strip 69 = .ok (.getfield 85, 3) := by decide +kernel
theorem dX10_strip_72 : decode cX10_strip 72 = .ok (.iload_n 3, 1) := by decide +kernel
theorem dX10_strip_73 : decode cX10_strip 73 = .ok (.invokevirtual 195, 3) := by decide +kernel
theorem dX10_strip_76 : decode cX10_strip 76 = .ok (.ireturn, 1) := by decide +kernel
theorem dX10_told_0 : decode cX10_told 0 = .ok (.iload_n 1, 1) := by decide +kernel
theorem dX10_told_1 : decode cX10_told 1 = .ok (.iconst 0, 1) := by decide +kernel
theorem dX10_told_2 : decode cX10_told 2 = .ok (.sipush 999, 3) := by decide +kernel
theorem dX10_told_5 : decode cX10_told 5 = .ok (.invokestatic 89, 3) := by decide +kernel
theorem dX10_told_8 : decode cX10_told 8 = .ok (.ifCond .eq 21, 3) := by decide +kernel
theorem dX10_told_11 : decode cX10_told 11 = .ok (.iload_n 2, 1) := by decide +kernel
theorem dX10_told_12 : decode cX10_told 12 = .ok (.iconst 0, 1) := by decide +kernel
theorem dX10_told_13 : decode cX10_told 13 = .ok (.iconst 1, 1) := by decide +kernel
theorem dX10_told_14 : decode cX10_told 14 = .ok (.invokestatic 89, 3) := by decide +kernel
theorem dX10_told_17 : decode cX10_told 17 = .ok (.ifCond .eq 12, 3) := by decide +kernel
theorem dX10_told_20 : decode cX10_told 20 = .ok (.iload_n 3, 1) := by decide +kernel
theorem dX10_told_21 : decode cX10_told 21 = .ok (.iconst 0, 1) := by decide +kernel
theorem dX10_told_22 : decode cX10_told 22 = .ok (.iconst 1, 1) := by decide +kernel
theorem dX10_told_23 : decode cX10_told 23 = .ok (.invokestatic 89, 3) := by decide +kernel
theorem dX10_told_26 : decode cX10_told 26 = .ok (.ifCond .ne 5, 3) := by decide +kernel
theorem dX10_told_29 : decode cX10_told 29 = .ok (.iconst (-1), 1) := by decide +kernel
theorem dX10_told_30 : decode cX10_told 30 = .ok (.ireturn, 1) := by decide +kernel
theorem dX10_told_31 : decode cX10_told 31 = .ok (.aload_n 0, 1) := by decide +kernel
theorem dX10_told_32 : decode cX10_told 32 = .ok (.getfield 62, 3) := by decide +kernel
theorem dX10_told_35 : decode cX10_told 35 = .ok (.invokevirtual 149, 3) := by decide +kernel
theorem dX10_told_38 : decode cX10_told 38 = .ok (.iload_n 2, 1) := by decide +kernel
theorem dX10_told_39 : decode cX10_told 39 = .ok (.ifCond .ne 13, 3) := by decide +kernel
theorem dX10_told_42 : decode cX10_told 42 = .ok (.aload_n 0, 1) := by decide +kernel
theorem dX10_told_43 : decode cX10_told 43 = .ok (.getfield 62, 3) := by decide +kernel
theorem dX10_told_46 : decode cX10_told 46 = .ok (.getfield 165, 3) := by decide +kernel
theorem dX10_told_49 : decode cX10_told 49 = .ok (.goto 10, 3) := by decide +kernel
theorem dX10_told_52 : decode cX10_told 52 = .ok (.aload_n 0, 1) := by decide +kernel
theorem dX10_told_53 : decode cX10_told 53 = .ok (.getfield 62, 3) := by decide +kernel
theorem dX10_told_56 : decode cX10_told 56 = .ok (.getfield 174, 3) := by decide +kernel
theorem dX10_told_59 : decode cX10_told 59 = .ok (.istore 4, 2) := by decide +kernel
theorem dX10_told_61 : decode cX10_told 61 = .ok (.aload_n 0, 1) := by decide +kernel
theorem dX10_told_62 : decode cX10_told 62 = .ok (.getfield 28, 3) := by decide +kernel
theorem dX10_told_65 : decode cX10_told 65 = .ok (.iload_n 1, 1) := by decide +kernel
theorem dX10_told_66 : decode cX10_told 66 = .ok (.iload 4, 2) := by decide +kernel
theorem dX10_told_68 : decode cX10_told 68 = .ok (.invokevirtual 208, 3) := by decide +kernel
theorem dX10_told_71 : decode cX10_told 71 = .ok (.istore 5, 2) := by decide +kernel
theorem dX10_told_73 : decode cX10_told 73 = .ok (.aload_n 0, 1) := by decide +kernel
theorem dX10_told_74 : decode cX10_told 74 = .ok (.getfield 28, 3) := by decide +kernel
theorem dX10_told_77 : decode cX10_told 77 = .ok (.iload_n 1, 1) := by decide +kernel
theorem dX10_told_78 : decode cX10_told 78 = .ok (.iload 4, 2) := by decide +kernel
theorem dX10_told_80 : decode cX10_told 80 = .ok (.invokevirtual 211, 3) := by decide +kernel
theorem dX10_told_83 : decode cX10_told 83 = .ok (.istore 6, 2) := by decide +kernel
theorem dX10_told_85 : decode cX10_told 85 = .ok (.aload_n 0, 1) := by decide +kernel
theorem dX10_told_86 : decode cX10_told 86 = .ok (.getfield 28, 3) := by decide +kernel
theorem dX10_told_89 : decode cX10_told 89 = .ok (.iload 5, 2) := by decide +kernel
theorem dX10_told_91 : decode cX10_told 91 = .ok (.invokevirtual 201, 3) := by decide +kernel
theorem dX10_told_94 : decode cX10_told 94 = .ok (.ifCond .eq 36, 3) := by decide +kernel
theorem dX10_told_97 : decode cX10_told 97 = .ok (.aload_n 0, 1) := by decide +kernel
theorem dX10_told_98 : decode cX10_told 98 = .ok (.getfield 28, 3) := by decide +kernel
theorem dX10_told_101 : decode cX10_told 101 = .ok (.iload 6, 2) := by decide +kernel
theorem dX10_told_103 : decode cX10_told 103 = .ok (.invokevirtual 201, 3) := by decide +kernel
theorem dX10_told_106 : decode cX10_told 106 = .ok (.ifCond .eq 24, 3) := by decide +kernel
theorem dX10_told_109 : decode cX10_told 109 = .ok (.aload_n 0, 1) := by decide +kernel
theorem dX10_told_110 : decode cX10_told 110 = .ok (.getfield 53, 3) := by decide +kernel
theorem dX10_told_113 : decode cX10_told 113 = .ok (.iload 5, 2) := by decide +kernel
theorem dX10_told_115 : decode cX10_told 115 = .ok (.invokevirtual 159, 3) := by decide +kernel
theorem dX10_told_118 : decode cX10_told 118 = .ok (.aload_n 0, 1) := by decide +kernel
theorem dX10_told_119 : decode cX10_told 119 = .ok (.getfield 53, 3) := by decide +kernel
theorem dX10_told_122 : decode cX10_told 122 = .ok (.iload 6, 2) := by decide +kernel
theorem dX10_told_124 : decode cX10_told 124 = .ok (.invokevirtual 159, 3) := by decide +kernel
theorem dX10_told_127 : decode cX10_told 127 = .ok (.if_icmp .eq 6, 3) := by decide +kernel
theorem dX10_told_130 : decode cX10_told 130 = .ok (.bipush (-9), 2) := by decide +kernel
theorem dX10_told_132 : decode cX10_told 132 = .ok (.ireturn, 1) := by decide +kernel
theorem dX10_told_133 : decode cX10_told 133 = .ok (.aload_n 0, 1) := by decide +kernel
theorem dX10_told_134 : decode cX10_told 134 = .ok (.getfield 53, 3) := by decide +kernel
theorem dX10_told_137 : decode cX10_told 137 = .ok (.iload 5, 2) := by decide +kernel
theorem dX10_told_139 : decode cX10_told 139 = .ok (.iload 6, 2) := by decide +kernel
theorem dX10_told_141 : decode cX10_told 141 = .ok (.iload_n 1, 1) := by decide +kernel
theorem dX10_told_142 : decode cX10_told 142 = .ok (.aload_n 0, 1) := by decide +kernel
theorem dX10_told_143 : decode cX10_told 143 = .ok (.getfield 85, 3) := by decide +kernel
theorem dX10_told_146 : decode cX10_told 146 = .ok (.invokevirtual 214, 3) := by decide +kernel
theorem dX10_told_149 : decode cX10_told 149 = .ok (.aload_n 0, 1) := by decide +kernel
theorem dX10_told_150 : decode cX10_told 150 = .ok (.getfield 85, 3) := by decide +kernel
theorem dX10_told_153 : decode cX10_told 153 = .ok (.iload_n 3, 1) := by decide +kernel
theorem dX10_told_154 : decode cX10_told 154 = .ok (.invokevirtual 195, 3) := by decide +kernel
theorem dX10_told_157 : decode cX10_told 157 = .ok (.ireturn, 1) := by decide +kernel
theorem dX10_sees_0 : decode cX10_sees 0 = .ok (.aload_n 0, 1) := by decide +kernel
theorem dX10_sees_1 : decode cX10_sees 1 = .ok (.getfield 28, 3) := by decide +kernel
theorem dX10_sees_4 : decode cX10_sees 4 = .ok (.iload_n 1, 1) := by decide +kernel
theorem dX10_sees_5 : decode cX10_sees 5 = .ok (.invokevirtual 201, 3) := by decide +kernel
theorem dX10_sees_8 : decode cX10_sees 8 = .ok (.ifCond .eq 12, 3) := by decide +kernel
theorem dX10_sees_11 : decode cX10_sees 11 = .ok (.iload_n 2, 1) := by decide +kernel
theorem dX10_sees_12 : decode cX10_sees 12 = .ok (.iconst 0, 1) := by decide +kernel
theorem dX10_sees_13 : decode cX10_sees 13 = .ok (.iconst 1, 1) := by decide +kernel
theorem dX10_sees_14 : decode cX10_sees 14 = .ok (.invokestatic 89, 3) := by decide +kernel
theorem dX10_sees_17 : decode cX10_sees 17 = .ok (.ifCond .ne 5, 3) := by decide +kernel
theorem dX10_sees_20 : decode cX10_sees 20 = .ok (.iconst (-1), 1) := by decide +kernel
theorem dX10_sees_21 : decode cX10_sees 21 = .ok (.ireturn, 1) := by decide +kernel
theorem dX10_sees_22 : decode cX10_sees 22 = .ok (.aload_n 0, 1) := by decide +kernel
theorem dX10_sees_23 : decode cX10_sees 23 = .ok (.getfield 69, 3) := by decide +kernel
theorem dX10_sees_26 : decode cX10_sees 26 = .ok (.invokevirtual 218, 3) := by decide +kernel
theorem dX10_sees_29 : decode cX10_sees 29 = .ok (.ifCond .eq 6, 3) := by decide +kernel
theorem dX10_sees_32 : decode cX10_sees 32 = .ok (.bipush (-3), 2) := by decide +kernel
theorem dX10_sees_34 : decode cX10_sees 34 = .ok (.ireturn, 1) := by decide +kernel
theorem dX10_sees_35 : decode cX10_sees 35 = .ok (.aload_n 0, 1) := by decide +kernel
theorem dX10_sees_36 : decode cX10_sees 36 = .ok (.getfield 69, 3) := by decide +kernel
theorem dX10_sees_39 : decode cX10_sees 39 = .ok (.iload_n 1, 1) := by decide +kernel
theorem dX10_sees_40 : decode cX10_sees 40 = .ok (.iload_n 2, 1) := by decide +kernel
theorem dX10_sees_41 : decode cX10_sees 41 = .ok (.invokevirtual 219, 3) := by decide +kernel
theorem dX10_sees_44 : decode cX10_sees 44 = .ok (.ireturn, 1) := by decide +kernel
theorem dX10_forget_0 : decode cX10_forget 0 = .ok (.aload_n 0, 1) := by decide +kernel
theorem dX10_forget_1 : decode cX10_forget 1 = .ok (.getfield 69, 3) := by decide +kernel
theorem dX10_forget_4 : decode cX10_forget 4 = .ok (.invokevirtual 117, 3) := by decide +kernel
theorem dX10_forget_7 : decode cX10_forget 7 = .ok (.ireturn, 1) := by decide +kernel
theorem dX10_unseen_0 : decode cX10_unseen 0 = .ok (.iload_n 1, 1) := by decide +kernel
theorem dX10_unseen_1 : decode cX10_unseen 1 = .ok (.iconst 0, 1) := by decide +kernel
theorem dX10_unseen_2 : decode cX10_unseen 2 = .ok (.iconst 2, 1) := by decide +kernel
theorem dX10_unseen_3 : decode cX10_unseen 3 = .ok (.invokestatic 89, 3) := by decide +kernel
theorem dX10_unseen_6 : decode cX10_unseen 6 = .ok (.ifCond .ne 5, 3) := by decide +kernel
theorem dX10_unseen_9 : decode cX10_unseen 9 = .ok (.iconst (-1), 1) := by decide +kernel
theorem dX10_unseen_10 : decode cX10_unseen 10 = .ok (.ireturn, 1) := by decide +kernel
theorem dX10_unseen_11 : decode cX10_unseen 11 = .ok (.aload_n 0, 1) := by decide +kernel
theorem dX10_unseen_12 : decode cX10_unseen 12 = .ok (.getfield 62, 3) := by decide +kernel
theorem dX10_unseen_15 : decode cX10_unseen 15 = .ok (.invokevirtual 149, 3) := by decide +kernel
theorem dX10_unseen_18 : decode cX10_unseen 18 = .ok (.aload_n 0, 1) := by decide +kernel
theorem dX10_unseen_19 : decode cX10_unseen 19 = .ok (.getfield 78, 3) := by decide +kernel
theorem dX10_unseen_22 : decode cX10_unseen 22 = .ok (.invokevirtual 221, 3) := by decide +kernel
theorem dX10_unseen_25 : decode cX10_unseen 25 = .ok (.iload_n 1, 1) := by decide +kernel
theorem dX10_unseen_26 : decode cX10_unseen 26 = .ok (.lookupswitch 42 #[(0, 26), (1, 34)], 26) := by decide +kernel
theorem dX10_unseen_52 : decode cX10_unseen 52 = .ok (.aload_n 0, 1) := by decide +kernel
theorem dX10_unseen_53 : decode cX10_unseen 53 = .ok (.getfield 78, 3) := by decide +kernel
theorem dX10_unseen_56 : decode cX10_unseen 56 = .ok (.getfield 224, 3) := by decide +kernel
theorem dX10_unseen_59 : decode cX10_unseen 59 = .ok (.ireturn, 1) := by decide +kernel
theorem dX10_unseen_60 : decode cX10_unseen 60 = .ok (.aload_n 0, 1) := by decide +kernel
theorem dX10_unseen_61 : decode cX10_unseen 61 = .ok (.getfield 78, 3) := by decide +kernel
theorem dX10_unseen_64 : decode cX10_unseen 64 = .ok (.getfield 227, 3) := by decide +kernel
theorem dX10_unseen_67 : decode cX10_unseen 67 = .ok (.ireturn, 1) := by decide +kernel
theorem dX10_unseen_68 : decode cX10_unseen 68 = .ok (.aload_n 0, 1) := by decide +kernel
theorem dX10_unseen_69 : decode cX10_unseen 69 = .ok (.getfield 78, 3) := by decide +kernel
theorem dX10_unseen_72 : decode cX10_unseen 72 = .ok (.getfield 230, 3) := by decide +kernel
theorem dX10_unseen_75 : decode cX10_unseen 75 = .ok (.ireturn, 1) := by decide +kernel
theorem dX10_ask_0 : decode cX10_ask 0 = .ok (.aload_n 0, 1) := by decide +kernel
theorem dX10_ask_1 : decode cX10_ask 1 = .ok (.getfield 62, 3) := by decide +kernel
theorem dX10_ask_4 : decode cX10_ask 4 = .ok (.invokevirtual 149, 3) := by decide +kernel
theorem dX10_ask_7 : decode cX10_ask 7 = .ok (.aload_n 0, 1) := by decide +kernel
theorem dX10_ask_8 : decode cX10_ask 8 = .ok (.getfield 78, 3) := by decide +kernel
theorem dX10_ask_11 : decode cX10_ask 11 = .ok (.invokevirtual 221, 3) := by decide +kernel
theorem dX10_ask_14 : decode cX10_ask 14 = .ok (.aload_n 0, 1) := by decide +kernel
theorem dX10_ask_15 : decode cX10_ask 15 = .ok (.getfield 78, 3) := by decide +kernel
theorem dX10_ask_18 : decode cX10_ask 18 = .ok (.invokevirtual 233, 3) := by decide +kernel
theorem dX10_ask_21 : decode cX10_ask 21 = .ok (.ireturn, 1) := by decide +kernel
theorem dX10_keep_0 : decode cX10_keep 0 = .ok (.iload_n 1, 1) := by decide +kernel
theorem dX10_keep_1 : decode cX10_keep 1 = .ok (.iconst 0, 1) := by decide +kernel
theorem dX10_keep_2 : decode cX10_keep 2 = .ok (.iconst 1, 1) := by decide +kernel
theorem dX10_keep_3 : decode cX10_keep 3 = .ok (.invokestatic 89, 3) := by decide +kernel
theorem dX10_keep_6 : decode cX10_keep 6 = .ok (.ifCond .ne 5, 3) := by decide +kernel
theorem dX10_keep_9 : decode cX10_keep 9 = .ok (.iconst (-1), 1) := by decide +kernel
theorem dX10_keep_10 : decode cX10_keep 10 = .ok (.ireturn, 1) := by decide +kernel
theorem dX10_keep_11 : decode cX10_keep 11 = .ok (.aload_n 0, 1) := by decide +kernel
theorem dX10_keep_12 : decode cX10_keep 12 = .ok (.getfield 44, 3) := by decide +kernel
theorem dX10_keep_15 : decode cX10_keep 15 = .ok (.iload_n 1, 1) := by decide +kernel
theorem dX10_keep_16 : decode cX10_keep 16 = .ok (.aload_n 0, 1) := by decide +kernel
theorem dX10_keep_17 : decode cX10_keep 17 = .ok (.getfield 28, 3) := by decide +kernel
theorem dX10_keep_20 : decode cX10_keep 20 = .ok (.invokevirtual 236, 3) := by decide +kernel
theorem dX10_keep_23 : decode cX10_keep 23 = .ok (.aload_n 0, 1) := by decide +kernel
theorem dX10_keep_24 : decode cX10_keep 24 = .ok (.getfield 28, 3) := by decide +kernel
theorem dX10_keep_27 : decode cX10_keep 27 = .ok (.getfield 135, 3) := by decide +kernel
theorem dX10_keep_30 : decode cX10_keep 30 = .ok (.ireturn, 1) := by decide +kernel
theorem dX10_back_0 : decode cX10_back 0 = .ok (.iload_n 1, 1) := by decide +kernel
theorem dX10_back_1 : decode cX10_back 1 = .ok (.iconst 0, 1) := by decide +kernel
theorem dX10_back_2 : decode cX10_back 2 = .ok (.iconst 1, 1) := by decide +kernel
theorem dX10_back_3 : decode cX10_back 3 = .ok (.invokestatic 89, 3) := by decide +kernel
theorem dX10_back_6 : decode cX10_back 6 = .ok (.ifCond .ne 5, 3) := by decide +kernel
theorem dX10_back_9 : decode cX10_back 9 = .ok (.iconst (-1), 1) := by decide +kernel
theorem dX10_back_10 : decode cX10_back 10 = .ok (.ireturn, 1) := by decide +kernel
theorem dX10_back_11 : decode cX10_back 11 = .ok (.aload_n 0, 1) := by decide +kernel
theorem dX10_back_12 : decode cX10_back 12 = .ok (.getfield 44, 3) := by decide +kernel
theorem dX10_back_15 : decode cX10_back 15 = .ok (.iload_n 1, 1) := by decide +kernel
theorem dX10_back_16 : decode cX10_back 16 = .ok (.invokevirtual 239, 3) := by decide +kernel
theorem dX10_back_19 : decode cX10_back 19 = .ok (.ifCond .ne 6, 3) := by decide +kernel
theorem dX10_back_22 : decode cX10_back 22 = .ok (.bipush (-2), 2) := by decide +kernel
theorem dX10_back_24 : decode cX10_back 24 = .ok (.ireturn, 1) := by decide +kernel
theorem dX10_back_25 : decode cX10_back 25 = .ok (.aload_n 0, 1) := by decide +kernel
theorem dX10_back_26 : decode cX10_back 26 = .ok (.getfield 44, 3) := by decide +kernel
theorem dX10_back_29 : decode cX10_back 29 = .ok (.iload_n 1, 1) := by decide +kernel
theorem dX10_back_30 : decode cX10_back 30 = .ok (.aload_n 0, 1) := by decide +kernel
theorem dX10_back_31 : decode cX10_back 31 = .ok (.getfield 28, 3) := by decide +kernel
theorem dX10_back_34 : decode cX10_back 34 = .ok (.invokevirtual 242, 3) := by decide +kernel
theorem dX10_back_37 : decode cX10_back 37 = .ok (.aload_n 0, 1) := by decide +kernel
theorem dX10_back_38 : decode cX10_back 38 = .ok (.getfield 35, 3) := by decide +kernel
theorem dX10_back_41 : decode cX10_back 41 = .ok (.invokevirtual 114, 3) := by decide +kernel
theorem dX10_back_44 : decode cX10_back 44 = .ok (.aload_n 0, 1) := by decide +kernel
theorem dX10_back_45 : decode cX10_back 45 = .ok (.invokevirtual 118, 3) := by decide +kernel
theorem dX10_back_48 : decode cX10_back 48 = .ok (.aload_n 0, 1) := by decide +kernel
theorem dX10_back_49 : decode cX10_back 49 = .ok (.getfield 28, 3) := by decide +kernel
theorem dX10_back_52 : decode cX10_back 52 = .ok (.getfield 135, 3) := by decide +kernel
theorem dX10_back_55 : decode cX10_back 55 = .ok (.ireturn, 1) := by decide +kernel
theorem dX10_count_0 : decode cX10_count 0 = .ok (.aload_n 0, 1) := by decide +kernel
theorem dX10_count_1 : decode cX10_count 1 = .ok (.getfield 62, 3) := by decide +kernel
theorem dX10_count_4 : decode cX10_count 4 = .ok (.invokevirtual 149, 3) := by decide +kernel
theorem dX10_count_7 : decode cX10_count 7 = .ok (.iload_n 1, 1) := by decide +kernel
theorem dX10_count_8 : decode cX10_count 8 = .ok (.tableswitch 154 0 10 #[60, 68, 76, 84, 92, 103, 111, 122, 130, 138, 146], 60) := by decide +kernel
theorem dX10_count_68 : decode cX10_count 68 = .ok (.aload_n 0, 1) := by decide +kernel
theorem dX10_count_69 : decode cX10_count 69 = .ok (.getfield 28, 3) := by decide +kernel
theorem dX10_count_72 : decode cX10_count 72 = .ok (.getfield 135, 3) := by decide +kernel
theorem dX10_count_75 : decode cX10_count 75 = .ok (.ireturn, 1) := by decide +kernel
theorem dX10_count_76 : decode cX10_count 76 = .ok (.aload_n 0, 1) := by decide +kernel
theorem dX10_count_77 : decode cX10_count 77 = .ok (.getfield 28, 3) := by decide +kernel
theorem dX10_count_80 : decode cX10_count 80 = .ok (.getfield 139, 3) := by decide +kernel
theorem dX10_count_83 : decode cX10_count 83 = .ok (.ireturn, 1) := by decide +kernel
theorem dX10_count_84 : decode cX10_count 84 = .ok (.aload_n 0, 1) := by decide +kernel
theorem dX10_count_85 : decode cX10_count 85 = .ok (.getfield 28, 3) := by decide +kernel
theorem dX10_count_88 : decode cX10_count 88 = .ok (.getfield 142, 3) := by decide +kernel
theorem dX10_count_91 : decode cX10_count 91 = .ok (.ireturn, 1) := by decide +kernel
theorem dX10_count_92 : decode cX10_count 92 = .ok (.aload_n 0, 1) := by decide +kernel
theorem dX10_count_93 : decode cX10_count 93 = .ok (.getfield 53, 3) := by decide +kernel
theorem dX10_count_96 : decode cX10_count 96 = .ok (.getfield 245, 3) := by decide +kernel
theorem dX10_count_99 : decode cX10_count 99 = .ok (.ireturn, 1) := by decide +kernel
theorem dX10_count_100 : decode cX10_count 100 = .ok (.aload_n 0, 1) := by decide +kernel
theorem dX10_count_101 : decode cX10_count 101 = .ok (.getfield 62, 3) := by decide +kernel
theorem dX10_count_104 : decode cX10_count 104 = .ok (.getfield 165, 3) := by decide +kernel
theorem dX10_count_107 : decode cX10_count 107 = .ok (.invokestatic 248, 3) := by decide +kernel
theorem dX10_count_110 : decode cX10_count 110 = .ok (.ireturn, 1) := by decide +kernel
theorem dX10_count_111 : decode cX10_count 111 = .ok (.aload_n 0, 1) := by decide +kernel
theorem dX10_count_112 : decode cX10_count 112 = .ok (.getfield 62, 3) := by decide +kernel
theorem dX10_count_115 : decode cX10_count 115 = .ok (.getfield 253, 3) := by decide +kernel
theorem dX10_count_118 : decode cX10_count 118 = .ok (.ireturn, 1) := by decide +kernel
theorem dX10_count_119 : decode cX10_count 119 = .ok (.aload_n 0, 1) := by decide +kernel
theorem dX10_count_120 : decode cX10_count 120 = .ok (.getfield 62, 3) := by decide +kernel
theorem dX10_count_123 : decode cX10_count 123 = .ok (.getfield 174, 3) := by decide +kernel
theorem dX10_count_126 : decode cX10_count 126 = .ok (.invokestatic 248, 3) := by decide +kernel
theorem dX10_count_129 : decode cX10_count 129 = .ok (.ireturn, 1) := by decide +kernel
theorem dX10_count_130 : decode cX10_count 130 = .ok (.aload_n 0, 1) := by decide +kernel
theorem dX10_count_131 : decode cX10_count 131 = .ok (.getfield 62, 3) := by decide +kernel
theorem dX10_count_134 : decode cX10_count 134 = .ok (.invokevirtual 256, 3) := by decide +kernel
theorem dX10_count_137 : decode cX10_count 137 = .ok (.ireturn, 1) := by decide +kernel
theorem dX10_count_138 : decode cX10_count 138 = .ok (.aload_n 0, 1) := by decide +kernel
theorem dX10_count_139 : decode cX10_count 139 = .ok (.getfield 69, 3) := by decide +kernel
theorem dX10_count_142 : decode cX10_count 142 = .ok (.getfield 259, 3) := by decide +kernel
theorem dX10_count_145 : decode cX10_count 145 = .ok (.ireturn, 1) := by decide +kernel
theorem dX10_count_146 : decode cX10_count 146 = .ok (.aload_n 0, 1) := by decide +kernel
theorem dX10_count_147 : decode cX10_count 147 = .ok (.getfield 12, 3) := by decide +kernel
theorem dX10_count_150 : decode cX10_count 150 = .ok (.getfield 260, 3) := by decide +kernel
theorem dX10_count_153 : decode cX10_count 153 = .ok (.ireturn, 1) := by decide +kernel
theorem dX10_count_154 : decode cX10_count 154 = .ok (.aload_n 0, 1) := by decide +kernel
theorem dX10_count_155 : decode cX10_count 155 = .ok (.getfield 35, 3) := by decide +kernel
theorem dX10_count_158 : decode cX10_count 158 = .ok (.getfield 145, 3) := by decide +kernel
theorem dX10_count_161 : decode cX10_count 161 = .ok (.ireturn, 1) := by decide +kernel
theorem dX10_count_162 : decode cX10_count 162 = .ok (.iconst (-1), 1) := by decide +kernel
theorem dX10_count_163 : decode cX10_count 163 = .ok (.ireturn, 1) := by decide +kernel
theorem dX10_appendReading_0 : decode cX10_appendReading 0 = .ok (.aload_n 0, 1) := by decide +kernel
theorem dX10_appendReading_1 : decode cX10_appendReading 1 = .ok (.getfield 28, 3) := by decide +kernel
theorem dX10_appendReading_4 : decode cX10_appendReading 4 = .ok (.iload_n 1, 1) := by decide +kernel
theorem dX10_appendReading_5 : decode cX10_appendReading 5 = .ok (.invokevirtual 263, 3) := by decide +kernel
theorem dX10_appendReading_8 : decode cX10_appendReading 8 = .ok (.ifCond .ne 6, 3) := by decide +kernel
theorem dX10_appendReading_11 : decode cX10_appendReading 11 = .ok (.bipush (-2), 2) := by decide +kernel
theorem dX10_appendReading_13 : decode cX10_appendReading 13 = .ok (.ireturn, 1) := by decide +kernel
theorem dX10_appendReading_14 : decode cX10_appendReading 14 = .ok (.aload_n 0, 1) := by decide +kernel
theorem dX10_appendReading_15 : decode cX10_appendReading 15 = .ok (.getfield 28, 3) := by decide +kernel
theorem dX10_appendReading_18 : decode cX10_appendReading 18 = .ok (.invokevirtual 266, 3) := by decide +kernel
theorem dX10_appendReading_21 : decode cX10_appendReading 21 = .ok (.ifCond .eq 6, 3) := by decide +kernel
theorem dX10_appendReading_24 : decode cX10_appendReading 24 = .ok (.bipush (-3), 2) := by decide +kernel
theorem dX10_appendReading_26 : decode cX10_appendReading 26 = .ok (.ireturn, 1) := by decide +kernel
theorem dX10_appendReading_27 : decode cX10_appendReading 27 = .ok (.aload_n 0, 1) := by decide +kernel
theorem dX10_appendReading_28 : decode cX10_appendReading 28 = .ok (.invokevirtual 129, 3) := by decide +kernel
theorem dX10_appendReading_31 : decode cX10_appendReading 31 = .ok (.aload_n 0, 1) := by decide +kernel
theorem dX10_appendReading_32 : decode cX10_appendReading 32 = .ok (.getfield 28, 3) := by decide +kernel
theorem dX10_appendReading_35 : decode cX10_appendReading 35 = .ok (.iload_n 1, 1) := by decide +kernel
theorem dX10_appendReading_36 : decode cX10_appendReading 36 = .ok (.iload_n 2, 1) := by decide +kernel
theorem dX10_appendReading_37 : decode cX10_appendReading 37 = .ok (.invokevirtual 267, 3) := by decide +kernel
theorem dX10_appendReading_40 : decode cX10_appendReading 40 = .ok (.ireturn, 1) := by decide +kernel
theorem dX10_rememberForUndo_0 : decode cX10_rememberForUndo 0 = .ok (.aload_n 0, 1) := by decide +kernel
theorem dX10_rememberForUndo_1 : decode cX10_rememberForUndo 1 = .ok (.getfield 35, 3) := by decide +kernel
theorem dX10_rememberForUndo_4 : decode cX10_rememberForUndo 4 = .ok (.aload_n 0, 1) := by decide +kernel
theorem dX10_rememberForUndo_5 : decode cX10_rememberForUndo 5 = .ok (.getfield 28, 3) := by decide +kernel
theorem dX10_rememberForUndo_8 : decode cX10_rememberForUndo 8 = .ok (.invokevirtual 270, 3) := by decide +kernel
theorem dX10_rememberForUndo_11 : decode cX10_rememberForUndo 11 = .ok (.aload_n 0, 1) := by decide +kernel
theorem dX10_rememberForUndo_12 : decode cX10_rememberForUndo 12 = .ok (.invokevirtual 118, 3) := by decide +kernel
theorem dX10_rememberForUndo_15 : decode cX10_rememberForUndo 15 = .ok (.return_, 1) := by decide +kernel
theorem dX10_outdateAll_0 : decode cX10_outdateAll 0 = .ok (.aload_n 0, 1) := by decide +kernel
theorem dX10_outdateAll_1 : decode cX10_outdateAll 1 = .ok (.getfield 62, 3) := by decide +kernel
theorem dX10_outdateAll_4 : decode cX10_outdateAll 4 = .ok (.invokevirtual 273, 3) := by decide +kernel
theorem dX10_outdateAll_7 : decode cX10_outdateAll 7 = .ok (.aload_n 0, 1) := by decide +kernel
theorem dX10_outdateAll_8 : decode cX10_outdateAll 8 = .ok (.getfield 78, 3) := by decide +kernel
theorem dX10_outdateAll_11 : decode cX10_outdateAll 11 = .ok (.invokevirtual 276, 3) := by decide +kernel
theorem dX10_outdateAll_14 : decode cX10_outdateAll 14 = .ok (.return_, 1) := by decide +kernel
theorem dX10_isLine_0 : decode cX10_isLine 0 = .ok (.iload_n 1, 1) := by decide +kernel
theorem dX10_isLine_1 : decode cX10_isLine 1 = .ok (.iload_n 2, 1) := by decide +kernel
theorem dX10_isLine_2 : decode cX10_isLine 2 = .ok (.if_icmp .ge 48, 3) := by decide +kernel
theorem dX10_isLine_5 : decode cX10_isLine 5 = .ok (.aload_n 0, 1) := by decide +kernel
theorem dX10_isLine_6 : decode cX10_isLine 6 = .ok (.getfield 28, 3) := by decide +kernel
theorem dX10_isLine_9 : decode cX10_isLine 9 = .ok (.iload_n 1, 1) := by decide +kernel
theorem dX10_isLine_10 : decode cX10_isLine 10 = .ok (.invokevirtual 201, 3) := by decide +kernel
theorem dX10_isLine_13 : decode cX10_isLine 13 = .ok (.ifCond .eq 37, 3) := by decide +kernel
theorem dX10_isLine_16 : decode cX10_isLine 16 = .ok (.aload_n 0, 1) := by decide +kernel
theorem dX10_isLine_17 : decode cX10_isLine 17 = .ok (.getfield 28, 3) := by decide +kernel
theorem dX10_isLine_20 : decode cX10_isLine 20 = .ok (.iload_n 2, 1) := by decide +kernel
theorem dX10_isLine_21 : decode cX10_isLine 21 = .ok (.invokevirtual 201, 3) := by decide +kernel
theorem dX10_isLine_24 : decode cX10_isLine 24 = .ok (.ifCond .eq 26, 3) := by decide +kernel
theorem dX10_isLine_27 : decode cX10_isLine 27 = .ok (.aload_n 0, 1) := by decide +kernel
theorem dX10_isLine_28 : decode cX10_isLine 28 = .ok (.getfield 53, 3) := by decide +kernel
theorem dX10_isLine_31 : decode cX10_isLine 31 = .ok (.iload_n 1, 1) := by decide +kernel
theorem dX10_isLine_32 : decode cX10_isLine 32 = .ok (.invokevirtual 159, 3) := by decide +kernel
theorem dX10_isLine_35 : decode cX10_isLine 35 = .ok (.aload_n 0, 1) := by decide +kernel
theorem dX10_isLine_36 : decode cX10_isLine 36 = .ok (.getfield 53, 3) := by decide +kernel
theorem dX10_isLine_39 : decode cX10_isLine 39 = .ok (.iload_n 2, 1) := by decide +kernel
theorem dX10_isLine_40 : decode cX10_isLine 40 = .ok (.invokevirtual 159, 3) := by decide +kernel
theorem dX10_isLine_43 : decode cX10_isLine 43 = .ok (.if_icmp .ne 7, 3) := by decide +kernel
theorem dX10_isLine_46 : decode cX10_isLine 46 = .ok (.iconst 1, 1) := by decide +kernel
theorem dX10_isLine_47 : decode cX10_isLine 47 = .ok (.goto 4, 3) := by decide +kernel
theorem dX10_isLine_50 : decode cX10_isLine 50 = .ok (.iconst 0, 1) := by decide +kernel
theorem dX10_isLine_51 : decode cX10_isLine 51 = .ok (.ireturn, 1) := by decide +kernel
theorem dX10_isWithin_0 : decode cX10_isWithin 0 = .ok (.iload_n 0, 1) := by decide +kernel
theorem dX10_isWithin_1 : decode cX10_isWithin 1 = .ok (.iload_n 1, 1) := by decide +kernel
theorem dX10_isWithin_2 : decode cX10_isWithin 2 = .ok (.if_icmp .lt 12, 3) := by decide +kernel
theorem dX10_isWithin_5 : decode cX10_isWithin 5 = .ok (.iload_n 0, 1) := by decide +kernel
theorem dX10_isWithin_6 : decode cX10_isWithin 6 = .ok (.iload_n 2, 1) := by decide +kernel
theorem dX10_isWithin_7 : decode cX10_isWithin 7 = .ok (.if_icmp .gt 7, 3) := by decide +kernel
theorem dX10_isWithin_10 : decode cX10_isWithin 10 = .ok (.iconst 1, 1) := by decide +kernel
theorem dX10_isWithin_11 : decode cX10_isWithin 11 = .ok (.goto 4, 3) := by decide +kernel
theorem dX10_isWithin_14 : decode cX10_isWithin 14 = .ok (.iconst 0, 1) := by decide +kernel
theorem dX10_isWithin_15 : decode cX10_isWithin 15 = .ok (.ireturn, 1) := by decide +kernel
theorem dX10_bitAt_0 : decode cX10_bitAt 0 = .ok (.iload_n 0, 1) := by decide +kernel
theorem dX10_bitAt_1 : decode cX10_bitAt 1 = .ok (.iload_n 1, 1) := by decide +kernel
theorem dX10_bitAt_2 : decode cX10_bitAt 2 = .ok (.iushr, 1) := by decide +kernel
theorem dX10_bitAt_3 : decode cX10_bitAt 3 = .ok (.iconst 1, 1) := by decide +kernel
theorem dX10_bitAt_4 : decode cX10_bitAt 4 = .ok (.iand, 1) := by decide +kernel
theorem dX10_bitAt_5 : decode cX10_bitAt 5 = .ok (.ireturn, 1) := by decide +kernel
theorem dX11_init_0 : decode cX11_init 0 = .ok (.aload_n 0, 1) := by decide +kernel
theorem dX11_init_1 : decode cX11_init 1 = .ok (.invokespecial 1, 3) := by decide +kernel
theorem dX11_init_4 : decode cX11_init 4 = .ok (.aload_n 0, 1) := by decide +kernel
theorem dX11_init_5 : decode cX11_init 5 = .ok (.bipush 31, 2) := by decide +kernel
theorem dX11_init_7 : decode cX11_init 7 = .ok (.newarray .int, 2) := by decide +kernel
theorem dX11_init_9 : decode cX11_init 9 = .ok (.putfield 7, 3) := by decide +kernel
theorem dX11_init_12 : decode cX11_init 12 = .ok (.aload_n 0, 1) := by decide +kernel
theorem dX11_init_13 : decode cX11_init 13 = .ok (.sipush 310, 3) := by decide +kernel
theorem dX11_init_16 : decode cX11_init 16 = .ok (.newarray .int, 2) := by decide +kernel
theorem dX11_init_18 : decode cX11_init 18 = .ok (.putfield 13, 3) := by decide +kernel
theorem dX11_init_21 : decode cX11_init 21 = .ok (.aload_n 0, 1) := by decide +kernel
theorem dX11_init_22 : decode cX11_init 22 = .ok (.bipush 6, 2) := by decide +kernel
theorem dX11_init_24 : decode cX11_init 24 = .ok (.newarray .int, 2) := by decide +kernel
theorem dX11_init_26 : decode cX11_init 26 = .ok (.putfield 16, 3) := by decide +kernel
theorem dX11_init_29 : decode cX11_init 29 = .ok (.aload_n 0, 1) := by decide +kernel
theorem dX11_init_30 : decode cX11_init 30 = .ok (.bipush 6, 2) := by decide +kernel
theorem dX11_init_32 : decode cX11_init 32 = .ok (.newarray .int, 2) := by decide +kernel
theorem dX11_init_34 : decode cX11_init 34 = .ok (.putfield 19, 3) := by decide +kernel
theorem dX11_init_37 : decode cX11_init 37 = .ok (.aload_n 0, 1) := by decide +kernel
theorem dX11_init_38 : decode cX11_init 38 = .ok (.iconst 2, 1) := by decide +kernel
theorem dX11_init_39 : decode cX11_init 39 = .ok (.newarray .boolean, 2) := by decide +kernel
theorem dX11_init_41 : decode cX11_init 41 = .ok (.putfield 22, 3) := by decide +kernel
theorem dX11_init_44 : decode cX11_init 44 = .ok (.aload_n 0, 1) := by decide +kernel
theorem dX11_init_45 : decode cX11_init 45 = .ok (.bipush 62, 2) := by decide +kernel
theorem dX11_init_47 : decode cX11_init 47 = .ok (.newarray .int, 2) := by decide +kernel
theorem dX11_init_49 : decode cX11_init 49 = .ok (.putfield 26, 3) := by decide +kernel
theorem dX11_init_52 : decode cX11_init 52 = .ok (.aload_n 0, 1) := by decide +kernel
theorem dX11_init_53 : decode cX11_init 53 = .ok (.bipush 120, 2) := by decide +kernel
theorem dX11_init_55 : decode cX11_init 55 = .ok (.newarray .int, 2) := by decide +kernel
theorem dX11_init_57 : decode cX11_init 57 = .ok (.putfield 29, 3) := by decide +kernel
theorem dX11_init_60 : decode cX11_init 60 = .ok (.aload_n 0, 1) := by decide +kernel
theorem dX11_init_61 : decode cX11_init 61 = .ok (.bipush 31, 2) := by decide +kernel
theorem dX11_init_63 : decode cX11_init 63 = .ok (.newarray .int, 2) := by decide +kernel
theorem dX11_init_65 : decode cX11_init 65 = .ok (.putfield 32, 3) := by decide +kernel
theorem dX11_init_68 : decode cX11_init 68 = .ok (.aload_n 0, 1) := by decide +kernel
theorem dX11_init_69 : decode cX11_init 69 = .ok (.bipush 14, 2) := by decide +kernel
theorem dX11_init_71 : decode cX11_init 71 = .ok (.newarray .int, 2) := by decide +kernel
theorem dX11_init_73 : decode cX11_init 73 = .ok (.putfield 35, 3) := by decide +kernel
theorem dX11_init_76 : decode cX11_init 76 = .ok (.aload_n 0, 1) := by decide +kernel
theorem dX11_init_77 : decode cX11_init 77 = .ok (.bipush 100, 2) := by decide +kernel
theorem dX11_init_79 : decode cX11_init 79 = .ok (.newarray .int, 2) := by decide +kernel
theorem dX11_init_81 : decode cX11_init 81 = .ok (.putfield 38, 3) := by decide +kernel
theorem dX11_init_84 : decode cX11_init 84 = .ok (.aload_n 0, 1) := by decide +kernel
theorem dX11_init_85 : decode cX11_init 85 = .ok (.bipush 100, 2) := by decide +kernel
theorem dX11_init_87 : decode cX11_init 87 = .ok (.newarray .boolean, 2) := by decide +kernel
theorem dX11_init_89 : decode cX11_init 89 = .ok (.putfield 41, 3) := by decide +kernel
theorem dX11_init_92 : decode cX11_init 92 = .ok (.aload_n 0, 1) := by decide +kernel
theorem dX11_init_93 : decode cX11_init 93 = .ok (.getfield 7, 3) := by decide +kernel
theorem dX11_init_96 : decode cX11_init 96 = .ok (.invokestatic 44, 3) := by decide +kernel
theorem dX11_init_99 : decode cX11_init 99 = .ok (.return_, 1) := by decide +kernel
theorem dX11_in_0 : decode cX11_in 0 = .ok (.iload_n 0, 1) := by decide +kernel
theorem dX11_in_1 : decode cX11_in 1 = .ok (.iload_n 1, 1) := by decide +kernel
theorem dX11_in_2 : decode cX11_in 2 = .ok (.if_icmp .lt 12, 3) := by decide +kernel
theorem dX11_in_5 : decode cX11_in 5 = .ok (.iload_n 0, 1) := by decide +kernel
theorem dX11_in_6 : decode cX11_in 6 = .ok (.iload_n 2, 1) := by decide +kernel
theorem dX11_in_7 : decode cX11_in 7 = .ok (.if_icmp .gt 7, 3) := by decide +kernel
theorem dX11_in_10 : decode cX11_in 10 = .ok (.iconst 1, 1) := by decide +kernel
theorem dX11_in_11 : decode cX11_in 11 = .ok (.goto 4, 3) := by decide +kernel
theorem dX11_in_14 : decode cX11_in 14 = .ok (.iconst 0, 1) := by decide +kernel
theorem dX11_in_15 : decode cX11_in 15 = .ok (.ireturn, 1) := by decide +kernel
theorem dX11_has_0 : decode cX11_has 0 = .ok (.iload_n 0, 1) := by decide +kernel
theorem dX11_has_1 : decode cX11_has 1 = .ok (.iload_n 1, 1) := by decide +kernel
theorem dX11_has_2 : decode cX11_has 2 = .ok (.ishr, 1) := by decide +kernel
theorem dX11_has_3 : decode cX11_has 3 = .ok (.iconst 1, 1) := by decide +kernel
theorem dX11_has_4 : decode cX11_has 4 = .ok (.iand, 1) := by decide +kernel
theorem dX11_has_5 : decode cX11_has 5 = .ok (.iconst 1, 1) := by decide +kernel
theorem dX11_has_6 : decode cX11_has 6 = .ok (.if_icmp .ne 7, 3) := by decide +kernel
theorem dX11_has_9 : decode cX11_has 9 = .ok (.iconst 1, 1) := by decide +kernel
theorem dX11_has_10 : decode cX11_has 10 = .ok (.goto 4, 3) := by decide +kernel
theorem dX11_has_13 : decode cX11_has 13 = .ok (.iconst 0, 1) := by decide +kernel
theorem dX11_has_14 : decode cX11_has 14 = .ok (.ireturn, 1) := by decide +kernel
theorem dX11_bits_0 : decode cX11_bits 0 = .ok (.iconst 0, 1) := by decide +kernel
theorem dX11_bits_1 : decode cX11_bits 1 = .ok (.istore_n 1, 1) := by decide +kernel
theorem dX11_bits_2 : decode cX11_bits 2 = .ok (.iload_n 0, 1) := by decide +kernel
theorem dX11_bits_3 : decode cX11_bits 3 = .ok (.istore_n 2, 1) := by decide +kernel
theorem dX11_bits_4 : decode cX11_bits 4 = .ok (.iload_n 2, 1) := by decide +kernel
theorem dX11_bits_5 : decode cX11_bits 5 = .ok (.ifCond .eq 15, 3) := by decide +kernel
theorem dX11_bits_8 : decode cX11_bits 8 = .ok (.iinc 1 1, 3) := by decide +kernel
theorem dX11_bits_11 : decode cX11_bits 11 = .ok (.iload_n 2, 1) := by decide +kernel
theorem dX11_bits_12 : decode cX11_bits 12 = .ok (.iload_n 2, 1) := by decide +kernel
theorem dX11_bits_13 : decode cX11_bits 13 = .ok (.iconst 1, 1) := by decide +kernel
theorem dX11_bits_14 : decode cX11_bits 14 = .ok (.isub, 1) := by decide +kernel
theorem dX11_bits_15 : decode cX11_bits 15 = .ok (.iand, 1) := by decide +kernel
theorem dX11_bits_16 : decode cX11_bits 16 = .ok (.istore_n 2, 1) := by decide +kernel
theorem dX11_bits_17 : decode cX11_bits 17 = .ok (.goto (-13), 3) := by decide +kernel
theorem dX11_bits_20 : decode cX11_bits 20 = .ok (.iload_n 1, 1) := by decide +kernel
theorem dX11_bits_21 : decode cX11_bits 21 = .ok (.ireturn, 1) := by decide +kernel
theorem dX11_begins_0 : decode cX11_begins 0 = .ok (.iconst 0, 1) := by decide +kernel
theorem dX11_begins_1 : decode cX11_begins 1 = .ok (.istore_n 1, 1) := by decide +kernel
theorem dX11_begins_2 : decode cX11_begins 2 = .ok (.iload_n 1, 1) := by decide +kernel
theorem dX11_begins_3 : decode cX11_begins 3 = .ok (.bipush 31, 2) := by decide +kernel
theorem dX11_begins_5 : decode cX11_begins 5 = .ok (.if_icmp .ge 13, 3) := by decide +kernel
theorem dX11_begins_8 : decode cX11_begins 8 = .ok (.aload_n 0, 1) := by decide +kernel
theorem dX11_begins_9 : decode cX11_begins 9 = .ok (.iload_n 1, 1) := by decide +kernel
theorem dX11_begins_10 : decode cX11_begins 10 = .ok (.iconst 0, 1) := by decide +kernel
theorem dX11_begins_11 : decode cX11_begins 11 = .ok (.iastore, 1) := by decide +kernel
theorem dX11_begins_12 : decode cX11_begins 12 = .ok (.iinc 1 1, 3) := by decide +kernel
theorem dX11_begins_15 : decode cX11_begins 15 = .ok (.goto (-13), 3) := by decide +kernel
theorem dX11_begins_18 : decode cX11_begins 18 = .ok (.aload_n 0, 1) := by decide +kernel
theorem dX11_begins_19 : decode cX11_begins 19 = .ok (.iconst 1, 1) := by decide +kernel
theorem dX11_begins_20 : decode cX11_begins 20 = .ok (.iconst 5, 1) := by decide +kernel
theorem dX11_begins_21 : decode cX11_begins 21 = .ok (.iastore, 1) := by decide +kernel
theorem dX11_begins_22 : decode cX11_begins 22 = .ok (.aload_n 0, 1) := by decide +kernel
theorem dX11_begins_23 : decode cX11_begins 23 = .ok (.iconst 2, 1) := by decide +kernel
theorem dX11_begins_24 : decode cX11_begins 24 = .ok (.bipush 14, 2) := by decide +kernel
theorem dX11_begins_26 : decode cX11_begins 26 = .ok (.iastore, 1) := by decide +kernel
theorem dX11_begins_27 : decode cX11_begins 27 = .ok (.return_, 1) := by decide +kernel
theorem dX11_type_0 : decode cX11_type 0 = .ok (.iload_n 1, 1) := by decide +kernel
theorem dX11_type_1 : decode cX11_type 1 = .ok (.iconst 0, 1) := by decide +kernel
theorem dX11_type_2 : decode cX11_type 2 = .ok (.sipush 255, 3) := by decide +kernel
theorem dX11_type_5 : decode cX11_type 5 = .ok (.invokestatic 48, 3) := by decide +kernel
theorem dX11_type_8 : decode cX11_type 8 = .ok (.ifCond .ne 5, 3) := by decide +kernel
theorem dX11_type_11 : decode cX11_type 11 = .ok (.iconst (-1), 1) := by decide +kernel
theorem dX11_type_12 : decode cX11_type 12 = .ok (.ireturn, 1) := by decide +kernel
theorem dX11_type_13 : decode cX11_type 13 = .ok (.aload_n 0, 1) := by decide +kernel
theorem dX11_type_14 : decode cX11_type 14 = .ok (.getfield 52, 3) := by decide +kernel
theorem dX11_type_17 : decode cX11_type 17 = .ok (.bipush 120, 2) := by decide +kernel
theorem dX11_type_19 : decode cX11_type 19 = .ok (.if_icmp .ne 6, 3) := by decide +kernel
theorem dX11_type_22 : decode cX11_type 22 = .ok (.bipush (-3), 2) := by decide +kernel
theorem dX11_type_24 : decode cX11_type 24 = .ok (.ireturn, 1) := by decide +kernel
theorem dX11_type_25 : decode cX11_type 25 = .ok (.aload_n 0, 1) := by decide +kernel
theorem dX11_type_26 : decode cX11_type 26 = .ok (.getfield 29, 3) := by decide +kernel
theorem dX11_type_29 : decode cX11_type 29 = .ok (.aload_n 0, 1) := by decide +kernel
theorem dX11_type_30 : decode cX11_type 30 = .ok (.getfield 52, 3) := by decide +kernel
theorem dX11_type_33 : decode cX11_type 33 = .ok (.iload_n 1, 1) := by decide +kernel
theorem dX11_type_34 : decode cX11_type 34 = .ok (.iastore, 1) := by decide +kernel
theorem dX11_type_35 : decode cX11_type 35 = .ok (.aload_n 0, 1) := by decide +kernel
theorem dX11_type_36 : decode cX11_type 36 = .ok (.dup, 1) := by decide +kernel
theorem dX11_type_37 : decode cX11_type 37 = .ok (.getfield 52, 3) := by decide +kernel
theorem dX11_type_40 : decode cX11_type 40 = .ok (.iconst 1, 1) := by decide +kernel
theorem dX11_type_41 : decode cX11_type 41 = .ok (.iadd, 1) := by decide +kernel
theorem dX11_type_42 : decode cX11_type 42 = .ok (.putfield 52, 3) := by decide +kernel
theorem dX11_type_45 : decode cX11_type 45 = .ok (.aload_n 0, 1) := by decide +kernel
theorem dX11_type_46 : decode cX11_type 46 = .ok (.getfield 52, 3) := by decide +kernel
theorem dX11_type_49 : decode cX11_type 49 = .ok (.ireturn, 1) := by decide +kernel
theorem dX11_clear_0 : decode cX11_clear 0 = .ok (.aload_n 0, 1) := by decide +kernel
theorem dX11_clear_1 : decode cX11_clear 1 = .ok (.getfield 52, 3) := by decide +kernel
theorem dX11_clear_4 : decode cX11_clear 4 = .ok (.istore_n 1, 1) := by decide +kernel
theorem dX11_clear_5 : decode cX11_clear 5 = .ok (.aload_n 0, 1) := by decide +kernel
theorem dX11_clear_6 : decode cX11_clear 6 = .ok (.iconst 0, 1) := by decide +kernel
theorem dX11_clear_7 : decode cX11_clear 7 = .ok (.putfield 52, 3) := by decide +kernel
theorem dX11_clear_10 : decode cX11_clear 10 = .ok (.iload_n 1, 1) := by decide +kernel
theorem dX11_clear_11 : decode cX11_clear 11 = .ok (.ireturn, 1) := by decide +kernel
theorem dX11_isFigure_0 : decode cX11_isFigure 0 = .ok (.aload_n 0, 1) := by decide +kernel
theorem dX11_isFigure_1 : decode cX11_isFigure 1 = .ok (.getfield 56, 3) := by decide +kernel
theorem dX11_isFigure_4 : decode cX11_isFigure 4 = .ok (.aload_n 0, 1) := by decide +kernel
theorem dX11_isFigure_5 : decode cX11_isFigure 5 = .ok (.getfield 52, 3) := by decide +kernel
theorem dX11_isFigure_8 : decode cX11_isFigure 8 = .ok (.if_icmp .ge 26, 3) := by decide +kernel
theorem dX11_isFigure_11 : decode cX11_isFigure 11 = .ok (.aload_n 0, 1) := by decide +kernel
theorem dX11_isFigure_12 : decode cX11_isFigure 12 = .ok (.getfield 29, 3) := by decide +kernel
theorem dX11_isFigure_15 : decode cX11_isFigure 15 = .ok (.aload_n 0, 1) := by decide +kernel
theorem dX11_isFigure_16 : decode cX11_isFigure 16 = .ok (.getfield 56, 3) := by decide +kernel
theorem dX11_isFigure_19 : decode cX11_isFigure 19 = .ok (.iaload, 1) := by decide +kernel
theorem dX11_isFigure_20 : decode cX11_isFigure 20 = .ok (.bipush 48, 2) := by decide +kernel
theorem dX11_isFigure_22 : decode cX11_isFigure 22 = .ok (.bipush 57, 2) := by decide +kernel
theorem dX11_isFigure_24 : decode cX11_isFigure 24 = .ok (.invokestatic 48, 3) := by decide +kernel
theorem dX11_isFigure_27 : decode cX11_isFigure 27 = .ok (.ifCond .eq 7, 3) := by decide +kernel
theorem dX11_isFigure_30 : decode cX11_isFigure 30 = .ok (.iconst 1, 1) := by decide +kernel
end
section
theorem dX11_isFigure_31 : decode cX11_isFigure 31 = .ok (.goto 4, 3) := by decide +kernel
theorem dX11_isFigure_34 : decode cX11_isFigure 34 = .ok (.iconst 0, 1) := by decide +kernel
theorem dX11_isFigure_35 : decode cX11_isFigure 35 = .ok (.ireturn, 1) := by decide +kernel
theorem dX11_blanks_0 : decode cX11_blanks 0 = .ok (.aload_n 0, 1) := by decide +kernel
theorem dX11_blanks_1 : decode cX11_blanks 1 = .ok (.getfield 56, 3) := by decide +kernel
theorem dX11_blanks_4 : decode cX11_blanks 4 = .ok (.aload_n 0, 1) := by decide +kernel
theorem dX11_blanks_5 : decode cX11_blanks 5 = .ok (.getfield 52, 3) := by decide +kernel
theorem dX11_blanks_8 : decode cX11_blanks 8 = .ok (.if_icmp .ge 30, 3) := by decide +kernel
theorem dX11_blanks_11 : decode cX11_blanks 11 = .ok (.aload_n 0, 1) := by decide +kernel
theorem dX11_blanks_12 : decode cX11_blanks 12 = .ok (.getfield 29, 3) := by decide +kernel
theorem dX11_blanks_15 : decode cX11_blanks 15 = .ok (.aload_n 0, 1) := by decide +kernel
theorem dX11_blanks_16 : decode cX11_blanks 16 = .ok (.getfield 56, 3) := by decide +kernel
theorem dX11_blanks_19 : decode cX11_blanks 19 = .ok (.iaload, 1) := by decide +kernel
theorem dX11_blanks_20 : decode cX11_blanks 20 = .ok (.bipush 32, 2) := by decide +kernel
theorem dX11_blanks_22 : decode cX11_blanks 22 = .ok (.if_icmp .ne 16, 3) := by decide +kernel
theorem dX11_blanks_25 : decode cX11_blanks 25 = .ok (.aload_n 0, 1) := by decide +kernel
theorem dX11_blanks_26 : decode cX11_blanks 26 = .ok (.dup, 1) := by decide +kernel
theorem dX11_blanks_27 : decode cX11_blanks 27 = .ok (.getfield 56, 3) := by decide +kernel
theorem dX11_blanks_30 : decode cX11_blanks 30 = .ok (.iconst 1, 1) := by decide +kernel
theorem dX11_blanks_31 : decode cX11_blanks 31 = .ok (.iadd, 1) := by decide +kernel
theorem dX11_blanks_32 : decode cX11_blanks 32 = .ok (.putfield 56, 3) := by decide +kernel
theorem dX11_blanks_35 : decode cX11_blanks 35 = .ok (.goto (-35), 3) := by decide +kernel
theorem dX11_blanks_38 : decode cX11_blanks 38 = .ok (.return_, 1) := by decide +kernel
theorem dX11_next_0 : decode cX11_next 0 = .ok (.aload_n 0, 1) := by decide +kernel
theorem dX11_next_1 : decode cX11_next 1 = .ok (.invokevirtual 59, 3) := by decide +kernel
theorem dX11_next_4 : decode cX11_next 4 = .ok (.aload_n 0, 1) := by decide +kernel
theorem dX11_next_5 : decode cX11_next 5 = .ok (.aload_n 0, 1) := by decide +kernel
theorem dX11_next_6 : decode cX11_next 6 = .ok (.getfield 56, 3) := by decide +kernel
theorem dX11_next_9 : decode cX11_next 9 = .ok (.putfield 62, 3) := by decide +kernel
theorem dX11_next_12 : decode cX11_next 12 = .ok (.aload_n 0, 1) := by decide +kernel
theorem dX11_next_13 : decode cX11_next 13 = .ok (.getfield 56, 3) := by decide +kernel
theorem dX11_next_16 : decode cX11_next 16 = .ok (.aload_n 0, 1) := by decide +kernel
theorem dX11_next_17 : decode cX11_next 17 = .ok (.getfield 52, 3) := by decide +kernel
theorem dX11_next_20 : decode cX11_next 20 = .ok (.if_icmp .ne 11, 3) := by decide +kernel
theorem dX11_next_23 : decode cX11_next 23 = .ok (.aload_n 0, 1) := by decide +kernel
theorem dX11_next_24 : decode cX11_next 24 = .ok (.iconst (-1), 1) := by decide +kernel
theorem dX11_next_25 : decode cX11_next 25 = .ok (.putfield 65, 3) := by decide +kernel
theorem dX11_next_28 : decode cX11_next 28 = .ok (.goto 186, 3) := by decide +kernel
theorem dX11_next_31 : decode cX11_next 31 = .ok (.aload_n 0, 1) := by decide +kernel
theorem dX11_next_32 : decode cX11_next 32 = .ok (.invokevirtual 68, 3) := by decide +kernel
theorem dX11_next_35 : decode cX11_next 35 = .ok (.ifCond .eq 119, 3) := by decide +kernel
theorem dX11_next_38 : decode cX11_next 38 = .ok (.aload_n 0, 1) := by decide +kernel
theorem dX11_next_39 : decode cX11_next 39 = .ok (.iconst 0, 1) := by decide +kernel
theorem dX11_next_40 : decode cX11_next 40 = .ok (.putfield 72, 3) := by decide +kernel
theorem dX11_next_43 : decode cX11_next 43 = .ok (.aload_n 0, 1) := by decide +kernel
theorem dX11_next_44 : decode cX11_next 44 = .ok (.invokevirtual 68, 3) := by decide +kernel
theorem dX11_next_47 : decode cX11_next 47 = .ok (.ifCond .eq 57, 3) := by decide +kernel
theorem dX11_next_50 : decode cX11_next 50 = .ok (.aload_n 0, 1) := by decide +kernel
theorem dX11_next_51 : decode cX11_next 51 = .ok (.aload_n 0, 1) := by decide +kernel
theorem dX11_next_52 : decode cX11_next 52 = .ok (.getfield 72, 3) := by decide +kernel
theorem dX11_next_55 : decode cX11_next 55 = .ok (.sipush 9999, 3) := by decide +kernel
theorem dX11_next_58 : decode cX11_next 58 = .ok (.if_icmp .le 10, 3) := by decide +kernel
theorem dX11_next_61 : decode cX11_next 61 = .ok (.aload_n 0, 1) := by decide +kernel
theorem dX11_next_62 : decode cX11_next 62 = .ok (.getfield 72, 3) := by decide +kernel
theorem dX11_next_65 : decode cX11_next 65 = .ok (.goto 23, 3) := by decide +kernel
theorem dX11_next_68 : decode cX11_next 68 = .ok (.bipush 10, 2) := by decide +kernel
theorem dX11_next_70 : decode cX11_next 70 = .ok (.aload_n 0, 1) := by decide +kernel
theorem dX11_next_71 : decode cX11_next 71 = .ok (.getfield 72, 3) := by decide +kernel
theorem dX11_next_74 : decode cX11_next 74 = .ok (.imul, 1) := by decide +kernel
theorem dX11_next_75 : decode cX11_next 75 = .ok (.aload_n 0, 1) := by decide +kernel
theorem dX11_next_76 : decode cX11_next 76 = .ok (.getfield 29, 3) := by decide +kernel
theorem dX11_next_79 : decode cX11_next 79 = .ok (.aload_n 0, 1) := by decide +kernel
theorem dX11_next_80 : decode cX11_next 80 = .ok (.getfield 56, 3) := by decide +kernel
theorem dX11_next_83 : decode cX11_next 83 = .ok (.iaload, 1) := by decide +kernel
theorem dX11_next_84 : decode cX11_next 84 = .ok (.iadd, 1) := by decide +kernel
theorem dX11_next_85 : decode cX11_next 85 = .ok (.bipush 48, 2) := by decide +kernel
theorem dX11_next_87 : decode cX11_next 87 = .ok (.isub, 1) := by decide +kernel
theorem dX11_next_88 : decode cX11_next 88 = .ok (.putfield 72, 3) := by decide +kernel
theorem dX11_next_91 : decode cX11_next 91 = .ok (.aload_n 0, 1) := by decide +kernel
theorem dX11_next_92 : decode cX11_next 92 = .ok (.dup, 1) := by decide +kernel
theorem dX11_next_93 : decode cX11_next 93 = .ok (.getfield 56, 3) := by decide +kernel
theorem dX11_next_96 : decode cX11_next 96 = .ok (.iconst 1, 1) := by decide +kernel
theorem dX11_next_97 : decode cX11_next 97 = .ok (.iadd, 1) := by decide +kernel
theorem dX11_next_98 : decode cX11_next 98 = .ok (.putfield 56, 3) := by decide +kernel
theorem dX11_next_101 : decode cX11_next 101 = .ok (.goto (-58), 3) := by decide +kernel
theorem dX11_next_104 : decode cX11_next 104 = .ok (.aload_n 0, 1) := by decide +kernel
theorem dX11_next_105 : decode cX11_next 105 = .ok (.aload_n 0, 1) := by decide +kernel
theorem dX11_next_106 : decode cX11_next 106 = .ok (.getfield 72, 3) := by decide +kernel
theorem dX11_next_109 : decode cX11_next 109 = .ok (.sipush 9999, 3) := by decide +kernel
theorem dX11_next_112 : decode cX11_next 112 = .ok (.if_icmp .gt 30, 3) := by decide +kernel
theorem dX11_next_115 : decode cX11_next 115 = .ok (.aload_n 0, 1) := by decide +kernel
theorem dX11_next_116 : decode cX11_next 116 = .ok (.getfield 29, 3) := by decide +kernel
theorem dX11_next_119 : decode cX11_next 119 = .ok (.aload_n 0, 1) := by decide +kernel
theorem dX11_next_120 : decode cX11_next 120 = .ok (.getfield 62, 3) := by decide +kernel
theorem dX11_next_123 : decode cX11_next 123 = .ok (.iaload, 1) := by decide +kernel
theorem dX11_next_124 : decode cX11_next 124 = .ok (.bipush 48, 2) := by decide +kernel
theorem dX11_next_126 : decode cX11_next 126 = .ok (.if_icmp .ne 21, 3) := by decide +kernel
theorem dX11_next_129 : decode cX11_next 129 = .ok (.aload_n 0, 1) := by decide +kernel
theorem dX11_next_130 : decode cX11_next 130 = .ok (.getfield 56, 3) := by decide +kernel
theorem dX11_next_133 : decode cX11_next 133 = .ok (.aload_n 0, 1) := by decide +kernel
theorem dX11_next_134 : decode cX11_next 134 = .ok (.getfield 62, 3) := by decide +kernel
theorem dX11_next_137 : decode cX11_next 137 = .ok (.isub, 1) := by decide +kernel
theorem dX11_next_138 : decode cX11_next 138 = .ok (.iconst 1, 1) := by decide +kernel
theorem dX11_next_139 : decode cX11_next 139 = .ok (.if_icmp .le 8, 3) := by decide +kernel
theorem dX11_next_142 : decode cX11_next 142 = .ok (.bipush (-2), 2) := by decide +kernel
theorem dX11_next_144 : decode cX11_next 144 = .ok (.goto 4, 3) := by decide +kernel
theorem dX11_next_147 : decode cX11_next 147 = .ok (.iconst 0, 1) := by decide +kernel
theorem dX11_next_148 : decode cX11_next 148 = .ok (.putfield 65, 3) := by decide +kernel
theorem dX11_next_151 : decode cX11_next 151 = .ok (.goto 63, 3) := by decide +kernel
theorem dX11_next_154 : decode cX11_next 154 = .ok (.aload_n 0, 1) := by decide +kernel
theorem dX11_next_155 : decode cX11_next 155 = .ok (.getfield 29, 3) := by decide +kernel
theorem dX11_next_158 : decode cX11_next 158 = .ok (.aload_n 0, 1) := by decide +kernel
theorem dX11_next_159 : decode cX11_next 159 = .ok (.getfield 56, 3) := by decide +kernel
theorem dX11_next_162 : decode cX11_next 162 = .ok (.iaload, 1) := by decide +kernel
theorem dX11_next_163 : decode cX11_next 163 = .ok (.istore_n 1, 1) := by decide +kernel
theorem dX11_next_164 : decode cX11_next 164 = .ok (.aload_n 0, 1) := by decide +kernel
theorem dX11_next_165 : decode cX11_next 165 = .ok (.iload_n 1, 1) := by decide +kernel
theorem dX11_next_166 : decode cX11_next 166 = .ok (.bipush 112, 2) := by decide +kernel
theorem dX11_next_168 : decode cX11_next 168 = .ok (.if_icmp .eq 27, 3) := by decide +kernel
theorem dX11_next_171 : decode cX11_next 171 = .ok (.iload_n 1, 1) := by decide +kernel
theorem dX11_next_172 : decode cX11_next 172 = .ok (.bipush 100, 2) := by decide +kernel
theorem dX11_next_174 : decode cX11_next 174 = .ok (.if_icmp .eq 21, 3) := by decide +kernel
theorem dX11_next_177 : decode cX11_next 177 = .ok (.iload_n 1, 1) := by decide +kernel
theorem dX11_next_178 : decode cX11_next 178 = .ok (.bipush 114, 2) := by decide +kernel
theorem dX11_next_180 : decode cX11_next 180 = .ok (.if_icmp .eq 15, 3) := by decide +kernel
theorem dX11_next_183 : decode cX11_next 183 = .ok (.iload_n 1, 1) := by decide +kernel
theorem dX11_next_184 : decode cX11_next 184 = .ok (.bipush 117, 2) := by decide +kernel
theorem dX11_next_186 : decode cX11_next 186 = .ok (.if_icmp .eq 9, 3) := by decide +kernel
theorem dX11_next_189 : decode cX11_next 189 = .ok (.iload_n 1, 1) := by decide +kernel
theorem dX11_next_190 : decode cX11_next 190 = .ok (.bipush 59, 2) := by decide +kernel
theorem dX11_next_192 : decode cX11_next 192 = .ok (.if_icmp .ne 7, 3) := by decide +kernel
theorem dX11_next_195 : decode cX11_next 195 = .ok (.iload_n 1, 1) := by decide +kernel
theorem dX11_next_196 : decode cX11_next 196 = .ok (.goto 5, 3) := by decide +kernel
theorem dX11_next_199 : decode cX11_next 199 = .ok (.bipush (-2), 2) := by decide +kernel
theorem dX11_next_201 : decode cX11_next 201 = .ok (.putfield 65, 3) := by decide +kernel
theorem dX11_next_204 : decode cX11_next 204 = .ok (.aload_n 0, 1) := by decide +kernel
theorem dX11_next_205 : decode cX11_next 205 = .ok (.dup, 1) := by decide +kernel
theorem dX11_next_206 : decode cX11_next 206 = .ok (.getfield 56, 3) := by decide +kernel
theorem dX11_next_209 : decode cX11_next 209 = .ok (.iconst 1, 1) := by decide +kernel
theorem dX11_next_210 : decode cX11_next 210 = .ok (.iadd, 1) := by decide +kernel
theorem dX11_next_211 : decode cX11_next 211 = .ok (.putfield 56, 3) := by decide +kernel
theorem dX11_next_214 : decode cX11_next 214 = .ok (.return_, 1) := by decide +kernel
theorem dX11_fails_0 : decode cX11_fails 0 = .ok (.aload_n 0, 1) := by decide +kernel
theorem dX11_fails_1 : decode cX11_fails 1 = .ok (.aload_n 0, 1) := by decide +kernel
theorem dX11_fails_2 : decode cX11_fails 2 = .ok (.getfield 62, 3) := by decide +kernel
theorem dX11_fails_5 : decode cX11_fails 5 = .ok (.putfield 75, 3) := by decide +kernel
theorem dX11_fails_8 : decode cX11_fails 8 = .ok (.iconst 0, 1) := by decide +kernel
theorem dX11_fails_9 : decode cX11_fails 9 = .ok (.ireturn, 1) := by decide +kernel
theorem dX11_number_0 : decode cX11_number 0 = .ok (.aload_n 0, 1) := by decide +kernel
theorem dX11_number_1 : decode cX11_number 1 = .ok (.invokevirtual 78, 3) := by decide +kernel
theorem dX11_number_4 : decode cX11_number 4 = .ok (.aload_n 0, 1) := by decide +kernel
theorem dX11_number_5 : decode cX11_number 5 = .ok (.getfield 65, 3) := by decide +kernel
theorem dX11_number_8 : decode cX11_number 8 = .ok (.ifCond .ne 15, 3) := by decide +kernel
theorem dX11_number_11 : decode cX11_number 11 = .ok (.aload_n 0, 1) := by decide +kernel
theorem dX11_number_12 : decode cX11_number 12 = .ok (.getfield 72, 3) := by decide +kernel
theorem dX11_number_15 : decode cX11_number 15 = .ok (.iload_n 1, 1) := by decide +kernel
theorem dX11_number_16 : decode cX11_number 16 = .ok (.iload_n 2, 1) := by decide +kernel
theorem dX11_number_17 : decode cX11_number 17 = .ok (.invokestatic 48, 3) := by decide +kernel
theorem dX11_number_20 : decode cX11_number 20 = .ok (.ifCond .ne 10, 3) := by decide +kernel
theorem dX11_number_23 : decode cX11_number 23 = .ok (.aload_n 0, 1) := by decide +kernel
theorem dX11_number_24 : decode cX11_number 24 = .ok (.invokevirtual 81, 3) := by decide +kernel
theorem dX11_number_27 : decode cX11_number 27 = .ok (.ifCond .eq 7, 3) := by decide +kernel
theorem dX11_number_30 : decode cX11_number 30 = .ok (.iconst 1, 1) := by decide +kernel
theorem dX11_number_31 : decode cX11_number 31 = .ok (.goto 4, 3) := by decide +kernel
theorem dX11_number_34 : decode cX11_number 34 = .ok (.iconst 0, 1) := by decide +kernel
theorem dX11_number_35 : decode cX11_number 35 = .ok (.ireturn, 1) := by decide +kernel
theorem dX11_ends_0 : decode cX11_ends 0 = .ok (.aload_n 0, 1) := by decide +kernel
theorem dX11_ends_1 : decode cX11_ends 1 = .ok (.invokevirtual 78, 3) := by decide +kernel
theorem dX11_ends_4 : decode cX11_ends 4 = .ok (.aload_n 0, 1) := by decide +kernel
theorem dX11_ends_5 : decode cX11_ends 5 = .ok (.getfield 65, 3) := by decide +kernel
theorem dX11_ends_8 : decode cX11_ends 8 = .ok (.bipush 59, 2) := by decide +kernel
theorem dX11_ends_10 : decode cX11_ends 10 = .ok (.if_icmp .eq 10, 3) := by decide +kernel
theorem dX11_ends_13 : decode cX11_ends 13 = .ok (.aload_n 0, 1) := by decide +kernel
theorem dX11_ends_14 : decode cX11_ends 14 = .ok (.invokevirtual 81, 3) := by decide +kernel
theorem dX11_ends_17 : decode cX11_ends 17 = .ok (.ifCond .eq 7, 3) := by decide +kernel
theorem dX11_ends_20 : decode cX11_ends 20 = .ok (.iconst 1, 1) := by decide +kernel
theorem dX11_ends_21 : decode cX11_ends 21 = .ok (.goto 4, 3) := by decide +kernel
theorem dX11_ends_24 : decode cX11_ends 24 = .ok (.iconst 0, 1) := by decide +kernel
theorem dX11_ends_25 : decode cX11_ends 25 = .ok (.ireturn, 1) := by decide +kernel
theorem dX11_readsOnce_0 : decode cX11_readsOnce 0 = .ok (.aload_n 0, 1) := by decide +kernel
theorem dX11_readsOnce_1 : decode cX11_readsOnce 1 = .ok (.getfield 84, 3) := by decide +kernel
theorem dX11_readsOnce_4 : decode cX11_readsOnce 4 = .ok (.iload_n 1, 1) := by decide +kernel
theorem dX11_readsOnce_5 : decode cX11_readsOnce 5 = .ok (.invokestatic 87, 3) := by decide +kernel
theorem dX11_readsOnce_8 : decode cX11_readsOnce 8 = .ok (.ifCond .eq 8, 3) := by decide +kernel
theorem dX11_readsOnce_11 : decode cX11_readsOnce 11 = .ok (.aload_n 0, 1) := by decide +kernel
theorem dX11_readsOnce_12 : decode cX11_readsOnce 12 = .ok (.invokevirtual 81, 3) := by decide +kernel
theorem dX11_readsOnce_15 : decode cX11_readsOnce 15 = .ok (.ireturn, 1) := by decide +kernel
theorem dX11_readsOnce_16 : decode cX11_readsOnce 16 = .ok (.aload_n 0, 1) := by decide +kernel
theorem dX11_readsOnce_17 : decode cX11_readsOnce 17 = .ok (.dup, 1) := by decide +kernel
theorem dX11_readsOnce_18 : decode cX11_readsOnce 18 = .ok (.getfield 84, 3) := by decide +kernel
theorem dX11_readsOnce_21 : decode cX11_readsOnce 21 = .ok (.iconst 1, 1) := by decide +kernel
theorem dX11_readsOnce_22 : decode cX11_readsOnce 22 = .ok (.iload_n 1, 1) := by decide +kernel
theorem dX11_readsOnce_23 : decode cX11_readsOnce 23 = .ok (.ishl, 1) := by decide +kernel
theorem dX11_readsOnce_24 : decode cX11_readsOnce 24 = .ok (.ior, 1) := by decide +kernel
theorem dX11_readsOnce_25 : decode cX11_readsOnce 25 = .ok (.putfield 84, 3) := by decide +kernel
theorem dX11_readsOnce_28 : decode cX11_readsOnce 28 = .ok (.aload_n 0, 1) := by decide +kernel
theorem dX11_readsOnce_29 : decode cX11_readsOnce 29 = .ok (.iload_n 2, 1) := by decide +kernel
theorem dX11_readsOnce_30 : decode cX11_readsOnce 30 = .ok (.iload_n 3, 1) := by decide +kernel
theorem dX11_readsOnce_31 : decode cX11_readsOnce 31 = .ok (.invokevirtual 91, 3) := by decide +kernel
theorem dX11_readsOnce_34 : decode cX11_readsOnce 34 = .ok (.ifCond .ne 5, 3) := by decide +kernel
theorem dX11_readsOnce_37 : decode cX11_readsOnce 37 = .ok (.iconst 0, 1) := by decide +kernel
theorem dX11_readsOnce_38 : decode cX11_readsOnce 38 = .ok (.ireturn, 1) := by decide +kernel
theorem dX11_readsOnce_39 : decode cX11_readsOnce 39 = .ok (.aload_n 0, 1) := by decide +kernel
theorem dX11_readsOnce_40 : decode cX11_readsOnce 40 = .ok (.getfield 32, 3) := by decide +kernel
theorem dX11_readsOnce_43 : decode cX11_readsOnce 43 = .ok (.iload_n 1, 1) := by decide +kernel
theorem dX11_readsOnce_44 : decode cX11_readsOnce 44 = .ok (.aload_n 0, 1) := by decide +kernel
theorem dX11_readsOnce_45 : decode cX11_readsOnce 45 = .ok (.getfield 72, 3) := by decide +kernel
theorem dX11_readsOnce_48 : decode cX11_readsOnce 48 = .ok (.iastore, 1) := by decide +kernel
theorem dX11_readsOnce_49 : decode cX11_readsOnce 49 = .ok (.aload_n 0, 1) := by decide +kernel
theorem dX11_readsOnce_50 : decode cX11_readsOnce 50 = .ok (.invokevirtual 94, 3) := by decide +kernel
theorem dX11_readsOnce_53 : decode cX11_readsOnce 53 = .ok (.ireturn, 1) := by decide +kernel
theorem dX11_readsOne_0 : decode cX11_readsOne 0 = .ok (.aload_n 0, 1) := by decide +kernel
theorem dX11_readsOne_1 : decode cX11_readsOne 1 = .ok (.getfield 32, 3) := by decide +kernel
theorem dX11_readsOne_4 : decode cX11_readsOne 4 = .ok (.iconst 0, 1) := by decide +kernel
theorem dX11_readsOne_5 : decode cX11_readsOne 5 = .ok (.iaload, 1) := by decide +kernel
theorem dX11_readsOne_6 : decode cX11_readsOne 6 = .ok (.istore_n 2, 1) := by decide +kernel
theorem dX11_readsOne_7 : decode cX11_readsOne 7 = .ok (.iload_n 2, 1) := by decide +kernel
theorem dX11_readsOne_8 : decode cX11_readsOne 8 = .ok (.bipush 14, 2) := by decide +kernel
theorem dX11_readsOne_10 : decode cX11_readsOne 10 = .ok (.if_icmp .ne 8, 3) := by decide +kernel
theorem dX11_readsOne_13 : decode cX11_readsOne 13 = .ok (.aload_n 0, 1) := by decide +kernel
theorem dX11_readsOne_14 : decode cX11_readsOne 14 = .ok (.invokevirtual 81, 3) := by decide +kernel
theorem dX11_readsOne_17 : decode cX11_readsOne 17 = .ok (.ireturn, 1) := by decide +kernel
theorem dX11_readsOne_18 : decode cX11_readsOne 18 = .ok (.aload_n 0, 1) := by decide +kernel
theorem dX11_readsOne_19 : decode cX11_readsOne 19 = .ok (.iload_n 2, 1) := by decide +kernel
theorem dX11_readsOne_20 : decode cX11_readsOne 20 = .ok (.ifCond .ne 7, 3) := by decide +kernel
theorem dX11_readsOne_23 : decode cX11_readsOne 23 = .ok (.iconst 0, 1) := by decide +kernel
theorem dX11_readsOne_24 : decode cX11_readsOne 24 = .ok (.goto 15, 3) := by decide +kernel
theorem dX11_readsOne_27 : decode cX11_readsOne 27 = .ok (.aload_n 0, 1) := by decide +kernel
theorem dX11_readsOne_28 : decode cX11_readsOne 28 = .ok (.getfield 32, 3) := by decide +kernel
theorem dX11_readsOne_31 : decode cX11_readsOne 31 = .ok (.iconst 3, 1) := by decide +kernel
theorem dX11_readsOne_32 : decode cX11_readsOne 32 = .ok (.iload_n 2, 1) := by decide +kernel
theorem dX11_readsOne_33 : decode cX11_readsOne 33 = .ok (.iadd, 1) := by decide +kernel
theorem dX11_readsOne_34 : decode cX11_readsOne 34 = .ok (.iconst 1, 1) := by decide +kernel
theorem dX11_readsOne_35 : decode cX11_readsOne 35 = .ok (.isub, 1) := by decide +kernel
theorem dX11_readsOne_36 : decode cX11_readsOne 36 = .ok (.iaload, 1) := by decide +kernel
theorem dX11_readsOne_37 : decode cX11_readsOne 37 = .ok (.iconst 1, 1) := by decide +kernel
theorem dX11_readsOne_38 : decode cX11_readsOne 38 = .ok (.iadd, 1) := by decide +kernel
theorem dX11_readsOne_39 : decode cX11_readsOne 39 = .ok (.sipush 999, 3) := by decide +kernel
theorem dX11_readsOne_42 : decode cX11_readsOne 42 = .ok (.invokevirtual 91, 3) := by decide +kernel
theorem dX11_readsOne_45 : decode cX11_readsOne 45 = .ok (.ifCond .ne 5, 3) := by decide +kernel
theorem dX11_readsOne_48 : decode cX11_readsOne 48 = .ok (.iconst 0, 1) := by decide +kernel
theorem dX11_readsOne_49 : decode cX11_readsOne 49 = .ok (.ireturn, 1) := by decide +kernel
theorem dX11_readsOne_50 : decode cX11_readsOne 50 = .ok (.aload_n 0, 1) := by decide +kernel
theorem dX11_readsOne_51 : decode cX11_readsOne 51 = .ok (.getfield 32, 3) := by decide +kernel
theorem dX11_readsOne_54 : decode cX11_readsOne 54 = .ok (.iconst 3, 1) := by decide +kernel
theorem dX11_readsOne_55 : decode cX11_readsOne 55 = .ok (.iload_n 2, 1) := by decide +kernel
theorem dX11_readsOne_56 : decode cX11_readsOne 56 = .ok (.iadd, 1) := by decide +kernel
theorem dX11_readsOne_57 : decode cX11_readsOne 57 = .ok (.aload_n 0, 1) := by decide +kernel
theorem dX11_readsOne_58 : decode cX11_readsOne 58 = .ok (.getfield 72, 3) := by decide +kernel
theorem dX11_readsOne_61 : decode cX11_readsOne 61 = .ok (.iastore, 1) := by decide +kernel
theorem dX11_readsOne_62 : decode cX11_readsOne 62 = .ok (.aload_n 0, 1) := by decide +kernel
theorem dX11_readsOne_63 : decode cX11_readsOne 63 = .ok (.getfield 32, 3) := by decide +kernel
theorem dX11_readsOne_66 : decode cX11_readsOne 66 = .ok (.bipush 17, 2) := by decide +kernel
theorem dX11_readsOne_68 : decode cX11_readsOne 68 = .ok (.iload_n 2, 1) := by decide +kernel
theorem dX11_readsOne_69 : decode cX11_readsOne 69 = .ok (.iadd, 1) := by decide +kernel
theorem dX11_readsOne_70 : decode cX11_readsOne 70 = .ok (.bipush (-9), 2) := by decide +kernel
theorem dX11_readsOne_72 : decode cX11_readsOne 72 = .ok (.iastore, 1) := by decide +kernel
theorem dX11_readsOne_73 : decode cX11_readsOne 73 = .ok (.iload_n 1, 1) := by decide +kernel
theorem dX11_readsOne_74 : decode cX11_readsOne 74 = .ok (.ifCond .eq 29, 3) := by decide +kernel
theorem dX11_readsOne_77 : decode cX11_readsOne 77 = .ok (.aload_n 0, 1) := by decide +kernel
theorem dX11_readsOne_78 : decode cX11_readsOne 78 = .ok (.iconst 0, 1) := by decide +kernel
theorem dX11_readsOne_79 : decode cX11_readsOne 79 = .ok (.sipush 999, 3) := by decide +kernel
theorem dX11_readsOne_82 : decode cX11_readsOne 82 = .ok (.invokevirtual 91, 3) := by decide +kernel
theorem dX11_readsOne_85 : decode cX11_readsOne 85 = .ok (.ifCond .ne 5, 3) := by decide +kernel
theorem dX11_readsOne_88 : decode cX11_readsOne 88 = .ok (.iconst 0, 1) := by decide +kernel
theorem dX11_readsOne_89 : decode cX11_readsOne 89 = .ok (.ireturn, 1) := by decide +kernel
theorem dX11_readsOne_90 : decode cX11_readsOne 90 = .ok (.aload_n 0, 1) := by decide +kernel
theorem dX11_readsOne_91 : decode cX11_readsOne 91 = .ok (.getfield 32, 3) := by decide +kernel
theorem dX11_readsOne_94 : decode cX11_readsOne 94 = .ok (.bipush 17, 2) := by decide +kernel
theorem dX11_readsOne_96 : decode cX11_readsOne 96 = .ok (.iload_n 2, 1) := by decide +kernel
theorem dX11_readsOne_97 : decode cX11_readsOne 97 = .ok (.iadd, 1) := by decide +kernel
theorem dX11_readsOne_98 : decode cX11_readsOne 98 = .ok (.aload_n 0, 1) := by decide +kernel
theorem dX11_readsOne_99 : decode cX11_readsOne 99 = .ok (.getfield 72, 3) := by decide +kernel
theorem dX11_readsOne_102 : decode cX11_readsOne 102 = .ok (.iastore, 1) := by decide +kernel
theorem dX11_readsOne_103 : decode cX11_readsOne 103 = .ok (.aload_n 0, 1) := by decide +kernel
theorem dX11_readsOne_104 : decode cX11_readsOne 104 = .ok (.getfield 32, 3) := by decide +kernel
theorem dX11_readsOne_107 : decode cX11_readsOne 107 = .ok (.iconst 0, 1) := by decide +kernel
theorem dX11_readsOne_108 : decode cX11_readsOne 108 = .ok (.dup2, 1) := by decide +kernel
theorem dX11_readsOne_109 : decode cX11_readsOne 109 = .ok (.iaload, 1) := by decide +kernel
theorem dX11_readsOne_110 : decode cX11_readsOne 110 = .ok (.iconst 1, 1) := by decide +kernel
theorem dX11_readsOne_111 : decode cX11_readsOne 111 = .ok (.iadd, 1) := by decide +kernel
theorem dX11_readsOne_112 : decode cX11_readsOne 112 = .ok (.iastore, 1) := by decide +kernel
theorem dX11_readsOne_113 : decode cX11_readsOne 113 = .ok (.aload_n 0, 1) := by decide +kernel
theorem dX11_readsOne_114 : decode cX11_readsOne 114 = .ok (.invokevirtual 94, 3) := by decide +kernel
theorem dX11_readsOne_117 : decode cX11_readsOne 117 = .ok (.ireturn, 1) := by decide +kernel
theorem dX11_readsItem_0 : decode cX11_readsItem 0 = .ok (.aload_n 0, 1) := by decide +kernel
theorem dX11_readsItem_1 : decode cX11_readsItem 1 = .ok (.invokevirtual 78, 3) := by decide +kernel
theorem dX11_readsItem_4 : decode cX11_readsItem 4 = .ok (.aload_n 0, 1) := by decide +kernel
theorem dX11_readsItem_5 : decode cX11_readsItem 5 = .ok (.getfield 65, 3) := by decide +kernel
theorem dX11_readsItem_8 : decode cX11_readsItem 8 = .ok (.lookupswitch 74 #[(100, 53), (112, 44), (114, 62), (117, 68)], 44) := by decide +kernel
theorem dX11_readsItem_52 : decode cX11_readsItem 52 = .ok (.aload_n 0, 1) := by decide +kernel
theorem dX11_readsItem_53 : decode cX11_readsItem 53 = .ok (.iconst 1, 1) := by decide +kernel
theorem dX11_readsItem_54 : decode cX11_readsItem 54 = .ok (.iconst 0, 1) := by decide +kernel
theorem dX11_readsItem_55 : decode cX11_readsItem 55 = .ok (.bipush 99, 2) := by decide +kernel
theorem dX11_readsItem_57 : decode cX11_readsItem 57 = .ok (.invokevirtual 97, 3) := by decide +kernel
theorem dX11_readsItem_60 : decode cX11_readsItem 60 = .ok (.ireturn, 1) := by decide +kernel
theorem dX11_readsItem_61 : decode cX11_readsItem 61 = .ok (.aload_n 0, 1) := by decide +kernel
theorem dX11_readsItem_62 : decode cX11_readsItem 62 = .ok (.iconst 2, 1) := by decide +kernel
theorem dX11_readsItem_63 : decode cX11_readsItem 63 = .ok (.iconst 1, 1) := by decide +kernel
theorem dX11_readsItem_64 : decode cX11_readsItem 64 = .ok (.bipush 14, 2) := by decide +kernel
theorem dX11_readsItem_66 : decode cX11_readsItem 66 = .ok (.invokevirtual 97, 3) := by decide +kernel
theorem dX11_readsItem_69 : decode cX11_readsItem 69 = .ok (.ireturn, 1) := by decide +kernel
theorem dX11_readsItem_70 : decode cX11_readsItem 70 = .ok (.aload_n 0, 1) := by decide +kernel
theorem dX11_readsItem_71 : decode cX11_readsItem 71 = .ok (.iconst 1, 1) := by decide +kernel
theorem dX11_readsItem_72 : decode cX11_readsItem 72 = .ok (.invokevirtual 100, 3) := by decide +kernel
theorem dX11_readsItem_75 : decode cX11_readsItem 75 = .ok (.ireturn, 1) := by decide +kernel
theorem dX11_readsItem_76 : decode cX11_readsItem 76 = .ok (.aload_n 0, 1) := by decide +kernel
theorem dX11_readsItem_77 : decode cX11_readsItem 77 = .ok (.iconst 0, 1) := by decide +kernel
theorem dX11_readsItem_78 : decode cX11_readsItem 78 = .ok (.invokevirtual 100, 3) := by decide +kernel
theorem dX11_readsItem_81 : decode cX11_readsItem 81 = .ok (.ireturn, 1) := by decide +kernel
theorem dX11_readsItem_82 : decode cX11_readsItem 82 = .ok (.aload_n 0, 1) := by decide +kernel
theorem dX11_readsItem_83 : decode cX11_readsItem 83 = .ok (.invokevirtual 81, 3) := by decide +kernel
theorem dX11_readsItem_86 : decode cX11_readsItem 86 = .ok (.ireturn, 1) := by decide +kernel
theorem dX11_readings_0 : decode cX11_readings 0 = .ok (.aload_n 0, 1) := by decide +kernel
theorem dX11_readings_1 : decode cX11_readings 1 = .ok (.getfield 32, 3) := by decide +kernel
theorem dX11_readings_4 : decode cX11_readings 4 = .ok (.invokestatic 44, 3) := by decide +kernel
theorem dX11_readings_7 : decode cX11_readings 7 = .ok (.aload_n 0, 1) := by decide +kernel
theorem dX11_readings_8 : decode cX11_readings 8 = .ok (.iconst 0, 1) := by decide +kernel
theorem dX11_readings_9 : decode cX11_readings 9 = .ok (.putfield 84, 3) := by decide +kernel
theorem dX11_readings_12 : decode cX11_readings 12 = .ok (.aload_n 0, 1) := by decide +kernel
theorem dX11_readings_13 : decode cX11_readings 13 = .ok (.iconst 0, 1) := by decide +kernel
theorem dX11_readings_14 : decode cX11_readings 14 = .ok (.putfield 56, 3) := by decide +kernel
theorem dX11_readings_17 : decode cX11_readings 17 = .ok (.iconst 0, 1) := by decide +kernel
theorem dX11_readings_18 : decode cX11_readings 18 = .ok (.istore_n 1, 1) := by decide +kernel
theorem dX11_readings_19 : decode cX11_readings 19 = .ok (.aload_n 0, 1) := by decide +kernel
theorem dX11_readings_20 : decode cX11_readings 20 = .ok (.invokevirtual 59, 3) := by decide +kernel
theorem dX11_readings_23 : decode cX11_readings 23 = .ok (.aload_n 0, 1) := by decide +kernel
theorem dX11_readings_24 : decode cX11_readings 24 = .ok (.getfield 56, 3) := by decide +kernel
theorem dX11_readings_27 : decode cX11_readings 27 = .ok (.aload_n 0, 1) := by decide +kernel
theorem dX11_readings_28 : decode cX11_readings 28 = .ok (.getfield 52, 3) := by decide +kernel
theorem dX11_readings_31 : decode cX11_readings 31 = .ok (.if_icmp .ge 28, 3) := by decide +kernel
theorem dX11_readings_34 : decode cX11_readings 34 = .ok (.aload_n 0, 1) := by decide +kernel
theorem dX11_readings_35 : decode cX11_readings 35 = .ok (.invokevirtual 104, 3) := by decide +kernel
theorem dX11_readings_38 : decode cX11_readings 38 = .ok (.ifCond .ne 11, 3) := by decide +kernel
theorem dX11_readings_41 : decode cX11_readings 41 = .ok (.bipush (-10), 2) := by decide +kernel
theorem dX11_readings_43 : decode cX11_readings 43 = .ok (.aload_n 0, 1) := by decide +kernel
theorem dX11_readings_44 : decode cX11_readings 44 = .ok (.getfield 75, 3) := by decide +kernel
theorem dX11_readings_47 : decode cX11_readings 47 = .ok (.isub, 1) := by decide +kernel
theorem dX11_readings_48 : decode cX11_readings 48 = .ok (.ireturn, 1) := by decide +kernel
theorem dX11_readings_49 : decode cX11_readings 49 = .ok (.iinc 1 1, 3) := by decide +kernel
theorem dX11_readings_52 : decode cX11_readings 52 = .ok (.aload_n 0, 1) := by decide +kernel
theorem dX11_readings_53 : decode cX11_readings 53 = .ok (.invokevirtual 59, 3) := by decide +kernel
theorem dX11_readings_56 : decode cX11_readings 56 = .ok (.goto (-33), 3) := by decide +kernel
theorem dX11_readings_59 : decode cX11_readings 59 = .ok (.aload_n 0, 1) := by decide +kernel
theorem dX11_readings_60 : decode cX11_readings 60 = .ok (.iconst 0, 1) := by decide +kernel
theorem dX11_readings_61 : decode cX11_readings 61 = .ok (.putfield 52, 3) := by decide +kernel
theorem dX11_readings_64 : decode cX11_readings 64 = .ok (.iconst 0, 1) := by decide +kernel
theorem dX11_readings_65 : decode cX11_readings 65 = .ok (.istore_n 2, 1) := by decide +kernel
theorem dX11_readings_66 : decode cX11_readings 66 = .ok (.iload_n 2, 1) := by decide +kernel
theorem dX11_readings_67 : decode cX11_readings 67 = .ok (.bipush 31, 2) := by decide +kernel
theorem dX11_readings_69 : decode cX11_readings 69 = .ok (.if_icmp .ge 21, 3) := by decide +kernel
theorem dX11_readings_72 : decode cX11_readings 72 = .ok (.aload_n 0, 1) := by decide +kernel
theorem dX11_readings_73 : decode cX11_readings 73 = .ok (.getfield 7, 3) := by decide +kernel
theorem dX11_readings_76 : decode cX11_readings 76 = .ok (.iload_n 2, 1) := by decide +kernel
theorem dX11_readings_77 : decode cX11_readings 77 = .ok (.aload_n 0, 1) := by decide +kernel
theorem dX11_readings_78 : decode cX11_readings 78 = .ok (.getfield 32, 3) := by decide +kernel
theorem dX11_readings_81 : decode cX11_readings 81 = .ok (.iload_n 2, 1) := by decide +kernel
theorem dX11_readings_82 : decode cX11_readings 82 = .ok (.iaload, 1) := by decide +kernel
theorem dX11_readings_83 : decode cX11_readings 83 = .ok (.iastore, 1) := by decide +kernel
theorem dX11_readings_84 : decode cX11_readings 84 = .ok (.iinc 2 1, 3) := by decide +kernel
theorem dX11_readings_87 : decode cX11_readings 87 = .ok (.goto (-21), 3) := by decide +kernel
theorem dX11_readings_90 : decode cX11_readings 90 = .ok (.aload_n 0, 1) := by decide +kernel
theorem dX11_readings_91 : decode cX11_readings 91 = .ok (.iconst 0, 1) := by decide +kernel
theorem dX11_readings_92 : decode cX11_readings 92 = .ok (.putfield 107, 3) := by decide +kernel
theorem dX11_readings_95 : decode cX11_readings 95 = .ok (.aload_n 0, 1) := by decide +kernel
theorem dX11_readings_96 : decode cX11_readings 96 = .ok (.iconst 0, 1) := by decide +kernel
theorem dX11_readings_97 : decode cX11_readings 97 = .ok (.putfield 110, 3) := by decide +kernel
theorem dX11_readings_100 : decode cX11_readings 100 = .ok (.aload_n 0, 1) := by decide +kernel
theorem dX11_readings_101 : decode cX11_readings 101 = .ok (.getfield 22, 3) := by decide +kernel
theorem dX11_readings_104 : decode cX11_readings 104 = .ok (.iconst 0, 1) := by decide +kernel
theorem dX11_readings_105 : decode cX11_readings 105 = .ok (.iconst 0, 1) := by decide +kernel
theorem dX11_readings_106 : decode cX11_readings 106 = .ok (.bastore, 1) := by decide +kernel
theorem dX11_readings_107 : decode cX11_readings 107 = .ok (.aload_n 0, 1) := by decide +kernel
theorem dX11_readings_108 : decode cX11_readings 108 = .ok (.getfield 22, 3) := by decide +kernel
theorem dX11_readings_111 : decode cX11_readings 111 = .ok (.iconst 1, 1) := by decide +kernel
theorem dX11_readings_112 : decode cX11_readings 112 = .ok (.iconst 0, 1) := by decide +kernel
theorem dX11_readings_113 : decode cX11_readings 113 = .ok (.bastore, 1) := by decide +kernel
theorem dX11_readings_114 : decode cX11_readings 114 = .ok (.iload_n 1, 1) := by decide +kernel
theorem dX11_readings_115 : decode cX11_readings 115 = .ok (.ireturn, 1) := by decide +kernel
theorem dX11_isReading_0 : decode cX11_isReading 0 = .ok (.iload_n 1, 1) := by decide +kernel
theorem dX11_isReading_1 : decode cX11_isReading 1 = .ok (.iconst 0, 1) := by decide +kernel
theorem dX11_isReading_2 : decode cX11_isReading 2 = .ok (.aload_n 0, 1) := by decide +kernel
theorem dX11_isReading_3 : decode cX11_isReading 3 = .ok (.getfield 7, 3) := by decide +kernel
theorem dX11_isReading_6 : decode cX11_isReading 6 = .ok (.iconst 0, 1) := by decide +kernel
theorem dX11_isReading_7 : decode cX11_isReading 7 = .ok (.iaload, 1) := by decide +kernel
theorem dX11_isReading_8 : decode cX11_isReading 8 = .ok (.iconst 1, 1) := by decide +kernel
theorem dX11_isReading_9 : decode cX11_isReading 9 = .ok (.isub, 1) := by decide +kernel
theorem dX11_isReading_10 : decode cX11_isReading 10 = .ok (.invokestatic 48, 3) := by decide +kernel
theorem dX11_isReading_13 : decode cX11_isReading 13 = .ok (.ireturn, 1) := by decide +kernel
theorem dX11_isKnown_0 : decode cX11_isKnown 0 = .ok (.aload_n 0, 1) := by decide +kernel
theorem dX11_isKnown_1 : decode cX11_isKnown 1 = .ok (.iload_n 1, 1) := by decide +kernel
theorem dX11_isKnown_2 : decode cX11_isKnown 2 = .ok (.invokevirtual 113, 3) := by decide +kernel
theorem dX11_isKnown_5 : decode cX11_isKnown 5 = .ok (.ifCond .eq 21, 3) := by decide +kernel
theorem dX11_isKnown_8 : decode cX11_isKnown 8 = .ok (.aload_n 0, 1) := by decide +kernel
theorem dX11_isKnown_9 : decode cX11_isKnown 9 = .ok (.getfield 7, 3) := by decide +kernel
theorem dX11_isKnown_12 : decode cX11_isKnown 12 = .ok (.bipush 17, 2) := by decide +kernel
theorem dX11_isKnown_14 : decode cX11_isKnown 14 = .ok (.iload_n 1, 1) := by decide +kernel
theorem dX11_isKnown_15 : decode cX11_isKnown 15 = .ok (.iadd, 1) := by decide +kernel
theorem dX11_isKnown_16 : decode cX11_isKnown 16 = .ok (.iaload, 1) := by decide +kernel
theorem dX11_isKnown_17 : decode cX11_isKnown 17 = .ok (.bipush (-9), 2) := by decide +kernel
theorem dX11_isKnown_19 : decode cX11_isKnown 19 = .ok (.if_icmp .eq 7, 3) := by decide +kernel
theorem dX11_isKnown_22 : decode cX11_isKnown 22 = .ok (.iconst 1, 1) := by decide +kernel
theorem dX11_isKnown_23 : decode cX11_isKnown 23 = .ok (.goto 4, 3) := by decide +kernel
theorem dX11_isKnown_26 : decode cX11_isKnown 26 = .ok (.iconst 0, 1) := by decide +kernel
theorem dX11_isKnown_27 : decode cX11_isKnown 27 = .ok (.ireturn, 1) := by decide +kernel
theorem dX11_remember_0 : decode cX11_remember 0 = .ok (.iconst 0, 1) := by decide +kernel
theorem dX11_remember_1 : decode cX11_remember 1 = .ok (.istore_n 1, 1) := by decide +kernel
theorem dX11_remember_2 : decode cX11_remember 2 = .ok (.iload_n 1, 1) := by decide +kernel
theorem dX11_remember_3 : decode cX11_remember 3 = .ok (.bipush 31, 2) := by decide +kernel
theorem dX11_remember_5 : decode cX11_remember 5 = .ok (.if_icmp .ge 29, 3) := by decide +kernel
theorem dX11_remember_8 : decode cX11_remember 8 = .ok (.aload_n 0, 1) := by decide +kernel
theorem dX11_remember_9 : decode cX11_remember 9 = .ok (.getfield 13, 3) := by decide +kernel
theorem dX11_remember_12 : decode cX11_remember 12 = .ok (.bipush 31, 2) := by decide +kernel
theorem dX11_remember_14 : decode cX11_remember 14 = .ok (.aload_n 0, 1) := by decide +kernel
theorem dX11_remember_15 : decode cX11_remember 15 = .ok (.getfield 117, 3) := by decide +kernel
theorem dX11_remember_18 : decode cX11_remember 18 = .ok (.imul, 1) := by decide +kernel
theorem dX11_remember_19 : decode cX11_remember 19 = .ok (.iload_n 1, 1) := by decide +kernel
theorem dX11_remember_20 : decode cX11_remember 20 = .ok (.iadd, 1) := by decide +kernel
theorem dX11_remember_21 : decode cX11_remember 21 = .ok (.aload_n 0, 1) := by decide +kernel
theorem dX11_remember_22 : decode cX11_remember 22 = .ok (.getfield 7, 3) := by decide +kernel
theorem dX11_remember_25 : decode cX11_remember 25 = .ok (.iload_n 1, 1) := by decide +kernel
theorem dX11_remember_26 : decode cX11_remember 26 = .ok (.iaload, 1) := by decide +kernel
theorem dX11_remember_27 : decode cX11_remember 27 = .ok (.iastore, 1) := by decide +kernel
theorem dX11_remember_28 : decode cX11_remember 28 = .ok (.iinc 1 1, 3) := by decide +kernel
theorem dX11_remember_31 : decode cX11_remember 31 = .ok (.goto (-29), 3) := by decide +kernel
theorem dX11_remember_34 : decode cX11_remember 34 = .ok (.aload_n 0, 1) := by decide +kernel
theorem dX11_remember_35 : decode cX11_remember 35 = .ok (.aload_n 0, 1) := by decide +kernel
theorem dX11_remember_36 : decode cX11_remember 36 = .ok (.getfield 117, 3) := by decide +kernel
theorem dX11_remember_39 : decode cX11_remember 39 = .ok (.iconst 1, 1) := by decide +kernel
theorem dX11_remember_40 : decode cX11_remember 40 = .ok (.iadd, 1) := by decide +kernel
theorem dX11_remember_41 : decode cX11_remember 41 = .ok (.bipush 10, 2) := by decide +kernel
theorem dX11_remember_43 : decode cX11_remember 43 = .ok (.irem, 1) := by decide +kernel
theorem dX11_remember_44 : decode cX11_remember 44 = .ok (.putfield 117, 3) := by decide +kernel
theorem dX11_remember_47 : decode cX11_remember 47 = .ok (.aload_n 0, 1) := by decide +kernel
theorem dX11_remember_48 : decode cX11_remember 48 = .ok (.dup, 1) := by decide +kernel
theorem dX11_remember_49 : decode cX11_remember 49 = .ok (.getfield 107, 3) := by decide +kernel
theorem dX11_remember_52 : decode cX11_remember 52 = .ok (.aload_n 0, 1) := by decide +kernel
theorem dX11_remember_53 : decode cX11_remember 53 = .ok (.getfield 107, 3) := by decide +kernel
theorem dX11_remember_56 : decode cX11_remember 56 = .ok (.bipush 10, 2) := by decide +kernel
theorem dX11_remember_58 : decode cX11_remember 58 = .ok (.if_icmp .ge 7, 3) := by decide +kernel
theorem dX11_remember_61 : decode cX11_remember 61 = .ok (.iconst 1, 1) := by decide +kernel
theorem dX11_remember_62 : decode cX11_remember 62 = .ok (.goto 4, 3) := by decide +kernel
theorem dX11_remember_65 : decode cX11_remember 65 = .ok (.iconst 0, 1) := by decide +kernel
theorem dX11_remember_66 : decode cX11_remember 66 = .ok (.iadd, 1) := by decide +kernel
theorem dX11_remember_67 : decode cX11_remember 67 = .ok (.putfield 107, 3) := by decide +kernel
theorem dX11_remember_70 : decode cX11_remember 70 = .ok (.return_, 1) := by decide +kernel
theorem dX11_comes_0 : decode cX11_comes 0 = .ok (.aload_n 0, 1) := by decide +kernel
theorem dX11_comes_1 : decode cX11_comes 1 = .ok (.getfield 7, 3) := by decide +kernel
theorem dX11_comes_4 : decode cX11_comes 4 = .ok (.iconst 0, 1) := by decide +kernel
theorem dX11_comes_5 : decode cX11_comes 5 = .ok (.iaload, 1) := by decide +kernel
theorem dX11_comes_6 : decode cX11_comes 6 = .ok (.istore_n 3, 1) := by decide +kernel
theorem dX11_comes_7 : decode cX11_comes 7 = .ok (.iload_n 3, 1) := by decide +kernel
theorem dX11_comes_8 : decode cX11_comes 8 = .ok (.ifCond .le 20, 3) := by decide +kernel
theorem dX11_comes_11 : decode cX11_comes 11 = .ok (.iload_n 1, 1) := by decide +kernel
theorem dX11_comes_12 : decode cX11_comes 12 = .ok (.aload_n 0, 1) := by decide +kernel
theorem dX11_comes_13 : decode cX11_comes 13 = .ok (.getfield 7, 3) := by decide +kernel
theorem dX11_comes_16 : decode cX11_comes 16 = .ok (.iconst 3, 1) := by decide +kernel
theorem dX11_comes_17 : decode cX11_comes 17 = .ok (.iload_n 3, 1) := by decide +kernel
theorem dX11_comes_18 : decode cX11_comes 18 = .ok (.iadd, 1) := by decide +kernel
theorem dX11_comes_19 : decode cX11_comes 19 = .ok (.iconst 1, 1) := by decide +kernel
theorem dX11_comes_20 : decode cX11_comes 20 = .ok (.isub, 1) := by decide +kernel
theorem dX11_comes_21 : decode cX11_comes 21 = .ok (.iaload, 1) := by decide +kernel
theorem dX11_comes_22 : decode cX11_comes 22 = .ok (.if_icmp .gt 6, 3) := by decide +kernel
theorem dX11_comes_25 : decode cX11_comes 25 = .ok (.bipush (-2), 2) := by decide +kernel
theorem dX11_comes_27 : decode cX11_comes 27 = .ok (.ireturn, 1) := by decide +kernel
theorem dX11_comes_28 : decode cX11_comes 28 = .ok (.iload_n 3, 1) := by decide +kernel
theorem dX11_comes_29 : decode cX11_comes 29 = .ok (.bipush 14, 2) := by decide +kernel
theorem dX11_comes_31 : decode cX11_comes 31 = .ok (.if_icmp .ne 6, 3) := by decide +kernel
theorem dX11_comes_34 : decode cX11_comes 34 = .ok (.bipush (-3), 2) := by decide +kernel
theorem dX11_comes_36 : decode cX11_comes 36 = .ok (.ireturn, 1) := by decide +kernel
theorem dX11_comes_37 : decode cX11_comes 37 = .ok (.aload_n 0, 1) := by decide +kernel
theorem dX11_comes_38 : decode cX11_comes 38 = .ok (.invokevirtual 120, 3) := by decide +kernel
theorem dX11_comes_41 : decode cX11_comes 41 = .ok (.aload_n 0, 1) := by decide +kernel
theorem dX11_comes_42 : decode cX11_comes 42 = .ok (.getfield 7, 3) := by decide +kernel
theorem dX11_comes_45 : decode cX11_comes 45 = .ok (.iconst 3, 1) := by decide +kernel
theorem dX11_comes_46 : decode cX11_comes 46 = .ok (.iload_n 3, 1) := by decide +kernel
theorem dX11_comes_47 : decode cX11_comes 47 = .ok (.iadd, 1) := by decide +kernel
theorem dX11_comes_48 : decode cX11_comes 48 = .ok (.iload_n 1, 1) := by decide +kernel
theorem dX11_comes_49 : decode cX11_comes 49 = .ok (.iastore, 1) := by decide +kernel
theorem dX11_comes_50 : decode cX11_comes 50 = .ok (.aload_n 0, 1) := by decide +kernel
theorem dX11_comes_51 : decode cX11_comes 51 = .ok (.getfield 7, 3) := by decide +kernel
theorem dX11_comes_54 : decode cX11_comes 54 = .ok (.bipush 17, 2) := by decide +kernel
theorem dX11_comes_56 : decode cX11_comes 56 = .ok (.iload_n 3, 1) := by decide +kernel
theorem dX11_comes_57 : decode cX11_comes 57 = .ok (.iadd, 1) := by decide +kernel
theorem dX11_comes_58 : decode cX11_comes 58 = .ok (.iload_n 2, 1) := by decide +kernel
theorem dX11_comes_59 : decode cX11_comes 59 = .ok (.iastore, 1) := by decide +kernel
theorem dX11_comes_60 : decode cX11_comes 60 = .ok (.aload_n 0, 1) := by decide +kernel
theorem dX11_comes_61 : decode cX11_comes 61 = .ok (.getfield 7, 3) := by decide +kernel
theorem dX11_comes_64 : decode cX11_comes 64 = .ok (.iconst 0, 1) := by decide +kernel
theorem dX11_comes_65 : decode cX11_comes 65 = .ok (.dup2, 1) := by decide +kernel
theorem dX11_comes_66 : decode cX11_comes 66 = .ok (.iaload, 1) := by decide +kernel
theorem dX11_comes_67 : decode cX11_comes 67 = .ok (.iconst 1, 1) := by decide +kernel
theorem dX11_comes_68 : decode cX11_comes 68 = .ok (.iadd, 1) := by decide +kernel
theorem dX11_comes_69 : decode cX11_comes 69 = .ok (.iastore, 1) := by decide +kernel
theorem dX11_comes_70 : decode cX11_comes 70 = .ok (.iload_n 3, 1) := by decide +kernel
theorem dX11_comes_71 : decode cX11_comes 71 = .ok (.ireturn, 1) := by decide +kernel
theorem dX11_adds_0 : decode cX11_adds 0 = .ok (.iload_n 1, 1) := by decide +kernel
theorem dX11_adds_1 : decode cX11_adds 1 = .ok (.iconst 0, 1) := by decide +kernel
theorem dX11_adds_2 : decode cX11_adds 2 = .ok (.sipush 999, 3) := by decide +kernel
theorem dX11_adds_5 : decode cX11_adds 5 = .ok (.invokestatic 48, 3) := by decide +kernel
theorem dX11_adds_8 : decode cX11_adds 8 = .ok (.ifCond .eq 23, 3) := by decide +kernel
theorem dX11_adds_11 : decode cX11_adds 11 = .ok (.iload_n 2, 1) := by decide +kernel
theorem dX11_adds_12 : decode cX11_adds 12 = .ok (.iconst 0, 1) := by decide +kernel
theorem dX11_adds_13 : decode cX11_adds 13 = .ok (.sipush 999, 3) := by decide +kernel
theorem dX11_adds_16 : decode cX11_adds 16 = .ok (.invokestatic 48, 3) := by decide +kernel
theorem dX11_adds_19 : decode cX11_adds 19 = .ok (.ifCond .eq 12, 3) := by decide +kernel
theorem dX11_adds_22 : decode cX11_adds 22 = .ok (.aload_n 0, 1) := by decide +kernel
theorem dX11_adds_23 : decode cX11_adds 23 = .ok (.iload_n 1, 1) := by decide +kernel
theorem dX11_adds_24 : decode cX11_adds 24 = .ok (.iload_n 2, 1) := by decide +kernel
theorem dX11_adds_25 : decode cX11_adds 25 = .ok (.invokevirtual 123, 3) := by decide +kernel
theorem dX11_adds_28 : decode cX11_adds 28 = .ok (.goto 4, 3) := by decide +kernel
theorem dX11_adds_31 : decode cX11_adds 31 = .ok (.iconst (-1), 1) := by decide +kernel
theorem dX11_adds_32 : decode cX11_adds 32 = .ok (.ireturn, 1) := by decide +kernel
theorem dX11_misses_0 : decode cX11_misses 0 = .ok (.iload_n 1, 1) := by decide +kernel
theorem dX11_misses_1 : decode cX11_misses 1 = .ok (.iconst 0, 1) := by decide +kernel
theorem dX11_misses_2 : decode cX11_misses 2 = .ok (.sipush 999, 3) := by decide +kernel
theorem dX11_misses_5 : decode cX11_misses 5 = .ok (.invokestatic 48, 3) := by decide +kernel
theorem dX11_misses_8 : decode cX11_misses 8 = .ok (.ifCond .eq 13, 3) := by decide +kernel
theorem dX11_misses_11 : decode cX11_misses 11 = .ok (.aload_n 0, 1) := by decide +kernel
theorem dX11_misses_12 : decode cX11_misses 12 = .ok (.iload_n 1, 1) := by decide +kernel
theorem dX11_misses_13 : decode cX11_misses 13 = .ok (.bipush (-9), 2) := by decide +kernel
theorem dX11_misses_15 : decode cX11_misses 15 = .ok (.invokevirtual 123, 3) := by decide +kernel
theorem dX11_misses_18 : decode cX11_misses 18 = .ok (.goto 4, 3) := by decide +kernel
theorem dX11_misses_21 : decode cX11_misses 21 = .ok (.iconst (-1), 1) := by decide +kernel
theorem dX11_misses_22 : decode cX11_misses 22 = .ok (.ireturn, 1) := by decide +kernel
theorem dX11_strikes_0 : decode cX11_strikes 0 = .ok (.aload_n 0, 1) := by decide +kernel
theorem dX11_strikes_1 : decode cX11_strikes 1 = .ok (.iload_n 1, 1) := by decide +kernel
theorem dX11_strikes_2 : decode cX11_strikes 2 = .ok (.invokevirtual 113, 3) := by decide +kernel
theorem dX11_strikes_5 : decode cX11_strikes 5 = .ok (.ifCond .ne 5, 3) := by decide +kernel
theorem dX11_strikes_8 : decode cX11_strikes 8 = .ok (.iconst (-1), 1) := by decide +kernel
theorem dX11_strikes_9 : decode cX11_strikes 9 = .ok (.ireturn, 1) := by decide +kernel
theorem dX11_strikes_10 : decode cX11_strikes 10 = .ok (.aload_n 0, 1) := by decide +kernel
theorem dX11_strikes_11 : decode cX11_strikes 11 = .ok (.invokevirtual 120, 3) := by decide +kernel
theorem dX11_strikes_14 : decode cX11_strikes 14 = .ok (.aload_n 0, 1) := by decide +kernel
theorem dX11_strikes_15 : decode cX11_strikes 15 = .ok (.getfield 7, 3) := by decide +kernel
theorem dX11_strikes_18 : decode cX11_strikes 18 = .ok (.iconst 0, 1) := by decide +kernel
theorem dX11_strikes_19 : decode cX11_strikes 19 = .ok (.dup2, 1) := by decide +kernel
theorem dX11_strikes_20 : decode cX11_strikes 20 = .ok (.iaload, 1) := by decide +kernel
theorem dX11_strikes_21 : decode cX11_strikes 21 = .ok (.iconst 1, 1) := by decide +kernel
theorem dX11_strikes_22 : decode cX11_strikes 22 = .ok (.isub, 1) := by decide +kernel
theorem dX11_strikes_23 : decode cX11_strikes 23 = .ok (.iastore, 1) := by decide +kernel
theorem dX11_strikes_24 : decode cX11_strikes 24 = .ok (.iload_n 1, 1) := by decide +kernel
theorem dX11_strikes_25 : decode cX11_strikes 25 = .ok (.istore_n 2, 1) := by decide +kernel
theorem dX11_strikes_26 : decode cX11_strikes 26 = .ok (.iload_n 2, 1) := by decide +kernel
theorem dX11_strikes_27 : decode cX11_strikes 27 = .ok (.aload_n 0, 1) := by decide +kernel
theorem dX11_strikes_28 : decode cX11_strikes 28 = .ok (.getfield 7, 3) := by decide +kernel
theorem dX11_strikes_31 : decode cX11_strikes 31 = .ok (.iconst 0, 1) := by decide +kernel
theorem dX11_strikes_32 : decode cX11_strikes 32 = .ok (.iaload, 1) := by decide +kernel
theorem dX11_strikes_33 : decode cX11_strikes 33 = .ok (.if_icmp .ge 47, 3) := by decide +kernel
theorem dX11_strikes_36 : decode cX11_strikes 36 = .ok (.aload_n 0, 1) := by decide +kernel
theorem dX11_strikes_37 : decode cX11_strikes 37 = .ok (.getfield 7, 3) := by decide +kernel
theorem dX11_strikes_40 : decode cX11_strikes 40 = .ok (.iconst 3, 1) := by decide +kernel
theorem dX11_strikes_41 : decode cX11_strikes 41 = .ok (.iload_n 2, 1) := by decide +kernel
theorem dX11_strikes_42 : decode cX11_strikes 42 = .ok (.iadd, 1) := by decide +kernel
theorem dX11_strikes_43 : decode cX11_strikes 43 = .ok (.aload_n 0, 1) := by decide +kernel
theorem dX11_strikes_44 : decode cX11_strikes 44 = .ok (.getfield 7, 3) := by decide +kernel
theorem dX11_strikes_47 : decode cX11_strikes 47 = .ok (.iconst 3, 1) := by decide +kernel
theorem dX11_strikes_48 : decode cX11_strikes 48 = .ok (.iload_n 2, 1) := by decide +kernel
theorem dX11_strikes_49 : decode cX11_strikes 49 = .ok (.iadd, 1) := by decide +kernel
theorem dX11_strikes_50 : decode cX11_strikes 50 = .ok (.iconst 1, 1) := by decide +kernel
theorem dX11_strikes_51 : decode cX11_strikes 51 = .ok (.iadd, 1) := by decide +kernel
theorem dX11_strikes_52 : decode cX11_strikes 52 = .ok (.iaload, 1) := by decide +kernel
theorem dX11_strikes_53 : decode cX11_strikes 53 = .ok (.iastore, 1) := by decide +kernel
theorem dX11_strikes_54 : decode cX11_strikes 54 = .ok (.aload_n 0, 1) := by decide +kernel
theorem dX11_strikes_55 : decode cX11_strikes 55 = .ok (.getfield 7, 3) := by decide +kernel
theorem dX11_strikes_58 : decode cX11_strikes 58 = .ok (.bipush 17, 2) := by decide +kernel
theorem dX11_strikes_60 : decode cX11_strikes 60 = .ok (.iload_n 2, 1) := by decide +kernel
theorem dX11_strikes_61 : decode cX11_strikes 61 = .ok (.iadd, 1) := by decide +kernel
theorem dX11_strikes_62 : decode cX11_strikes 62 = .ok (.aload_n 0, 1) := by decide +kernel
theorem dX11_strikes_63 : decode cX11_strikes 63 = .ok (.getfield 7, 3) := by decide +kernel
theorem dX11_strikes_66 : decode cX11_strikes 66 = .ok (.bipush 17, 2) := by decide +kernel
theorem dX11_strikes_68 : decode cX11_strikes 68 = .ok (.iload_n 2, 1) := by decide +kernel
theorem dX11_strikes_69 : decode cX11_strikes 69 = .ok (.iadd, 1) := by decide +kernel
theorem dX11_strikes_70 : decode cX11_strikes 70 = .ok (.iconst 1, 1) := by decide +kernel
theorem dX11_strikes_71 : decode cX11_strikes 71 = .ok (.iadd, 1) := by decide +kernel
theorem dX11_strikes_72 : decode cX11_strikes 72 = .ok (.iaload, 1) := by decide +kernel
theorem dX11_strikes_73 : decode cX11_strikes 73 = .ok (.iastore, 1) := by decide +kernel
theorem dX11_strikes_74 : decode cX11_strikes 74 = .ok (.iinc 2 1, 3) := by decide +kernel
theorem dX11_strikes_77 : decode cX11_strikes 77 = .ok (.goto (-51), 3) := by decide +kernel
theorem dX11_strikes_80 : decode cX11_strikes 80 = .ok (.aload_n 0, 1) := by decide +kernel
theorem dX11_strikes_81 : decode cX11_strikes 81 = .ok (.getfield 7, 3) := by decide +kernel
theorem dX11_strikes_84 : decode cX11_strikes 84 = .ok (.iconst 0, 1) := by decide +kernel
theorem dX11_strikes_85 : decode cX11_strikes 85 = .ok (.iaload, 1) := by decide +kernel
theorem dX11_strikes_86 : decode cX11_strikes 86 = .ok (.ireturn, 1) := by decide +kernel
theorem dX11_becomes_0 : decode cX11_becomes 0 = .ok (.aload_n 0, 1) := by decide +kernel
theorem dX11_becomes_1 : decode cX11_becomes 1 = .ok (.getfield 7, 3) := by decide +kernel
theorem dX11_becomes_4 : decode cX11_becomes 4 = .ok (.iload_n 1, 1) := by decide +kernel
theorem dX11_becomes_5 : decode cX11_becomes 5 = .ok (.iaload, 1) := by decide +kernel
theorem dX11_becomes_6 : decode cX11_becomes 6 = .ok (.istore_n 3, 1) := by decide +kernel
theorem dX11_becomes_7 : decode cX11_becomes 7 = .ok (.aload_n 0, 1) := by decide +kernel
theorem dX11_becomes_8 : decode cX11_becomes 8 = .ok (.invokevirtual 120, 3) := by decide +kernel
theorem dX11_becomes_11 : decode cX11_becomes 11 = .ok (.aload_n 0, 1) := by decide +kernel
theorem dX11_becomes_12 : decode cX11_becomes 12 = .ok (.getfield 7, 3) := by decide +kernel
theorem dX11_becomes_15 : decode cX11_becomes 15 = .ok (.iload_n 1, 1) := by decide +kernel
theorem dX11_becomes_16 : decode cX11_becomes 16 = .ok (.iload_n 2, 1) := by decide +kernel
theorem dX11_becomes_17 : decode cX11_becomes 17 = .ok (.iastore, 1) := by decide +kernel
theorem dX11_becomes_18 : decode cX11_becomes 18 = .ok (.iload_n 3, 1) := by decide +kernel
theorem dX11_becomes_19 : decode cX11_becomes 19 = .ok (.ireturn, 1) := by decide +kernel
theorem dX11_promises_0 : decode cX11_promises 0 = .ok (.iload_n 1, 1) := by decide +kernel
theorem dX11_promises_1 : decode cX11_promises 1 = .ok (.iconst 0, 1) := by decide +kernel
theorem dX11_promises_2 : decode cX11_promises 2 = .ok (.bipush 99, 2) := by decide +kernel
theorem dX11_promises_4 : decode cX11_promises 4 = .ok (.invokestatic 48, 3) := by decide +kernel
theorem dX11_promises_7 : decode cX11_promises 7 = .ok (.ifCond .eq 12, 3) := by decide +kernel
theorem dX11_promises_10 : decode cX11_promises 10 = .ok (.aload_n 0, 1) := by decide +kernel
theorem dX11_promises_11 : decode cX11_promises 11 = .ok (.iconst 1, 1) := by decide +kernel
theorem dX11_promises_12 : decode cX11_promises 12 = .ok (.iload_n 1, 1) := by decide +kernel
theorem dX11_promises_13 : decode cX11_promises 13 = .ok (.invokevirtual 127, 3) := by decide +kernel
theorem dX11_promises_16 : decode cX11_promises 16 = .ok (.goto 4, 3) := by decide +kernel
theorem dX11_promises_19 : decode cX11_promises 19 = .ok (.iconst (-1), 1) := by decide +kernel
theorem dX11_promises_20 : decode cX11_promises 20 = .ok (.ireturn, 1) := by decide +kernel
theorem dX11_delays_0 : decode cX11_delays 0 = .ok (.iload_n 1, 1) := by decide +kernel
theorem dX11_delays_1 : decode cX11_delays 1 = .ok (.iconst 1, 1) := by decide +kernel
theorem dX11_delays_2 : decode cX11_delays 2 = .ok (.bipush 14, 2) := by decide +kernel
theorem dX11_delays_4 : decode cX11_delays 4 = .ok (.invokestatic 48, 3) := by decide +kernel
theorem dX11_delays_7 : decode cX11_delays 7 = .ok (.ifCond .eq 12, 3) := by decide +kernel
theorem dX11_delays_10 : decode cX11_delays 10 = .ok (.aload_n 0, 1) := by decide +kernel
theorem dX11_delays_11 : decode cX11_delays 11 = .ok (.iconst 2, 1) := by decide +kernel
theorem dX11_delays_12 : decode cX11_delays 12 = .ok (.iload_n 1, 1) := by decide +kernel
theorem dX11_delays_13 : decode cX11_delays 13 = .ok (.invokevirtual 127, 3) := by decide +kernel
theorem dX11_delays_16 : decode cX11_delays 16 = .ok (.goto 4, 3) := by decide +kernel
theorem dX11_delays_19 : decode cX11_delays 19 = .ok (.iconst (-1), 1) := by decide +kernel
theorem dX11_delays_20 : decode cX11_delays 20 = .ok (.ireturn, 1) := by decide +kernel
theorem dX11_undo_0 : decode cX11_undo 0 = .ok (.aload_n 0, 1) := by decide +kernel
theorem dX11_undo_1 : decode cX11_undo 1 = .ok (.getfield 107, 3) := by decide +kernel
theorem dX11_undo_4 : decode cX11_undo 4 = .ok (.ifCond .ne 6, 3) := by decide +kernel
theorem dX11_undo_7 : decode cX11_undo 7 = .ok (.bipush (-2), 2) := by decide +kernel
theorem dX11_undo_9 : decode cX11_undo 9 = .ok (.ireturn, 1) := by decide +kernel
theorem dX11_undo_10 : decode cX11_undo 10 = .ok (.aload_n 0, 1) := by decide +kernel
theorem dX11_undo_11 : decode cX11_undo 11 = .ok (.aload_n 0, 1) := by decide +kernel
theorem dX11_undo_12 : decode cX11_undo 12 = .ok (.getfield 117, 3) := by decide +kernel
theorem dX11_undo_15 : decode cX11_undo 15 = .ok (.bipush 10, 2) := by decide +kernel
theorem dX11_undo_17 : decode cX11_undo 17 = .ok (.iadd, 1) := by decide +kernel
theorem dX11_undo_18 : decode cX11_undo 18 = .ok (.iconst 1, 1) := by decide +kernel
theorem dX11_undo_19 : decode cX11_undo 19 = .ok (.isub, 1) := by decide +kernel
theorem dX11_undo_20 : decode cX11_undo 20 = .ok (.bipush 10, 2) := by decide +kernel
theorem dX11_undo_22 : decode cX11_undo 22 = .ok (.irem, 1) := by decide +kernel
theorem dX11_undo_23 : decode cX11_undo 23 = .ok (.putfield 117, 3) := by decide +kernel
theorem dX11_undo_26 : decode cX11_undo 26 = .ok (.aload_n 0, 1) := by decide +kernel
theorem dX11_undo_27 : decode cX11_undo 27 = .ok (.dup, 1) := by decide +kernel
theorem dX11_undo_28 : decode cX11_undo 28 = .ok (.getfield 107, 3) := by decide +kernel
theorem dX11_undo_31 : decode cX11_undo 31 = .ok (.iconst 1, 1) := by decide +kernel
theorem dX11_undo_32 : decode cX11_undo 32 = .ok (.isub, 1) := by decide +kernel
theorem dX11_undo_33 : decode cX11_undo 33 = .ok (.putfield 107, 3) := by decide +kernel
theorem dX11_undo_36 : decode cX11_undo 36 = .ok (.iconst 0, 1) := by decide +kernel
theorem dX11_undo_37 : decode cX11_undo 37 = .ok (.istore_n 1, 1) := by decide +kernel
theorem dX11_undo_38 : decode cX11_undo 38 = .ok (.iload_n 1, 1) := by decide +kernel
theorem dX11_undo_39 : decode cX11_undo 39 = .ok (.bipush 31, 2) := by decide +kernel
theorem dX11_undo_41 : decode cX11_undo 41 = .ok (.if_icmp .ge 29, 3) := by decide +kernel
theorem dX11_undo_44 : decode cX11_undo 44 = .ok (.aload_n 0, 1) := by decide +kernel
theorem dX11_undo_45 : decode cX11_undo 45 = .ok (.getfield 7, 3) := by decide +kernel
theorem dX11_undo_48 : decode cX11_undo 48 = .ok (.iload_n 1, 1) := by decide +kernel
theorem dX11_undo_49 : decode cX11_undo 49 = .ok (.aload_n 0, 1) := by decide +kernel
theorem dX11_undo_50 : decode cX11_undo 50 = .ok (.getfield 13, 3) := by decide +kernel
theorem dX11_undo_53 : decode cX11_undo 53 = .ok (.bipush 31, 2) := by decide +kernel
theorem dX11_undo_55 : decode cX11_undo 55 = .ok (.aload_n 0, 1) := by decide +kernel
theorem dX11_undo_56 : decode cX11_undo 56 = .ok (.getfield 117, 3) := by decide +kernel
theorem dX11_undo_59 : decode cX11_undo 59 = .ok (.imul, 1) := by decide +kernel
theorem dX11_undo_60 : decode cX11_undo 60 = .ok (.iload_n 1, 1) := by decide +kernel
theorem dX11_undo_61 : decode cX11_undo 61 = .ok (.iadd, 1) := by decide +kernel
theorem dX11_undo_62 : decode cX11_undo 62 = .ok (.iaload, 1) := by decide +kernel
theorem dX11_undo_63 : decode cX11_undo 63 = .ok (.iastore, 1) := by decide +kernel
theorem dX11_undo_64 : decode cX11_undo 64 = .ok (.iinc 1 1, 3) := by decide +kernel
theorem dX11_undo_67 : decode cX11_undo 67 = .ok (.goto (-29), 3) := by decide +kernel
theorem dX11_undo_70 : decode cX11_undo 70 = .ok (.aload_n 0, 1) := by decide +kernel
theorem dX11_undo_71 : decode cX11_undo 71 = .ok (.getfield 107, 3) := by decide +kernel
theorem dX11_undo_74 : decode cX11_undo 74 = .ok (.ireturn, 1) := by decide +kernel
theorem dX11_isFirst_0 : decode cX11_isFirst 0 = .ok (.aload_n 0, 1) := by decide +kernel
theorem dX11_isFirst_1 : decode cX11_isFirst 1 = .ok (.iload_n 1, 1) := by decide +kernel
theorem dX11_isFirst_2 : decode cX11_isFirst 2 = .ok (.invokevirtual 130, 3) := by decide +kernel
theorem dX11_isFirst_5 : decode cX11_isFirst 5 = .ok (.ifCond .eq 17, 3) := by decide +kernel
theorem dX11_isFirst_8 : decode cX11_isFirst 8 = .ok (.aload_n 0, 1) := by decide +kernel
theorem dX11_isFirst_9 : decode cX11_isFirst 9 = .ok (.iload_n 1, 1) := by decide +kernel
theorem dX11_isFirst_10 : decode cX11_isFirst 10 = .ok (.iconst 1, 1) := by decide +kernel
theorem dX11_isFirst_11 : decode cX11_isFirst 11 = .ok (.isub, 1) := by decide +kernel
theorem dX11_isFirst_12 : decode cX11_isFirst 12 = .ok (.invokevirtual 130, 3) := by decide +kernel
theorem dX11_isFirst_15 : decode cX11_isFirst 15 = .ok (.ifCond .ne 7, 3) := by decide +kernel
theorem dX11_isFirst_18 : decode cX11_isFirst 18 = .ok (.iconst 1, 1) := by decide +kernel
theorem dX11_isFirst_19 : decode cX11_isFirst 19 = .ok (.goto 4, 3) := by decide +kernel
theorem dX11_isFirst_22 : decode cX11_isFirst 22 = .ok (.iconst 0, 1) := by decide +kernel
theorem dX11_isFirst_23 : decode cX11_isFirst 23 = .ok (.ireturn, 1) := by decide +kernel
theorem dX11_isLast_0 : decode cX11_isLast 0 = .ok (.aload_n 0, 1) := by decide +kernel
theorem dX11_isLast_1 : decode cX11_isLast 1 = .ok (.iload_n 1, 1) := by decide +kernel
theorem dX11_isLast_2 : decode cX11_isLast 2 = .ok (.invokevirtual 130, 3) := by decide +kernel
theorem dX11_isLast_5 : decode cX11_isLast 5 = .ok (.ifCond .eq 17, 3) := by decide +kernel
theorem dX11_isLast_8 : decode cX11_isLast 8 = .ok (.aload_n 0, 1) := by decide +kernel
theorem dX11_isLast_9 : decode cX11_isLast 9 = .ok (.iload_n 1, 1) := by decide +kernel
theorem dX11_isLast_10 : decode cX11_isLast 10 = .ok (.iconst 1, 1) := by decide +kernel
theorem dX11_isLast_11 : decode cX11_isLast 11 = .ok (.iadd, 1) := by decide +kernel
theorem dX11_isLast_12 : decode cX11_isLast 12 = .ok (.invokevirtual 130, 3) := by decide +kernel
theorem dX11_isLast_15 : decode cX11_isLast 15 = .ok (.ifCond .ne 7, 3) := by decide +kernel
theorem dX11_isLast_18 : decode cX11_isLast 18 = .ok (.iconst 1, 1) := by decide +kernel
theorem dX11_isLast_19 : decode cX11_isLast 19 = .ok (.goto 4, 3) := by decide +kernel
theorem dX11_isLast_22 : decode cX11_isLast 22 = .ok (.iconst 0, 1) := by decide +kernel
theorem dX11_isLast_23 : decode cX11_isLast 23 = .ok (.ireturn, 1) := by decide +kernel
theorem dX11_stretchOf_0 : decode cX11_stretchOf 0 = .ok (.bipush (-9), 2) := by decide +kernel
theorem dX11_stretchOf_2 : decode cX11_stretchOf 2 = .ok (.istore_n 2, 1) := by decide +kernel
theorem dX11_stretchOf_3 : decode cX11_stretchOf 3 = .ok (.iconst 0, 1) := by decide +kernel
theorem dX11_stretchOf_4 : decode cX11_stretchOf 4 = .ok (.istore_n 3, 1) := by decide +kernel
theorem dX11_stretchOf_5 : decode cX11_stretchOf 5 = .ok (.iload_n 3, 1) := by decide +kernel
theorem dX11_stretchOf_6 : decode cX11_stretchOf 6 = .ok (.iload_n 1, 1) := by decide +kernel
theorem dX11_stretchOf_7 : decode cX11_stretchOf 7 = .ok (.if_icmp .gt 35, 3) := by decide +kernel
theorem dX11_stretchOf_10 : decode cX11_stretchOf 10 = .ok (.aload_n 0, 1) := by decide +kernel
theorem dX11_stretchOf_11 : decode cX11_stretchOf 11 = .ok (.iload_n 3, 1) := by decide +kernel
theorem dX11_stretchOf_12 : decode cX11_stretchOf 12 = .ok (.invokevirtual 133, 3) := by decide +kernel
theorem dX11_stretchOf_15 : decode cX11_stretchOf 15 = .ok (.ifCond .eq 19, 3) := by decide +kernel
theorem dX11_stretchOf_18 : decode cX11_stretchOf 18 = .ok (.iload_n 2, 1) := by decide +kernel
theorem dX11_stretchOf_19 : decode cX11_stretchOf 19 = .ok (.bipush (-9), 2) := by decide +kernel
theorem dX11_stretchOf_21 : decode cX11_stretchOf 21 = .ok (.if_icmp .ne 7, 3) := by decide +kernel
theorem dX11_stretchOf_24 : decode cX11_stretchOf 24 = .ok (.iconst 0, 1) := by decide +kernel
theorem dX11_stretchOf_25 : decode cX11_stretchOf 25 = .ok (.goto 10, 3) := by decide +kernel
theorem dX11_stretchOf_28 : decode cX11_stretchOf 28 = .ok (.iload_n 2, 1) := by decide +kernel
theorem dX11_stretchOf_29 : decode cX11_stretchOf 29 = .ok (.iconst 1, 1) := by decide +kernel
theorem dX11_stretchOf_30 : decode cX11_stretchOf 30 = .ok (.iadd, 1) := by decide +kernel
theorem dX11_stretchOf_31 : decode cX11_stretchOf 31 = .ok (.goto 4, 3) := by decide +kernel
theorem dX11_stretchOf_34 : decode cX11_stretchOf 34 = .ok (.iload_n 2, 1) := by decide +kernel
theorem dX11_stretchOf_35 : decode cX11_stretchOf 35 = .ok (.istore_n 2, 1) := by decide +kernel
theorem dX11_stretchOf_36 : decode cX11_stretchOf 36 = .ok (.iinc 3 1, 3) := by decide +kernel
theorem dX11_stretchOf_39 : decode cX11_stretchOf 39 = .ok (.goto (-34), 3) := by decide +kernel
theorem dX11_stretchOf_42 : decode cX11_stretchOf 42 = .ok (.aload_n 0, 1) := by decide +kernel
theorem dX11_stretchOf_43 : decode cX11_stretchOf 43 = .ok (.iload_n 1, 1) := by decide +kernel
theorem dX11_stretchOf_44 : decode cX11_stretchOf 44 = .ok (.invokevirtual 130, 3) := by decide +kernel
theorem dX11_stretchOf_47 : decode cX11_stretchOf 47 = .ok (.ifCond .eq 7, 3) := by decide +kernel
theorem dX11_stretchOf_50 : decode cX11_stretchOf 50 = .ok (.iload_n 2, 1) := by decide +kernel
theorem dX11_stretchOf_51 : decode cX11_stretchOf 51 = .ok (.goto 5, 3) := by decide +kernel
theorem dX11_stretchOf_54 : decode cX11_stretchOf 54 = .ok (.bipush (-9), 2) := by decide +kernel
theorem dX11_stretchOf_56 : decode cX11_stretchOf 56 = .ok (.ireturn, 1) := by decide +kernel
theorem dX11_apartBy_0 : decode cX11_apartBy 0 = .ok (.aload_n 0, 1) := by decide +kernel
theorem dX11_apartBy_1 : decode cX11_apartBy 1 = .ok (.getfield 7, 3) := by decide +kernel
theorem dX11_apartBy_4 : decode cX11_apartBy 4 = .ok (.iconst 3, 1) := by decide +kernel
theorem dX11_apartBy_5 : decode cX11_apartBy 5 = .ok (.iload_n 3, 1) := by decide +kernel
theorem dX11_apartBy_6 : decode cX11_apartBy 6 = .ok (.iadd, 1) := by decide +kernel
theorem dX11_apartBy_7 : decode cX11_apartBy 7 = .ok (.iaload, 1) := by decide +kernel
theorem dX11_apartBy_8 : decode cX11_apartBy 8 = .ok (.aload_n 0, 1) := by decide +kernel
theorem dX11_apartBy_9 : decode cX11_apartBy 9 = .ok (.getfield 7, 3) := by decide +kernel
theorem dX11_apartBy_12 : decode cX11_apartBy 12 = .ok (.iconst 3, 1) := by decide +kernel
theorem dX11_apartBy_13 : decode cX11_apartBy 13 = .ok (.iload_n 1, 1) := by decide +kernel
theorem dX11_apartBy_14 : decode cX11_apartBy 14 = .ok (.iadd, 1) := by decide +kernel
theorem dX11_apartBy_15 : decode cX11_apartBy 15 = .ok (.iaload, 1) := by decide +kernel
theorem dX11_apartBy_16 : decode cX11_apartBy 16 = .ok (.isub, 1) := by decide +kernel
theorem dX11_apartBy_17 : decode cX11_apartBy 17 = .ok (.istore 4, 2) := by decide +kernel
theorem dX11_apartBy_19 : decode cX11_apartBy 19 = .ok (.aload_n 0, 1) := by decide +kernel
theorem dX11_apartBy_20 : decode cX11_apartBy 20 = .ok (.getfield 7, 3) := by decide +kernel
theorem dX11_apartBy_23 : decode cX11_apartBy 23 = .ok (.bipush 17, 2) := by decide +kernel
theorem dX11_apartBy_25 : decode cX11_apartBy 25 = .ok (.iload_n 2, 1) := by decide +kernel
theorem dX11_apartBy_26 : decode cX11_apartBy 26 = .ok (.iadd, 1) := by decide +kernel
theorem dX11_apartBy_27 : decode cX11_apartBy 27 = .ok (.iaload, 1) := by decide +kernel
theorem dX11_apartBy_28 : decode cX11_apartBy 28 = .ok (.iload 4, 2) := by decide +kernel
theorem dX11_apartBy_30 : decode cX11_apartBy 30 = .ok (.imul, 1) := by decide +kernel
theorem dX11_apartBy_31 : decode cX11_apartBy 31 = .ok (.aload_n 0, 1) := by decide +kernel
theorem dX11_apartBy_32 : decode cX11_apartBy 32 = .ok (.getfield 7, 3) := by decide +kernel
theorem dX11_apartBy_35 : decode cX11_apartBy 35 = .ok (.bipush 17, 2) := by decide +kernel
theorem dX11_apartBy_37 : decode cX11_apartBy 37 = .ok (.iload_n 1, 1) := by decide +kernel
theorem dX11_apartBy_38 : decode cX11_apartBy 38 = .ok (.iadd, 1) := by decide +kernel
theorem dX11_apartBy_39 : decode cX11_apartBy 39 = .ok (.iaload, 1) := by decide +kernel
theorem dX11_apartBy_40 : decode cX11_apartBy 40 = .ok (.aload_n 0, 1) := by decide +kernel
theorem dX11_apartBy_41 : decode cX11_apartBy 41 = .ok (.getfield 7, 3) := by decide +kernel
theorem dX11_apartBy_44 : decode cX11_apartBy 44 = .ok (.iconst 3, 1) := by decide +kernel
theorem dX11_apartBy_45 : decode cX11_apartBy 45 = .ok (.iload_n 3, 1) := by decide +kernel
theorem dX11_apartBy_46 : decode cX11_apartBy 46 = .ok (.iadd, 1) := by decide +kernel
theorem dX11_apartBy_47 : decode cX11_apartBy 47 = .ok (.iaload, 1) := by decide +kernel
theorem dX11_apartBy_48 : decode cX11_apartBy 48 = .ok (.aload_n 0, 1) := by decide +kernel
theorem dX11_apartBy_49 : decode cX11_apartBy 49 = .ok (.getfield 7, 3) := by decide +kernel
theorem dX11_apartBy_52 : decode cX11_apartBy 52 = .ok (.iconst 3, 1) := by decide +kernel
theorem dX11_apartBy_53 : decode cX11_apartBy 53 = .ok (.iload_n 2, 1) := by decide +kernel
theorem dX11_apartBy_54 : decode cX11_apartBy 54 = .ok (.iadd, 1) := by decide +kernel
theorem dX11_apartBy_55 : decode cX11_apartBy 55 = .ok (.iaload, 1) := by decide +kernel
theorem dX11_apartBy_56 : decode cX11_apartBy 56 = .ok (.isub, 1) := by decide +kernel
theorem dX11_apartBy_57 : decode cX11_apartBy 57 = .ok (.imul, 1) := by decide +kernel
theorem dX11_apartBy_58 : decode cX11_apartBy 58 = .ok (.isub, 1) := by decide +kernel
theorem dX11_apartBy_59 : decode cX11_apartBy 59 = .ok (.aload_n 0, 1) := by decide +kernel
theorem dX11_apartBy_60 : decode cX11_apartBy 60 = .ok (.getfield 7, 3) := by decide +kernel
theorem dX11_apartBy_63 : decode cX11_apartBy 63 = .ok (.bipush 17, 2) := by decide +kernel
theorem dX11_apartBy_65 : decode cX11_apartBy 65 = .ok (.iload_n 3, 1) := by decide +kernel
theorem dX11_apartBy_66 : decode cX11_apartBy 66 = .ok (.iadd, 1) := by decide +kernel
theorem dX11_apartBy_67 : decode cX11_apartBy 67 = .ok (.iaload, 1) := by decide +kernel
theorem dX11_apartBy_68 : decode cX11_apartBy 68 = .ok (.aload_n 0, 1) := by decide +kernel
theorem dX11_apartBy_69 : decode cX11_apartBy 69 = .ok (.getfield 7, 3) := by decide +kernel
theorem dX11_apartBy_72 : decode cX11_apartBy 72 = .ok (.iconst 3, 1) := by decide +kernel
theorem dX11_apartBy_73 : decode cX11_apartBy 73 = .ok (.iload_n 2, 1) := by decide +kernel
theorem dX11_apartBy_74 : decode cX11_apartBy 74 = .ok (.iadd, 1) := by decide +kernel
theorem dX11_apartBy_75 : decode cX11_apartBy 75 = .ok (.iaload, 1) := by decide +kernel
theorem dX11_apartBy_76 : decode cX11_apartBy 76 = .ok (.aload_n 0, 1) := by decide +kernel
theorem dX11_apartBy_77 : decode cX11_apartBy 77 = .ok (.getfield 7, 3) := by decide +kernel
theorem dX11_apartBy_80 : decode cX11_apartBy 80 = .ok (.iconst 3, 1) := by decide +kernel
theorem dX11_apartBy_81 : decode cX11_apartBy 81 = .ok (.iload_n 1, 1) := by decide +kernel
theorem dX11_apartBy_82 : decode cX11_apartBy 82 = .ok (.iadd, 1) := by decide +kernel
theorem dX11_apartBy_83 : decode cX11_apartBy 83 = .ok (.iaload, 1) := by decide +kernel
theorem dX11_apartBy_84 : decode cX11_apartBy 84 = .ok (.isub, 1) := by decide +kernel
theorem dX11_apartBy_85 : decode cX11_apartBy 85 = .ok (.imul, 1) := by decide +kernel
theorem dX11_apartBy_86 : decode cX11_apartBy 86 = .ok (.isub, 1) := by decide +kernel
theorem dX11_apartBy_87 : decode cX11_apartBy 87 = .ok (.istore 5, 2) := by decide +kernel
theorem dX11_apartBy_89 : decode cX11_apartBy 89 = .ok (.iload 5, 2) := by decide +kernel
theorem dX11_apartBy_91 : decode cX11_apartBy 91 = .ok (.ifCond .ge 9, 3) := by decide +kernel
theorem dX11_apartBy_94 : decode cX11_apartBy 94 = .ok (.iload 5, 2) := by decide +kernel
theorem dX11_apartBy_96 : decode cX11_apartBy 96 = .ok (.ineg, 1) := by decide +kernel
theorem dX11_apartBy_97 : decode cX11_apartBy 97 = .ok (.goto 5, 3) := by decide +kernel
theorem dX11_apartBy_100 : decode cX11_apartBy 100 = .ok (.iload 5, 2) := by decide +kernel
theorem dX11_apartBy_102 : decode cX11_apartBy 102 = .ok (.ireturn, 1) := by decide +kernel
theorem dX11_whyNot_0 : decode cX11_whyNot 0 = .ok (.iload_n 1, 1) := by decide +kernel
theorem dX11_whyNot_1 : decode cX11_whyNot 1 = .ok (.iconst 1, 1) := by decide +kernel
theorem dX11_whyNot_2 : decode cX11_whyNot 2 = .ok (.iadd, 1) := by decide +kernel
theorem dX11_whyNot_3 : decode cX11_whyNot 3 = .ok (.istore 4, 2) := by decide +kernel
theorem dX11_whyNot_5 : decode cX11_whyNot 5 = .ok (.iload 4, 2) := by decide +kernel
theorem dX11_whyNot_7 : decode cX11_whyNot 7 = .ok (.iload_n 2, 1) := by decide +kernel
theorem dX11_whyNot_8 : decode cX11_whyNot 8 = .ok (.if_icmp .ge 42, 3) := by decide +kernel
theorem dX11_whyNot_11 : decode cX11_whyNot 11 = .ok (.aload_n 0, 1) := by decide +kernel
theorem dX11_whyNot_12 : decode cX11_whyNot 12 = .ok (.iload_n 1, 1) := by decide +kernel
theorem dX11_whyNot_13 : decode cX11_whyNot 13 = .ok (.iload 4, 2) := by decide +kernel
theorem dX11_whyNot_15 : decode cX11_whyNot 15 = .ok (.iload_n 2, 1) := by decide +kernel
theorem dX11_whyNot_16 : decode cX11_whyNot 16 = .ok (.invokevirtual 136, 3) := by decide +kernel
theorem dX11_whyNot_19 : decode cX11_whyNot 19 = .ok (.iload_n 3, 1) := by decide +kernel
theorem dX11_whyNot_20 : decode cX11_whyNot 20 = .ok (.aload_n 0, 1) := by decide +kernel
theorem dX11_whyNot_21 : decode cX11_whyNot 21 = .ok (.getfield 7, 3) := by decide +kernel
theorem dX11_whyNot_24 : decode cX11_whyNot 24 = .ok (.iconst 3, 1) := by decide +kernel
theorem dX11_whyNot_25 : decode cX11_whyNot 25 = .ok (.iload_n 2, 1) := by decide +kernel
theorem dX11_whyNot_26 : decode cX11_whyNot 26 = .ok (.iadd, 1) := by decide +kernel
theorem dX11_whyNot_27 : decode cX11_whyNot 27 = .ok (.iaload, 1) := by decide +kernel
theorem dX11_whyNot_28 : decode cX11_whyNot 28 = .ok (.aload_n 0, 1) := by decide +kernel
theorem dX11_whyNot_29 : decode cX11_whyNot 29 = .ok (.getfield 7, 3) := by decide +kernel
theorem dX11_whyNot_32 : decode cX11_whyNot 32 = .ok (.iconst 3, 1) := by decide +kernel
theorem dX11_whyNot_33 : decode cX11_whyNot 33 = .ok (.iload_n 1, 1) := by decide +kernel
theorem dX11_whyNot_34 : decode cX11_whyNot 34 = .ok (.iadd, 1) := by decide +kernel
theorem dX11_whyNot_35 : decode cX11_whyNot 35 = .ok (.iaload, 1) := by decide +kernel
theorem dX11_whyNot_36 : decode cX11_whyNot 36 = .ok (.isub, 1) := by decide +kernel
theorem dX11_whyNot_37 : decode cX11_whyNot 37 = .ok (.imul, 1) := by decide +kernel
theorem dX11_whyNot_38 : decode cX11_whyNot 38 = .ok (.if_icmp .le 6, 3) := by decide +kernel
theorem dX11_whyNot_41 : decode cX11_whyNot 41 = .ok (.iload 4, 2) := by decide +kernel
theorem dX11_whyNot_43 : decode cX11_whyNot 43 = .ok (.ireturn, 1) := by decide +kernel
theorem dX11_whyNot_44 : decode cX11_whyNot 44 = .ok (.iinc 4 1, 3) := by decide +kernel
theorem dX11_whyNot_47 : decode cX11_whyNot 47 = .ok (.goto (-42), 3) := by decide +kernel
theorem dX11_whyNot_50 : decode cX11_whyNot 50 = .ok (.bipush (-9), 2) := by decide +kernel
theorem dX11_whyNot_52 : decode cX11_whyNot 52 = .ok (.ireturn, 1) := by decide +kernel
theorem dX11_doorFrom_0 : decode cX11_doorFrom 0 = .ok (.iload_n 1, 1) := by decide +kernel
theorem dX11_doorFrom_1 : decode cX11_doorFrom 1 = .ok (.istore_n 3, 1) := by decide +kernel
theorem dX11_doorFrom_2 : decode cX11_doorFrom 2 = .ok (.aload_n 0, 1) := by decide +kernel
theorem dX11_doorFrom_3 : decode cX11_doorFrom 3 = .ok (.iload_n 3, 1) := by decide +kernel
theorem dX11_doorFrom_4 : decode cX11_doorFrom 4 = .ok (.invokevirtual 140, 3) := by decide +kernel
theorem dX11_doorFrom_7 : decode cX11_doorFrom 7 = .ok (.ifCond .ne 35, 3) := by decide +kernel
theorem dX11_doorFrom_10 : decode cX11_doorFrom 10 = .ok (.iload_n 3, 1) := by decide +kernel
theorem dX11_doorFrom_11 : decode cX11_doorFrom 11 = .ok (.iload_n 1, 1) := by decide +kernel
theorem dX11_doorFrom_12 : decode cX11_doorFrom 12 = .ok (.aload_n 0, 1) := by decide +kernel
theorem dX11_doorFrom_13 : decode cX11_doorFrom 13 = .ok (.getfield 7, 3) := by decide +kernel
theorem dX11_doorFrom_16 : decode cX11_doorFrom 16 = .ok (.iconst 2, 1) := by decide +kernel
theorem dX11_doorFrom_17 : decode cX11_doorFrom 17 = .ok (.iaload, 1) := by decide +kernel
theorem dX11_doorFrom_18 : decode cX11_doorFrom 18 = .ok (.iadd, 1) := by decide +kernel
theorem dX11_doorFrom_19 : decode cX11_doorFrom 19 = .ok (.if_icmp .ge 23, 3) := by decide +kernel
theorem dX11_doorFrom_22 : decode cX11_doorFrom 22 = .ok (.aload_n 0, 1) := by decide +kernel
theorem dX11_doorFrom_23 : decode cX11_doorFrom 23 = .ok (.iload_n 1, 1) := by decide +kernel
theorem dX11_doorFrom_24 : decode cX11_doorFrom 24 = .ok (.iload_n 3, 1) := by decide +kernel
theorem dX11_doorFrom_25 : decode cX11_doorFrom 25 = .ok (.iconst 1, 1) := by decide +kernel
theorem dX11_doorFrom_26 : decode cX11_doorFrom 26 = .ok (.iadd, 1) := by decide +kernel
theorem dX11_doorFrom_27 : decode cX11_doorFrom 27 = .ok (.iload_n 2, 1) := by decide +kernel
theorem dX11_doorFrom_28 : decode cX11_doorFrom 28 = .ok (.invokevirtual 143, 3) := by decide +kernel
theorem dX11_doorFrom_31 : decode cX11_doorFrom 31 = .ok (.bipush (-9), 2) := by decide +kernel
theorem dX11_doorFrom_33 : decode cX11_doorFrom 33 = .ok (.if_icmp .ne 9, 3) := by decide +kernel
theorem dX11_doorFrom_36 : decode cX11_doorFrom 36 = .ok (.iinc 3 1, 3) := by decide +kernel
theorem dX11_doorFrom_39 : decode cX11_doorFrom 39 = .ok (.goto (-37), 3) := by decide +kernel
theorem dX11_doorFrom_42 : decode cX11_doorFrom 42 = .ok (.iload_n 3, 1) := by decide +kernel
theorem dX11_doorFrom_43 : decode cX11_doorFrom 43 = .ok (.ireturn, 1) := by decide +kernel
theorem dX11_door_0 : decode cX11_door 0 = .ok (.iconst 0, 1) := by decide +kernel
theorem dX11_door_1 : decode cX11_door 1 = .ok (.istore_n 2, 1) := by decide +kernel
theorem dX11_door_2 : decode cX11_door 2 = .ok (.iconst 0, 1) := by decide +kernel
theorem dX11_door_3 : decode cX11_door 3 = .ok (.istore_n 3, 1) := by decide +kernel
theorem dX11_door_4 : decode cX11_door 4 = .ok (.iload_n 3, 1) := by decide +kernel
theorem dX11_door_5 : decode cX11_door 5 = .ok (.aload_n 0, 1) := by decide +kernel
theorem dX11_door_6 : decode cX11_door 6 = .ok (.getfield 7, 3) := by decide +kernel
theorem dX11_door_9 : decode cX11_door 9 = .ok (.iconst 0, 1) := by decide +kernel
theorem dX11_door_10 : decode cX11_door 10 = .ok (.iaload, 1) := by decide +kernel
theorem dX11_door_11 : decode cX11_door 11 = .ok (.if_icmp .ge 55, 3) := by decide +kernel
theorem dX11_door_14 : decode cX11_door 14 = .ok (.aload_n 0, 1) := by decide +kernel
theorem dX11_door_15 : decode cX11_door 15 = .ok (.iload_n 3, 1) := by decide +kernel
theorem dX11_door_16 : decode cX11_door 16 = .ok (.invokevirtual 133, 3) := by decide +kernel
theorem dX11_door_19 : decode cX11_door 19 = .ok (.ifCond .eq 41, 3) := by decide +kernel
theorem dX11_door_22 : decode cX11_door 22 = .ok (.iload_n 3, 1) := by decide +kernel
theorem dX11_door_23 : decode cX11_door 23 = .ok (.istore 4, 2) := by decide +kernel
theorem dX11_door_25 : decode cX11_door 25 = .ok (.iload_n 2, 1) := by decide +kernel
theorem dX11_door_26 : decode cX11_door 26 = .ok (.iconst 1, 1) := by decide +kernel
theorem dX11_door_27 : decode cX11_door 27 = .ok (.iload 4, 2) := by decide +kernel
theorem dX11_door_29 : decode cX11_door 29 = .ok (.ishl, 1) := by decide +kernel
theorem dX11_door_30 : decode cX11_door 30 = .ok (.ior, 1) := by decide +kernel
theorem dX11_door_31 : decode cX11_door 31 = .ok (.istore_n 2, 1) := by decide +kernel
theorem dX11_door_32 : decode cX11_door 32 = .ok (.aload_n 0, 1) := by decide +kernel
theorem dX11_door_33 : decode cX11_door 33 = .ok (.iload 4, 2) := by decide +kernel
theorem dX11_door_35 : decode cX11_door 35 = .ok (.invokevirtual 140, 3) := by decide +kernel
theorem dX11_door_38 : decode cX11_door 38 = .ok (.ifCond .ne 22, 3) := by decide +kernel
theorem dX11_door_41 : decode cX11_door 41 = .ok (.aload_n 0, 1) := by decide +kernel
theorem dX11_door_42 : decode cX11_door 42 = .ok (.iload 4, 2) := by decide +kernel
theorem dX11_door_44 : decode cX11_door 44 = .ok (.iload_n 1, 1) := by decide +kernel
theorem dX11_door_45 : decode cX11_door 45 = .ok (.invokevirtual 146, 3) := by decide +kernel
theorem dX11_door_48 : decode cX11_door 48 = .ok (.istore 4, 2) := by decide +kernel
theorem dX11_door_50 : decode cX11_door 50 = .ok (.iload_n 2, 1) := by decide +kernel
theorem dX11_door_51 : decode cX11_door 51 = .ok (.iconst 1, 1) := by decide +kernel
theorem dX11_door_52 : decode cX11_door 52 = .ok (.iload 4, 2) := by decide +kernel
theorem dX11_door_54 : decode cX11_door 54 = .ok (.ishl, 1) := by decide +kernel
theorem dX11_door_55 : decode cX11_door 55 = .ok (.ior, 1) := by decide +kernel
theorem dX11_door_56 : decode cX11_door 56 = .ok (.istore_n 2, 1) := by decide +kernel
theorem dX11_door_57 : decode cX11_door 57 = .ok (.goto (-25), 3) := by decide +kernel
theorem dX11_door_60 : decode cX11_door 60 = .ok (.iinc 3 1, 3) := by decide +kernel
theorem dX11_door_63 : decode cX11_door 63 = .ok (.goto (-59), 3) := by decide +kernel
theorem dX11_door_66 : decode cX11_door 66 = .ok (.iload_n 2, 1) := by decide +kernel
theorem dX11_door_67 : decode cX11_door 67 = .ok (.ireturn, 1) := by decide +kernel
theorem dX11_keptAhead_0 : decode cX11_keptAhead 0 = .ok (.iload_n 2, 1) := by decide +kernel
theorem dX11_keptAhead_1 : decode cX11_keptAhead 1 = .ok (.iconst 1, 1) := by decide +kernel
theorem dX11_keptAhead_2 : decode cX11_keptAhead 2 = .ok (.isub, 1) := by decide +kernel
theorem dX11_keptAhead_3 : decode cX11_keptAhead 3 = .ok (.istore_n 3, 1) := by decide +kernel
theorem dX11_keptAhead_4 : decode cX11_keptAhead 4 = .ok (.iload_n 1, 1) := by decide +kernel
theorem dX11_keptAhead_5 : decode cX11_keptAhead 5 = .ok (.iload_n 3, 1) := by decide +kernel
theorem dX11_keptAhead_6 : decode cX11_keptAhead 6 = .ok (.invokestatic 87, 3) := by decide +kernel
theorem dX11_keptAhead_9 : decode cX11_keptAhead 9 = .ok (.ifCond .ne 9, 3) := by decide +kernel
theorem dX11_keptAhead_12 : decode cX11_keptAhead 12 = .ok (.iinc 3 (-1), 3) := by decide +kernel
theorem dX11_keptAhead_15 : decode cX11_keptAhead 15 = .ok (.goto (-11), 3) := by decide +kernel
theorem dX11_keptAhead_18 : decode cX11_keptAhead 18 = .ok (.iload_n 3, 1) := by decide +kernel
theorem dX11_keptAhead_19 : decode cX11_keptAhead 19 = .ok (.ireturn, 1) := by decide +kernel
theorem dX11_sentAt_0 : decode cX11_sentAt 0 = .ok (.aload_n 0, 1) := by decide +kernel
theorem dX11_sentAt_1 : decode cX11_sentAt 1 = .ok (.iload_n 2, 1) := by decide +kernel
theorem dX11_sentAt_2 : decode cX11_sentAt 2 = .ok (.invokevirtual 133, 3) := by decide +kernel
theorem dX11_sentAt_5 : decode cX11_sentAt 5 = .ok (.ifCond .ne 28, 3) := by decide +kernel
theorem dX11_sentAt_8 : decode cX11_sentAt 8 = .ok (.aload_n 0, 1) := by decide +kernel
theorem dX11_sentAt_9 : decode cX11_sentAt 9 = .ok (.iload_n 2, 1) := by decide +kernel
theorem dX11_sentAt_10 : decode cX11_sentAt 10 = .ok (.invokevirtual 140, 3) := by decide +kernel
theorem dX11_sentAt_13 : decode cX11_sentAt 13 = .ok (.ifCond .ne 20, 3) := by decide +kernel
theorem dX11_sentAt_16 : decode cX11_sentAt 16 = .ok (.iload_n 2, 1) := by decide +kernel
theorem dX11_sentAt_17 : decode cX11_sentAt 17 = .ok (.aload_n 0, 1) := by decide +kernel
theorem dX11_sentAt_18 : decode cX11_sentAt 18 = .ok (.iload_n 1, 1) := by decide +kernel
theorem dX11_sentAt_19 : decode cX11_sentAt 19 = .ok (.iload_n 2, 1) := by decide +kernel
theorem dX11_sentAt_20 : decode cX11_sentAt 20 = .ok (.invokevirtual 149, 3) := by decide +kernel
theorem dX11_sentAt_23 : decode cX11_sentAt 23 = .ok (.aload_n 0, 1) := by decide +kernel
theorem dX11_sentAt_24 : decode cX11_sentAt 24 = .ok (.getfield 7, 3) := by decide +kernel
theorem dX11_sentAt_27 : decode cX11_sentAt 27 = .ok (.iconst 2, 1) := by decide +kernel
theorem dX11_sentAt_28 : decode cX11_sentAt 28 = .ok (.iaload, 1) := by decide +kernel
theorem dX11_sentAt_29 : decode cX11_sentAt 29 = .ok (.iadd, 1) := by decide +kernel
theorem dX11_sentAt_30 : decode cX11_sentAt 30 = .ok (.if_icmp .ne 7, 3) := by decide +kernel
theorem dX11_sentAt_33 : decode cX11_sentAt 33 = .ok (.iconst 1, 1) := by decide +kernel
theorem dX11_sentAt_34 : decode cX11_sentAt 34 = .ok (.goto 4, 3) := by decide +kernel
theorem dX11_sentAt_37 : decode cX11_sentAt 37 = .ok (.iconst 0, 1) := by decide +kernel
theorem dX11_sentAt_38 : decode cX11_sentAt 38 = .ok (.istore_n 3, 1) := by decide +kernel
theorem dX11_sentAt_39 : decode cX11_sentAt 39 = .ok (.aload_n 0, 1) := by decide +kernel
theorem dX11_sentAt_40 : decode cX11_sentAt 40 = .ok (.getfield 7, 3) := by decide +kernel
theorem dX11_sentAt_43 : decode cX11_sentAt 43 = .ok (.iconst 3, 1) := by decide +kernel
theorem dX11_sentAt_44 : decode cX11_sentAt 44 = .ok (.iload_n 3, 1) := by decide +kernel
theorem dX11_sentAt_45 : decode cX11_sentAt 45 = .ok (.ifCond .eq 7, 3) := by decide +kernel
theorem dX11_sentAt_48 : decode cX11_sentAt 48 = .ok (.iload_n 2, 1) := by decide +kernel
theorem dX11_sentAt_49 : decode cX11_sentAt 49 = .ok (.goto 6, 3) := by decide +kernel
theorem dX11_sentAt_52 : decode cX11_sentAt 52 = .ok (.iload_n 2, 1) := by decide +kernel
theorem dX11_sentAt_53 : decode cX11_sentAt 53 = .ok (.iconst 1, 1) := by decide +kernel
theorem dX11_sentAt_54 : decode cX11_sentAt 54 = .ok (.iadd, 1) := by decide +kernel
theorem dX11_sentAt_55 : decode cX11_sentAt 55 = .ok (.iadd, 1) := by decide +kernel
theorem dX11_sentAt_56 : decode cX11_sentAt 56 = .ok (.iaload, 1) := by decide +kernel
theorem dX11_sentAt_57 : decode cX11_sentAt 57 = .ok (.ireturn, 1) := by decide +kernel
theorem dX11_greater_0 : decode cX11_greater 0 = .ok (.lload_n 1, 1) := by decide +kernel
theorem dX11_greater_1 : decode cX11_greater 1 = .ok (.aload_n 0, 1) := by decide +kernel
theorem dX11_greater_2 : decode cX11_greater 2 = .ok (.getfield 152, 3) := by decide +kernel
theorem dX11_greater_5 : decode cX11_greater 5 = .ok (.lmul, 1) := by decide +kernel
theorem dX11_greater_6 : decode cX11_greater 6 = .ok (.aload_n 0, 1) := by decide +kernel
theorem dX11_greater_7 : decode cX11_greater 7 = .ok (.getfield 156, 3) := by decide +kernel
theorem dX11_greater_10 : decode cX11_greater 10 = .ok (.lload_n 3, 1) := by decide +kernel
theorem dX11_greater_11 : decode cX11_greater 11 = .ok (.lmul, 1) := by decide +kernel
theorem dX11_greater_12 : decode cX11_greater 12 = .ok (.lcmp, 1) := by decide +kernel
theorem dX11_greater_13 : decode cX11_greater 13 = .ok (.ifCond .le 13, 3) := by decide +kernel
theorem dX11_greater_16 : decode cX11_greater 16 = .ok (.aload_n 0, 1) := by decide +kernel
theorem dX11_greater_17 : decode cX11_greater 17 = .ok (.lload_n 1, 1) := by decide +kernel
theorem dX11_greater_18 : decode cX11_greater 18 = .ok (.putfield 156, 3) := by decide +kernel
theorem dX11_greater_21 : decode cX11_greater 21 = .ok (.aload_n 0, 1) := by decide +kernel
theorem dX11_greater_22 : decode cX11_greater 22 = .ok (.lload_n 3, 1) := by decide +kernel
theorem dX11_greater_23 : decode cX11_greater 23 = .ok (.putfield 152, 3) := by decide +kernel
theorem dX11_greater_26 : decode cX11_greater 26 = .ok (.return_, 1) := by decide +kernel
theorem dX11_layStrip_0 : decode cX11_layStrip 0 = .ok (.aload_n 0, 1) := by decide +kernel
theorem dX11_layStrip_1 : decode cX11_layStrip 1 = .ok (.lconst 0, 1) := by decide +kernel
theorem dX11_layStrip_2 : decode cX11_layStrip 2 = .ok (.putfield 156, 3) := by decide +kernel
theorem dX11_layStrip_5 : decode cX11_layStrip 5 = .ok (.aload_n 0, 1) := by decide +kernel
theorem dX11_layStrip_6 : decode cX11_layStrip 6 = .ok (.lconst 1, 1) := by decide +kernel
theorem dX11_layStrip_7 : decode cX11_layStrip 7 = .ok (.putfield 152, 3) := by decide +kernel
theorem dX11_layStrip_10 : decode cX11_layStrip 10 = .ok (.iload_n 1, 1) := by decide +kernel
theorem dX11_layStrip_11 : decode cX11_layStrip 11 = .ok (.istore_n 3, 1) := by decide +kernel
theorem dX11_layStrip_12 : decode cX11_layStrip 12 = .ok (.iload_n 3, 1) := by decide +kernel
theorem dX11_layStrip_13 : decode cX11_layStrip 13 = .ok (.iload_n 2, 1) := by decide +kernel
theorem dX11_layStrip_14 : decode cX11_layStrip 14 = .ok (.if_icmp .gt 81, 3) := by decide +kernel
theorem dX11_layStrip_17 : decode cX11_layStrip 17 = .ok (.iload_n 3, 1) := by decide +kernel
theorem dX11_layStrip_18 : decode cX11_layStrip 18 = .ok (.iconst 2, 1) := by decide +kernel
theorem dX11_layStrip_19 : decode cX11_layStrip 19 = .ok (.iadd, 1) := by decide +kernel
theorem dX11_layStrip_20 : decode cX11_layStrip 20 = .ok (.istore 4, 2) := by decide +kernel
theorem dX11_layStrip_22 : decode cX11_layStrip 22 = .ok (.iload 4, 2) := by decide +kernel
theorem dX11_layStrip_24 : decode cX11_layStrip 24 = .ok (.iload_n 2, 1) := by decide +kernel
theorem dX11_layStrip_25 : decode cX11_layStrip 25 = .ok (.if_icmp .gt 64, 3) := by decide +kernel
theorem dX11_layStrip_28 : decode cX11_layStrip 28 = .ok (.iload_n 3, 1) := by decide +kernel
theorem dX11_layStrip_29 : decode cX11_layStrip 29 = .ok (.iconst 1, 1) := by decide +kernel
theorem dX11_layStrip_30 : decode cX11_layStrip 30 = .ok (.iadd, 1) := by decide +kernel
theorem dX11_layStrip_31 : decode cX11_layStrip 31 = .ok (.istore 5, 2) := by decide +kernel
theorem dX11_layStrip_33 : decode cX11_layStrip 33 = .ok (.iload 5, 2) := by decide +kernel
theorem dX11_layStrip_35 : decode cX11_layStrip 35 = .ok (.iload 4, 2) := by decide +kernel
theorem dX11_layStrip_37 : decode cX11_layStrip 37 = .ok (.if_icmp .ge 46, 3) := by decide +kernel
theorem dX11_layStrip_40 : decode cX11_layStrip 40 = .ok (.aload_n 0, 1) := by decide +kernel
theorem dX11_layStrip_41 : decode cX11_layStrip 41 = .ok (.aload_n 0, 1) := by decide +kernel
theorem dX11_layStrip_42 : decode cX11_layStrip 42 = .ok (.iload_n 3, 1) := by decide +kernel
theorem dX11_layStrip_43 : decode cX11_layStrip 43 = .ok (.iload 5, 2) := by decide +kernel
theorem dX11_layStrip_45 : decode cX11_layStrip 45 = .ok (.iload 4, 2) := by decide +kernel
theorem dX11_layStrip_47 : decode cX11_layStrip 47 = .ok (.invokevirtual 136, 3) := by decide +kernel
theorem dX11_layStrip_50 : decode cX11_layStrip 50 = .ok (.i2l, 1) := by decide +kernel
theorem dX11_layStrip_51 : decode cX11_layStrip 51 = .ok (.ldc2_w 159, 3) := by decide +kernel
theorem dX11_layStrip_54 : decode cX11_layStrip 54 = .ok (.aload_n 0, 1) := by decide +kernel
theorem dX11_layStrip_55 : decode cX11_layStrip 55 = .ok (.getfield 7, 3) := by decide +kernel
theorem dX11_layStrip_58 : decode cX11_layStrip 58 = .ok (.iconst 3, 1) := by decide +kernel
theorem dX11_layStrip_59 : decode cX11_layStrip 59 = .ok (.iload 4, 2) := by decide +kernel
theorem dX11_layStrip_61 : decode cX11_layStrip 61 = .ok (.iadd, 1) := by decide +kernel
theorem dX11_layStrip_62 : decode cX11_layStrip 62 = .ok (.iaload, 1) := by decide +kernel
theorem dX11_layStrip_63 : decode cX11_layStrip 63 = .ok (.aload_n 0, 1) := by decide +kernel
theorem dX11_layStrip_64 : decode cX11_layStrip 64 = .ok (.getfield 7, 3) := by decide +kernel
theorem dX11_layStrip_67 : decode cX11_layStrip 67 = .ok (.iconst 3, 1) := by decide +kernel
theorem dX11_layStrip_68 : decode cX11_layStrip 68 = .ok (.iload_n 3, 1) := by decide +kernel
theorem dX11_layStrip_69 : decode cX11_layStrip 69 = .ok (.iadd, 1) := by decide +kernel
theorem dX11_layStrip_70 : decode cX11_layStrip 70 = .ok (.iaload, 1) := by decide +kernel
theorem dX11_layStrip_71 : decode cX11_layStrip 71 = .ok (.isub, 1) := by decide +kernel
theorem dX11_layStrip_72 : decode cX11_layStrip 72 = .ok (.i2l, 1) := by decide +kernel
theorem dX11_layStrip_73 : decode cX11_layStrip 73 = .ok (.lmul, 1) := by decide +kernel
theorem dX11_layStrip_74 : decode cX11_layStrip 74 = .ok (.invokevirtual 161, 3) := by decide +kernel
theorem dX11_layStrip_77 : decode cX11_layStrip 77 = .ok (.iinc 5 1, 3) := by decide +kernel
theorem dX11_layStrip_80 : decode cX11_layStrip 80 = .ok (.goto (-47), 3) := by decide +kernel
theorem dX11_layStrip_83 : decode cX11_layStrip 83 = .ok (.iinc 4 1, 3) := by decide +kernel
theorem dX11_layStrip_86 : decode cX11_layStrip 86 = .ok (.goto (-64), 3) := by decide +kernel
theorem dX11_layStrip_89 : decode cX11_layStrip 89 = .ok (.iinc 3 1, 3) := by decide +kernel
theorem dX11_layStrip_92 : decode cX11_layStrip 92 = .ok (.goto (-80), 3) := by decide +kernel
theorem dX11_layStrip_95 : decode cX11_layStrip 95 = .ok (.return_, 1) := by decide +kernel
theorem dX11_isStrip_0 : decode cX11_isStrip 0 = .ok (.aload_n 0, 1) := by decide +kernel
theorem dX11_isStrip_1 : decode cX11_isStrip 1 = .ok (.iload_n 1, 1) := by decide +kernel
theorem dX11_isStrip_2 : decode cX11_isStrip 2 = .ok (.iload_n 2, 1) := by decide +kernel
theorem dX11_isStrip_3 : decode cX11_isStrip 3 = .ok (.invokevirtual 165, 3) := by decide +kernel
theorem dX11_isStrip_6 : decode cX11_isStrip 6 = .ok (.aload_n 0, 1) := by decide +kernel
theorem dX11_isStrip_7 : decode cX11_isStrip 7 = .ok (.getfield 156, 3) := by decide +kernel
theorem dX11_isStrip_10 : decode cX11_isStrip 10 = .ok (.aload_n 0, 1) := by decide +kernel
theorem dX11_isStrip_11 : decode cX11_isStrip 11 = .ok (.getfield 7, 3) := by decide +kernel
theorem dX11_isStrip_14 : decode cX11_isStrip 14 = .ok (.iconst 1, 1) := by decide +kernel
theorem dX11_isStrip_15 : decode cX11_isStrip 15 = .ok (.iaload, 1) := by decide +kernel
theorem dX11_isStrip_16 : decode cX11_isStrip 16 = .ok (.i2l, 1) := by decide +kernel
theorem dX11_isStrip_17 : decode cX11_isStrip 17 = .ok (.aload_n 0, 1) := by decide +kernel
theorem dX11_isStrip_18 : decode cX11_isStrip 18 = .ok (.getfield 152, 3) := by decide +kernel
theorem dX11_isStrip_21 : decode cX11_isStrip 21 = .ok (.lmul, 1) := by decide +kernel
theorem dX11_isStrip_22 : decode cX11_isStrip 22 = .ok (.lcmp, 1) := by decide +kernel
theorem dX11_isStrip_23 : decode cX11_isStrip 23 = .ok (.ifCond .gt 7, 3) := by decide +kernel
theorem dX11_isStrip_26 : decode cX11_isStrip 26 = .ok (.iconst 1, 1) := by decide +kernel
theorem dX11_isStrip_27 : decode cX11_isStrip 27 = .ok (.goto 4, 3) := by decide +kernel
theorem dX11_isStrip_30 : decode cX11_isStrip 30 = .ok (.iconst 0, 1) := by decide +kernel
theorem dX11_isStrip_31 : decode cX11_isStrip 31 = .ok (.ireturn, 1) := by decide +kernel
theorem dX11_pieces_0 : decode cX11_pieces 0 = .ok (.iconst 0, 1) := by decide +kernel
theorem dX11_pieces_1 : decode cX11_pieces 1 = .ok (.istore_n 1, 1) := by decide +kernel
theorem dX11_pieces_2 : decode cX11_pieces 2 = .ok (.iconst 0, 1) := by decide +kernel
theorem dX11_pieces_3 : decode cX11_pieces 3 = .ok (.istore_n 2, 1) := by decide +kernel
theorem dX11_pieces_4 : decode cX11_pieces 4 = .ok (.iconst 0, 1) := by decide +kernel
theorem dX11_pieces_5 : decode cX11_pieces 5 = .ok (.istore_n 3, 1) := by decide +kernel
theorem dX11_pieces_6 : decode cX11_pieces 6 = .ok (.iload_n 3, 1) := by decide +kernel
theorem dX11_pieces_7 : decode cX11_pieces 7 = .ok (.aload_n 0, 1) := by decide +kernel
theorem dX11_pieces_8 : decode cX11_pieces 8 = .ok (.getfield 7, 3) := by decide +kernel
theorem dX11_pieces_11 : decode cX11_pieces 11 = .ok (.iconst 0, 1) := by decide +kernel
theorem dX11_pieces_12 : decode cX11_pieces 12 = .ok (.iaload, 1) := by decide +kernel
theorem dX11_pieces_13 : decode cX11_pieces 13 = .ok (.if_icmp .ge 67, 3) := by decide +kernel
theorem dX11_pieces_16 : decode cX11_pieces 16 = .ok (.aload_n 0, 1) := by decide +kernel
theorem dX11_pieces_17 : decode cX11_pieces 17 = .ok (.iload_n 3, 1) := by decide +kernel
theorem dX11_pieces_18 : decode cX11_pieces 18 = .ok (.invokevirtual 130, 3) := by decide +kernel
theorem dX11_pieces_21 : decode cX11_pieces 21 = .ok (.ifCond .eq 53, 3) := by decide +kernel
theorem dX11_pieces_24 : decode cX11_pieces 24 = .ok (.aload_n 0, 1) := by decide +kernel
theorem dX11_pieces_25 : decode cX11_pieces 25 = .ok (.iload_n 3, 1) := by decide +kernel
theorem dX11_pieces_26 : decode cX11_pieces 26 = .ok (.invokevirtual 133, 3) := by decide +kernel
theorem dX11_pieces_29 : decode cX11_pieces 29 = .ok (.ifCond .ne 12, 3) := by decide +kernel
theorem dX11_pieces_32 : decode cX11_pieces 32 = .ok (.aload_n 0, 1) := by decide +kernel
theorem dX11_pieces_33 : decode cX11_pieces 33 = .ok (.iload_n 2, 1) := by decide +kernel
theorem dX11_pieces_34 : decode cX11_pieces 34 = .ok (.iload_n 3, 1) := by decide +kernel
theorem dX11_pieces_35 : decode cX11_pieces 35 = .ok (.invokevirtual 169, 3) := by decide +kernel
theorem dX11_pieces_38 : decode cX11_pieces 38 = .ok (.ifCond .ne 7, 3) := by decide +kernel
theorem dX11_pieces_41 : decode cX11_pieces 41 = .ok (.iconst 1, 1) := by decide +kernel
theorem dX11_pieces_42 : decode cX11_pieces 42 = .ok (.goto 4, 3) := by decide +kernel
theorem dX11_pieces_45 : decode cX11_pieces 45 = .ok (.iconst 0, 1) := by decide +kernel
theorem dX11_pieces_46 : decode cX11_pieces 46 = .ok (.istore 4, 2) := by decide +kernel
theorem dX11_pieces_48 : decode cX11_pieces 48 = .ok (.iload 4, 2) := by decide +kernel
theorem dX11_pieces_50 : decode cX11_pieces 50 = .ok (.ifCond .eq 7, 3) := by decide +kernel
theorem dX11_pieces_53 : decode cX11_pieces 53 = .ok (.iload_n 3, 1) := by decide +kernel
theorem dX11_pieces_54 : decode cX11_pieces 54 = .ok (.goto 4, 3) := by decide +kernel
theorem dX11_pieces_57 : decode cX11_pieces 57 = .ok (.iload_n 2, 1) := by decide +kernel
theorem dX11_pieces_58 : decode cX11_pieces 58 = .ok (.istore_n 2, 1) := by decide +kernel
theorem dX11_pieces_59 : decode cX11_pieces 59 = .ok (.iload_n 1, 1) := by decide +kernel
theorem dX11_pieces_60 : decode cX11_pieces 60 = .ok (.iload 4, 2) := by decide +kernel
theorem dX11_pieces_62 : decode cX11_pieces 62 = .ok (.ifCond .eq 9, 3) := by decide +kernel
theorem dX11_pieces_65 : decode cX11_pieces 65 = .ok (.iconst 1, 1) := by decide +kernel
theorem dX11_pieces_66 : decode cX11_pieces 66 = .ok (.iload_n 3, 1) := by decide +kernel
theorem dX11_pieces_67 : decode cX11_pieces 67 = .ok (.ishl, 1) := by decide +kernel
theorem dX11_pieces_68 : decode cX11_pieces 68 = .ok (.goto 4, 3) := by decide +kernel
theorem dX11_pieces_71 : decode cX11_pieces 71 = .ok (.iconst 0, 1) := by decide +kernel
theorem dX11_pieces_72 : decode cX11_pieces 72 = .ok (.ior, 1) := by decide +kernel
theorem dX11_pieces_73 : decode cX11_pieces 73 = .ok (.istore_n 1, 1) := by decide +kernel
theorem dX11_pieces_74 : decode cX11_pieces 74 = .ok (.iinc 3 1, 3) := by decide +kernel
theorem dX11_pieces_77 : decode cX11_pieces 77 = .ok (.goto (-71), 3) := by decide +kernel
theorem dX11_pieces_80 : decode cX11_pieces 80 = .ok (.iload_n 1, 1) := by decide +kernel
theorem dX11_pieces_81 : decode cX11_pieces 81 = .ok (.ireturn, 1) := by decide +kernel
theorem dX11_least_0 : decode cX11_least 0 = .ok (.iconst 0, 1) := by decide +kernel
theorem dX11_least_1 : decode cX11_least 1 = .ok (.istore_n 1, 1) := by decide +kernel
theorem dX11_least_2 : decode cX11_least 2 = .ok (.aload_n 0, 1) := by decide +kernel
theorem dX11_least_3 : decode cX11_least 3 = .ok (.getfield 7, 3) := by decide +kernel
theorem dX11_least_6 : decode cX11_least 6 = .ok (.iconst 0, 1) := by decide +kernel
theorem dX11_least_7 : decode cX11_least 7 = .ok (.iaload, 1) := by decide +kernel
theorem dX11_least_8 : decode cX11_least 8 = .ok (.iconst 1, 1) := by decide +kernel
theorem dX11_least_9 : decode cX11_least 9 = .ok (.isub, 1) := by decide +kernel
theorem dX11_least_10 : decode cX11_least 10 = .ok (.istore_n 2, 1) := by decide +kernel
theorem dX11_least_11 : decode cX11_least 11 = .ok (.iload_n 2, 1) := by decide +kernel
theorem dX11_least_12 : decode cX11_least 12 = .ok (.ifCond .lt 138, 3) := by decide +kernel
theorem dX11_least_15 : decode cX11_least 15 = .ok (.aload_n 0, 1) := by decide +kernel
theorem dX11_least_16 : decode cX11_least 16 = .ok (.getfield 35, 3) := by decide +kernel
theorem dX11_least_19 : decode cX11_least 19 = .ok (.iload_n 2, 1) := by decide +kernel
theorem dX11_least_20 : decode cX11_least 20 = .ok (.iconst 1, 1) := by decide +kernel
theorem dX11_least_21 : decode cX11_least 21 = .ok (.iastore, 1) := by decide +kernel
theorem dX11_least_22 : decode cX11_least 22 = .ok (.aload_n 0, 1) := by decide +kernel
theorem dX11_least_23 : decode cX11_least 23 = .ok (.iload_n 2, 1) := by decide +kernel
theorem dX11_least_24 : decode cX11_least 24 = .ok (.invokevirtual 130, 3) := by decide +kernel
theorem dX11_least_27 : decode cX11_least 27 = .ok (.ifCond .eq 117, 3) := by decide +kernel
theorem dX11_least_30 : decode cX11_least 30 = .ok (.aload_n 0, 1) := by decide +kernel
theorem dX11_least_31 : decode cX11_least 31 = .ok (.iload_n 2, 1) := by decide +kernel
theorem dX11_least_32 : decode cX11_least 32 = .ok (.invokevirtual 140, 3) := by decide +kernel
theorem dX11_least_35 : decode cX11_least 35 = .ok (.ifCond .ne 109, 3) := by decide +kernel
theorem dX11_least_38 : decode cX11_least 38 = .ok (.aload_n 0, 1) := by decide +kernel
theorem dX11_least_39 : decode cX11_least 39 = .ok (.getfield 35, 3) := by decide +kernel
theorem dX11_least_42 : decode cX11_least 42 = .ok (.iload_n 2, 1) := by decide +kernel
theorem dX11_least_43 : decode cX11_least 43 = .ok (.bipush 15, 2) := by decide +kernel
theorem dX11_least_45 : decode cX11_least 45 = .ok (.iastore, 1) := by decide +kernel
theorem dX11_least_46 : decode cX11_least 46 = .ok (.iload_n 2, 1) := by decide +kernel
theorem dX11_least_47 : decode cX11_least 47 = .ok (.iconst 1, 1) := by decide +kernel
theorem dX11_least_48 : decode cX11_least 48 = .ok (.iadd, 1) := by decide +kernel
theorem dX11_least_49 : decode cX11_least 49 = .ok (.istore_n 3, 1) := by decide +kernel
theorem dX11_least_50 : decode cX11_least 50 = .ok (.aload_n 0, 1) := by decide +kernel
theorem dX11_least_51 : decode cX11_least 51 = .ok (.iload_n 3, 1) := by decide +kernel
theorem dX11_least_52 : decode cX11_least 52 = .ok (.invokevirtual 130, 3) := by decide +kernel
theorem dX11_least_55 : decode cX11_least 55 = .ok (.ifCond .eq 89, 3) := by decide +kernel
theorem dX11_least_58 : decode cX11_least 58 = .ok (.aload_n 0, 1) := by decide +kernel
theorem dX11_least_59 : decode cX11_least 59 = .ok (.iload_n 2, 1) := by decide +kernel
theorem dX11_least_60 : decode cX11_least 60 = .ok (.iload_n 3, 1) := by decide +kernel
theorem dX11_least_61 : decode cX11_least 61 = .ok (.aload_n 0, 1) := by decide +kernel
theorem dX11_least_62 : decode cX11_least 62 = .ok (.getfield 7, 3) := by decide +kernel
theorem dX11_least_65 : decode cX11_least 65 = .ok (.iconst 1, 1) := by decide +kernel
theorem dX11_least_66 : decode cX11_least 66 = .ok (.iaload, 1) := by decide +kernel
theorem dX11_least_67 : decode cX11_least 67 = .ok (.invokevirtual 143, 3) := by decide +kernel
theorem dX11_least_70 : decode cX11_least 70 = .ok (.bipush (-9), 2) := by decide +kernel
theorem dX11_least_72 : decode cX11_least 72 = .ok (.if_icmp .ne 24, 3) := by decide +kernel
theorem dX11_least_75 : decode cX11_least 75 = .ok (.aload_n 0, 1) := by decide +kernel
theorem dX11_least_76 : decode cX11_least 76 = .ok (.getfield 35, 3) := by decide +kernel
theorem dX11_least_79 : decode cX11_least 79 = .ok (.iload_n 3, 1) := by decide +kernel
theorem dX11_least_80 : decode cX11_least 80 = .ok (.iaload, 1) := by decide +kernel
theorem dX11_least_81 : decode cX11_least 81 = .ok (.iconst 1, 1) := by decide +kernel
theorem dX11_least_82 : decode cX11_least 82 = .ok (.iadd, 1) := by decide +kernel
theorem dX11_least_83 : decode cX11_least 83 = .ok (.aload_n 0, 1) := by decide +kernel
theorem dX11_least_84 : decode cX11_least 84 = .ok (.getfield 35, 3) := by decide +kernel
theorem dX11_least_87 : decode cX11_least 87 = .ok (.iload_n 2, 1) := by decide +kernel
theorem dX11_least_88 : decode cX11_least 88 = .ok (.iaload, 1) := by decide +kernel
theorem dX11_least_89 : decode cX11_least 89 = .ok (.if_icmp .ge 7, 3) := by decide +kernel
theorem dX11_least_92 : decode cX11_least 92 = .ok (.iconst 1, 1) := by decide +kernel
theorem dX11_least_93 : decode cX11_least 93 = .ok (.goto 4, 3) := by decide +kernel
theorem dX11_least_96 : decode cX11_least 96 = .ok (.iconst 0, 1) := by decide +kernel
theorem dX11_least_97 : decode cX11_least 97 = .ok (.istore 4, 2) := by decide +kernel
theorem dX11_least_99 : decode cX11_least 99 = .ok (.aload_n 0, 1) := by decide +kernel
theorem dX11_least_100 : decode cX11_least 100 = .ok (.getfield 35, 3) := by decide +kernel
theorem dX11_least_103 : decode cX11_least 103 = .ok (.iload_n 2, 1) := by decide +kernel
theorem dX11_least_104 : decode cX11_least 104 = .ok (.iload 4, 2) := by decide +kernel
theorem dX11_least_106 : decode cX11_least 106 = .ok (.ifCond .eq 14, 3) := by decide +kernel
theorem dX11_least_109 : decode cX11_least 109 = .ok (.aload_n 0, 1) := by decide +kernel
theorem dX11_least_110 : decode cX11_least 110 = .ok (.getfield 35, 3) := by decide +kernel
theorem dX11_least_113 : decode cX11_least 113 = .ok (.iload_n 3, 1) := by decide +kernel
theorem dX11_least_114 : decode cX11_least 114 = .ok (.iaload, 1) := by decide +kernel
theorem dX11_least_115 : decode cX11_least 115 = .ok (.iconst 1, 1) := by decide +kernel
theorem dX11_least_116 : decode cX11_least 116 = .ok (.iadd, 1) := by decide +kernel
theorem dX11_least_117 : decode cX11_least 117 = .ok (.goto 9, 3) := by decide +kernel
theorem dX11_least_120 : decode cX11_least 120 = .ok (.aload_n 0, 1) := by decide +kernel
theorem dX11_least_121 : decode cX11_least 121 = .ok (.getfield 35, 3) := by decide +kernel
theorem dX11_least_124 : decode cX11_least 124 = .ok (.iload_n 2, 1) := by decide +kernel
theorem dX11_least_125 : decode cX11_least 125 = .ok (.iaload, 1) := by decide +kernel
theorem dX11_least_126 : decode cX11_least 126 = .ok (.iastore, 1) := by decide +kernel
theorem dX11_least_127 : decode cX11_least 127 = .ok (.aload_n 0, 1) := by decide +kernel
theorem dX11_least_128 : decode cX11_least 128 = .ok (.iload_n 3, 1) := by decide +kernel
theorem dX11_least_129 : decode cX11_least 129 = .ok (.invokevirtual 140, 3) := by decide +kernel
theorem dX11_least_132 : decode cX11_least 132 = .ok (.ifCond .eq 6, 3) := by decide +kernel
theorem dX11_least_135 : decode cX11_least 135 = .ok (.goto 9, 3) := by decide +kernel
theorem dX11_least_138 : decode cX11_least 138 = .ok (.iinc 3 1, 3) := by decide +kernel
theorem dX11_least_141 : decode cX11_least 141 = .ok (.goto (-91), 3) := by decide +kernel
theorem dX11_least_144 : decode cX11_least 144 = .ok (.iinc 2 (-1), 3) := by decide +kernel
theorem dX11_least_147 : decode cX11_least 147 = .ok (.goto (-136), 3) := by decide +kernel
theorem dX11_least_150 : decode cX11_least 150 = .ok (.iconst 0, 1) := by decide +kernel
theorem dX11_least_151 : decode cX11_least 151 = .ok (.istore_n 2, 1) := by decide +kernel
theorem dX11_least_152 : decode cX11_least 152 = .ok (.iload_n 2, 1) := by decide +kernel
theorem dX11_least_153 : decode cX11_least 153 = .ok (.aload_n 0, 1) := by decide +kernel
theorem dX11_least_154 : decode cX11_least 154 = .ok (.getfield 7, 3) := by decide +kernel
theorem dX11_least_157 : decode cX11_least 157 = .ok (.iconst 0, 1) := by decide +kernel
theorem dX11_least_158 : decode cX11_least 158 = .ok (.iaload, 1) := by decide +kernel
theorem dX11_least_159 : decode cX11_least 159 = .ok (.if_icmp .ge 92, 3) := by decide +kernel
theorem dX11_least_162 : decode cX11_least 162 = .ok (.aload_n 0, 1) := by decide +kernel
theorem dX11_least_163 : decode cX11_least 163 = .ok (.iload_n 2, 1) := by decide +kernel
theorem dX11_least_164 : decode cX11_least 164 = .ok (.invokevirtual 133, 3) := by decide +kernel
theorem dX11_least_167 : decode cX11_least 167 = .ok (.ifCond .eq 78, 3) := by decide +kernel
theorem dX11_least_170 : decode cX11_least 170 = .ok (.iload_n 2, 1) := by decide +kernel
theorem dX11_least_171 : decode cX11_least 171 = .ok (.istore_n 3, 1) := by decide +kernel
theorem dX11_least_172 : decode cX11_least 172 = .ok (.iload_n 1, 1) := by decide +kernel
theorem dX11_least_173 : decode cX11_least 173 = .ok (.iconst 1, 1) := by decide +kernel
theorem dX11_least_174 : decode cX11_least 174 = .ok (.iload_n 3, 1) := by decide +kernel
theorem dX11_least_175 : decode cX11_least 175 = .ok (.ishl, 1) := by decide +kernel
theorem dX11_least_176 : decode cX11_least 176 = .ok (.ior, 1) := by decide +kernel
theorem dX11_least_177 : decode cX11_least 177 = .ok (.istore_n 1, 1) := by decide +kernel
theorem dX11_least_178 : decode cX11_least 178 = .ok (.aload_n 0, 1) := by decide +kernel
theorem dX11_least_179 : decode cX11_least 179 = .ok (.iload_n 3, 1) := by decide +kernel
theorem dX11_least_180 : decode cX11_least 180 = .ok (.invokevirtual 140, 3) := by decide +kernel
theorem dX11_least_183 : decode cX11_least 183 = .ok (.ifCond .ne 62, 3) := by decide +kernel
theorem dX11_least_186 : decode cX11_least 186 = .ok (.iload_n 3, 1) := by decide +kernel
theorem dX11_least_187 : decode cX11_least 187 = .ok (.iconst 1, 1) := by decide +kernel
theorem dX11_least_188 : decode cX11_least 188 = .ok (.iadd, 1) := by decide +kernel
theorem dX11_least_189 : decode cX11_least 189 = .ok (.istore 4, 2) := by decide +kernel
theorem dX11_least_191 : decode cX11_least 191 = .ok (.aload_n 0, 1) := by decide +kernel
theorem dX11_least_192 : decode cX11_least 192 = .ok (.iload_n 3, 1) := by decide +kernel
theorem dX11_least_193 : decode cX11_least 193 = .ok (.iload 4, 2) := by decide +kernel
theorem dX11_least_195 : decode cX11_least 195 = .ok (.aload_n 0, 1) := by decide +kernel
theorem dX11_least_196 : decode cX11_least 196 = .ok (.getfield 7, 3) := by decide +kernel
theorem dX11_least_199 : decode cX11_least 199 = .ok (.iconst 1, 1) := by decide +kernel
theorem dX11_least_200 : decode cX11_least 200 = .ok (.iaload, 1) := by decide +kernel
theorem dX11_least_201 : decode cX11_least 201 = .ok (.invokevirtual 143, 3) := by decide +kernel
theorem dX11_least_204 : decode cX11_least 204 = .ok (.bipush (-9), 2) := by decide +kernel
theorem dX11_least_206 : decode cX11_least 206 = .ok (.if_icmp .ne 21, 3) := by decide +kernel
theorem dX11_least_209 : decode cX11_least 209 = .ok (.aload_n 0, 1) := by decide +kernel
theorem dX11_least_210 : decode cX11_least 210 = .ok (.getfield 35, 3) := by decide +kernel
theorem dX11_least_213 : decode cX11_least 213 = .ok (.iload 4, 2) := by decide +kernel
theorem dX11_least_215 : decode cX11_least 215 = .ok (.iaload, 1) := by decide +kernel
theorem dX11_least_216 : decode cX11_least 216 = .ok (.iconst 1, 1) := by decide +kernel
theorem dX11_least_217 : decode cX11_least 217 = .ok (.iadd, 1) := by decide +kernel
theorem dX11_least_218 : decode cX11_least 218 = .ok (.aload_n 0, 1) := by decide +kernel
theorem dX11_least_219 : decode cX11_least 219 = .ok (.getfield 35, 3) := by decide +kernel
theorem dX11_least_222 : decode cX11_least 222 = .ok (.iload_n 3, 1) := by decide +kernel
theorem dX11_least_223 : decode cX11_least 223 = .ok (.iaload, 1) := by decide +kernel
theorem dX11_least_224 : decode cX11_least 224 = .ok (.if_icmp .eq 9, 3) := by decide +kernel
theorem dX11_least_227 : decode cX11_least 227 = .ok (.iinc 4 1, 3) := by decide +kernel
theorem dX11_least_230 : decode cX11_least 230 = .ok (.goto (-39), 3) := by decide +kernel
theorem dX11_least_233 : decode cX11_least 233 = .ok (.iload 4, 2) := by decide +kernel
theorem dX11_least_235 : decode cX11_least 235 = .ok (.istore_n 3, 1) := by decide +kernel
theorem dX11_least_236 : decode cX11_least 236 = .ok (.iload_n 1, 1) := by decide +kernel
theorem dX11_least_237 : decode cX11_least 237 = .ok (.iconst 1, 1) := by decide +kernel
theorem dX11_least_238 : decode cX11_least 238 = .ok (.iload_n 3, 1) := by decide +kernel
theorem dX11_least_239 : decode cX11_least 239 = .ok (.ishl, 1) := by decide +kernel
theorem dX11_least_240 : decode cX11_least 240 = .ok (.ior, 1) := by decide +kernel
theorem dX11_least_241 : decode cX11_least 241 = .ok (.istore_n 1, 1) := by decide +kernel
theorem dX11_least_242 : decode cX11_least 242 = .ok (.goto (-64), 3) := by decide +kernel
theorem dX11_least_245 : decode cX11_least 245 = .ok (.iinc 2 1, 3) := by decide +kernel
theorem dX11_least_248 : decode cX11_least 248 = .ok (.goto (-96), 3) := by decide +kernel
theorem dX11_least_251 : decode cX11_least 251 = .ok (.iload_n 1, 1) := by decide +kernel
theorem dX11_least_252 : decode cX11_least 252 = .ok (.ireturn, 1) := by decide +kernel
theorem dX11_reading_0 : decode cX11_reading 0 = .ok (.aload_n 0, 1) := by decide +kernel
theorem dX11_reading_1 : decode cX11_reading 1 = .ok (.iload_n 1, 1) := by decide +kernel
theorem dX11_reading_2 : decode cX11_reading 2 = .ok (.invokevirtual 113, 3) := by decide +kernel
theorem dX11_reading_5 : decode cX11_reading 5 = .ok (.ifCond .eq 13, 3) := by decide +kernel
theorem dX11_reading_8 : decode cX11_reading 8 = .ok (.iload_n 2, 1) := by decide +kernel
theorem dX11_reading_9 : decode cX11_reading 9 = .ok (.iconst 0, 1) := by decide +kernel
theorem dX11_reading_10 : decode cX11_reading 10 = .ok (.bipush 6, 2) := by decide +kernel
theorem dX11_reading_12 : decode cX11_reading 12 = .ok (.invokestatic 48, 3) := by decide +kernel
theorem dX11_reading_15 : decode cX11_reading 15 = .ok (.ifCond .ne 5, 3) := by decide +kernel
theorem dX11_reading_18 : decode cX11_reading 18 = .ok (.iconst (-1), 1) := by decide +kernel
theorem dX11_reading_19 : decode cX11_reading 19 = .ok (.ireturn, 1) := by decide +kernel
theorem dX11_reading_20 : decode cX11_reading 20 = .ok (.aload_n 0, 1) := by decide +kernel
theorem dX11_reading_21 : decode cX11_reading 21 = .ok (.iload_n 1, 1) := by decide +kernel
theorem dX11_reading_22 : decode cX11_reading 22 = .ok (.invokevirtual 130, 3) := by decide +kernel
theorem dX11_reading_25 : decode cX11_reading 25 = .ok (.istore_n 3, 1) := by decide +kernel
theorem dX11_reading_26 : decode cX11_reading 26 = .ok (.iload_n 2, 1) := by decide +kernel
theorem dX11_reading_27 : decode cX11_reading 27 = .ok (.iconst 4, 1) := by decide +kernel
theorem dX11_reading_28 : decode cX11_reading 28 = .ok (.if_icmp .eq 8, 3) := by decide +kernel
theorem dX11_reading_31 : decode cX11_reading 31 = .ok (.iload_n 2, 1) := by decide +kernel
theorem dX11_reading_32 : decode cX11_reading 32 = .ok (.iconst 5, 1) := by decide +kernel
theorem dX11_reading_33 : decode cX11_reading 33 = .ok (.if_icmp .ne 16, 3) := by decide +kernel
theorem dX11_reading_36 : decode cX11_reading 36 = .ok (.aload_n 0, 1) := by decide +kernel
theorem dX11_reading_37 : decode cX11_reading 37 = .ok (.aload_n 0, 1) := by decide +kernel
theorem dX11_reading_38 : decode cX11_reading 38 = .ok (.getfield 7, 3) := by decide +kernel
theorem dX11_reading_41 : decode cX11_reading 41 = .ok (.iconst 1, 1) := by decide +kernel
theorem dX11_reading_42 : decode cX11_reading 42 = .ok (.iaload, 1) := by decide +kernel
theorem dX11_reading_43 : decode cX11_reading 43 = .ok (.invokevirtual 172, 3) := by decide +kernel
theorem dX11_reading_46 : decode cX11_reading 46 = .ok (.goto 29, 3) := by decide +kernel
theorem dX11_reading_49 : decode cX11_reading 49 = .ok (.iload_n 2, 1) := by decide +kernel
theorem dX11_reading_50 : decode cX11_reading 50 = .ok (.bipush 6, 2) := by decide +kernel
theorem dX11_reading_52 : decode cX11_reading 52 = .ok (.if_icmp .ne 10, 3) := by decide +kernel
theorem dX11_reading_55 : decode cX11_reading 55 = .ok (.aload_n 0, 1) := by decide +kernel
theorem dX11_reading_56 : decode cX11_reading 56 = .ok (.invokevirtual 176, 3) := by decide +kernel
theorem dX11_reading_59 : decode cX11_reading 59 = .ok (.goto 16, 3) := by decide +kernel
theorem dX11_reading_62 : decode cX11_reading 62 = .ok (.iload_n 2, 1) := by decide +kernel
theorem dX11_reading_63 : decode cX11_reading 63 = .ok (.iconst 3, 1) := by decide +kernel
theorem dX11_reading_64 : decode cX11_reading 64 = .ok (.if_icmp .ne 10, 3) := by decide +kernel
theorem dX11_reading_67 : decode cX11_reading 67 = .ok (.aload_n 0, 1) := by decide +kernel
theorem dX11_reading_68 : decode cX11_reading 68 = .ok (.invokevirtual 180, 3) := by decide +kernel
theorem dX11_reading_71 : decode cX11_reading 71 = .ok (.goto 4, 3) := by decide +kernel
theorem dX11_reading_74 : decode cX11_reading 74 = .ok (.iconst 0, 1) := by decide +kernel
theorem dX11_reading_75 : decode cX11_reading 75 = .ok (.istore 4, 2) := by decide +kernel
theorem dX11_reading_77 : decode cX11_reading 77 = .ok (.iload_n 2, 1) := by decide +kernel
theorem dX11_reading_78 : decode cX11_reading 78 = .ok (.tableswitch 108 0 5 #[38, 47, 57, 63, 108, 86], 38) := by decide +kernel
theorem dX11_reading_116 : decode cX11_reading 116 = .ok (.aload_n 0, 1) := by decide +kernel
theorem dX11_reading_117 : decode cX11_reading 117 = .ok (.getfield 7, 3) := by decide +kernel
theorem dX11_reading_120 : decode cX11_reading 120 = .ok (.iconst 3, 1) := by decide +kernel
theorem dX11_reading_121 : decode cX11_reading 121 = .ok (.iload_n 1, 1) := by decide +kernel
theorem dX11_reading_122 : decode cX11_reading 122 = .ok (.iadd, 1) := by decide +kernel
theorem dX11_reading_123 : decode cX11_reading 123 = .ok (.iaload, 1) := by decide +kernel
theorem dX11_reading_124 : decode cX11_reading 124 = .ok (.ireturn, 1) := by decide +kernel
theorem dX11_reading_125 : decode cX11_reading 125 = .ok (.aload_n 0, 1) := by decide +kernel
theorem dX11_reading_126 : decode cX11_reading 126 = .ok (.getfield 7, 3) := by decide +kernel
theorem dX11_reading_129 : decode cX11_reading 129 = .ok (.bipush 17, 2) := by decide +kernel
theorem dX11_reading_131 : decode cX11_reading 131 = .ok (.iload_n 1, 1) := by decide +kernel
theorem dX11_reading_132 : decode cX11_reading 132 = .ok (.iadd, 1) := by decide +kernel
theorem dX11_reading_133 : decode cX11_reading 133 = .ok (.iaload, 1) := by decide +kernel
theorem dX11_reading_134 : decode cX11_reading 134 = .ok (.ireturn, 1) := by decide +kernel
theorem dX11_reading_135 : decode cX11_reading 135 = .ok (.aload_n 0, 1) := by decide +kernel
theorem dX11_reading_136 : decode cX11_reading 136 = .ok (.iload_n 1, 1) := by decide +kernel
theorem dX11_reading_137 : decode cX11_reading 137 = .ok (.invokevirtual 183, 3) := by decide +kernel
theorem dX11_reading_140 : decode cX11_reading 140 = .ok (.ireturn, 1) := by decide +kernel
theorem dX11_reading_141 : decode cX11_reading 141 = .ok (.iload_n 3, 1) := by decide +kernel
theorem dX11_reading_142 : decode cX11_reading 142 = .ok (.ifCond .eq 19, 3) := by decide +kernel
theorem dX11_reading_145 : decode cX11_reading 145 = .ok (.iload 4, 2) := by decide +kernel
theorem dX11_reading_147 : decode cX11_reading 147 = .ok (.iconst 2, 1) := by decide +kernel
theorem dX11_reading_148 : decode cX11_reading 148 = .ok (.iload_n 1, 1) := by decide +kernel
theorem dX11_reading_149 : decode cX11_reading 149 = .ok (.ishl, 1) := by decide +kernel
theorem dX11_reading_150 : decode cX11_reading 150 = .ok (.iconst 1, 1) := by decide +kernel
theorem dX11_reading_151 : decode cX11_reading 151 = .ok (.isub, 1) := by decide +kernel
theorem dX11_reading_152 : decode cX11_reading 152 = .ok (.iand, 1) := by decide +kernel
theorem dX11_reading_153 : decode cX11_reading 153 = .ok (.invokestatic 186, 3) := by decide +kernel
theorem dX11_reading_156 : decode cX11_reading 156 = .ok (.iconst 1, 1) := by decide +kernel
theorem dX11_reading_157 : decode cX11_reading 157 = .ok (.isub, 1) := by decide +kernel
theorem dX11_reading_158 : decode cX11_reading 158 = .ok (.goto 5, 3) := by decide +kernel
theorem dX11_reading_161 : decode cX11_reading 161 = .ok (.bipush (-9), 2) := by decide +kernel
theorem dX11_reading_163 : decode cX11_reading 163 = .ok (.ireturn, 1) := by decide +kernel
theorem dX11_reading_164 : decode cX11_reading 164 = .ok (.iload 4, 2) := by decide +kernel
theorem dX11_reading_166 : decode cX11_reading 166 = .ok (.iload_n 1, 1) := by decide +kernel
theorem dX11_reading_167 : decode cX11_reading 167 = .ok (.invokestatic 87, 3) := by decide +kernel
theorem dX11_reading_170 : decode cX11_reading 170 = .ok (.ifCond .eq 13, 3) := by decide +kernel
theorem dX11_reading_173 : decode cX11_reading 173 = .ok (.aload_n 0, 1) := by decide +kernel
theorem dX11_reading_174 : decode cX11_reading 174 = .ok (.iload 4, 2) := by decide +kernel
theorem dX11_reading_176 : decode cX11_reading 176 = .ok (.iload_n 1, 1) := by decide +kernel
theorem dX11_reading_177 : decode cX11_reading 177 = .ok (.invokevirtual 189, 3) := by decide +kernel
theorem dX11_reading_180 : decode cX11_reading 180 = .ok (.goto 5, 3) := by decide +kernel
theorem dX11_reading_183 : decode cX11_reading 183 = .ok (.bipush (-9), 2) := by decide +kernel
theorem dX11_reading_185 : decode cX11_reading 185 = .ok (.ireturn, 1) := by decide +kernel
theorem dX11_reading_186 : decode cX11_reading 186 = .ok (.iload 4, 2) := by decide +kernel
theorem dX11_reading_188 : decode cX11_reading 188 = .ok (.iload_n 1, 1) := by decide +kernel
theorem dX11_reading_189 : decode cX11_reading 189 = .ok (.invokestatic 87, 3) := by decide +kernel
theorem dX11_reading_192 : decode cX11_reading 192 = .ok (.ifCond .eq 7, 3) := by decide +kernel
theorem dX11_reading_195 : decode cX11_reading 195 = .ok (.iconst 1, 1) := by decide +kernel
theorem dX11_reading_196 : decode cX11_reading 196 = .ok (.goto 4, 3) := by decide +kernel
theorem dX11_reading_199 : decode cX11_reading 199 = .ok (.iconst 0, 1) := by decide +kernel
theorem dX11_reading_200 : decode cX11_reading 200 = .ok (.ireturn, 1) := by decide +kernel
theorem dX11_isSide_0 : decode cX11_isSide 0 = .ok (.aload_n 0, 1) := by decide +kernel
theorem dX11_isSide_1 : decode cX11_isSide 1 = .ok (.iload_n 1, 1) := by decide +kernel
theorem dX11_isSide_2 : decode cX11_isSide 2 = .ok (.invokevirtual 130, 3) := by decide +kernel
theorem dX11_isSide_5 : decode cX11_isSide 5 = .ok (.ifCond .eq 28, 3) := by decide +kernel
theorem dX11_isSide_8 : decode cX11_isSide 8 = .ok (.aload_n 0, 1) := by decide +kernel
theorem dX11_isSide_9 : decode cX11_isSide 9 = .ok (.iload_n 2, 1) := by decide +kernel
theorem dX11_isSide_10 : decode cX11_isSide 10 = .ok (.invokevirtual 130, 3) := by decide +kernel
theorem dX11_isSide_13 : decode cX11_isSide 13 = .ok (.ifCond .eq 20, 3) := by decide +kernel
theorem dX11_isSide_16 : decode cX11_isSide 16 = .ok (.aload_n 0, 1) := by decide +kernel
theorem dX11_isSide_17 : decode cX11_isSide 17 = .ok (.iload_n 1, 1) := by decide +kernel
theorem dX11_isSide_18 : decode cX11_isSide 18 = .ok (.invokevirtual 183, 3) := by decide +kernel
theorem dX11_isSide_21 : decode cX11_isSide 21 = .ok (.aload_n 0, 1) := by decide +kernel
theorem dX11_isSide_22 : decode cX11_isSide 22 = .ok (.iload_n 2, 1) := by decide +kernel
theorem dX11_isSide_23 : decode cX11_isSide 23 = .ok (.invokevirtual 183, 3) := by decide +kernel
theorem dX11_isSide_26 : decode cX11_isSide 26 = .ok (.if_icmp .ne 7, 3) := by decide +kernel
theorem dX11_isSide_29 : decode cX11_isSide 29 = .ok (.iconst 1, 1) := by decide +kernel
theorem dX11_isSide_30 : decode cX11_isSide 30 = .ok (.goto 4, 3) := by decide +kernel
theorem dX11_isSide_33 : decode cX11_isSide 33 = .ok (.iconst 0, 1) := by decide +kernel
theorem dX11_isSide_34 : decode cX11_isSide 34 = .ok (.ireturn, 1) := by decide +kernel
theorem dX11_lowest_0 : decode cX11_lowest 0 = .ok (.lload_n 0, 1) := by decide +kernel
theorem dX11_lowest_1 : decode cX11_lowest 1 = .ok (.lstore 5, 2) := by decide +kernel
theorem dX11_lowest_3 : decode cX11_lowest 3 = .ok (.lload_n 2, 1) := by decide +kernel
theorem dX11_lowest_4 : decode cX11_lowest 4 = .ok (.lstore 7, 2) := by decide +kernel
theorem dX11_lowest_6 : decode cX11_lowest 6 = .ok (.lload 7, 2) := by decide +kernel
theorem dX11_lowest_8 : decode cX11_lowest 8 = .ok (.lconst 0, 1) := by decide +kernel
theorem dX11_lowest_9 : decode cX11_lowest 9 = .ok (.lcmp, 1) := by decide +kernel
theorem dX11_lowest_10 : decode cX11_lowest 10 = .ok (.ifCond .eq 21, 3) := by decide +kernel
theorem dX11_lowest_13 : decode cX11_lowest 13 = .ok (.lload 5, 2) := by decide +kernel
theorem dX11_lowest_15 : decode cX11_lowest 15 = .ok (.lload 7, 2) := by decide +kernel
theorem dX11_lowest_17 : decode cX11_lowest 17 = .ok (.lrem, 1) := by decide +kernel
theorem dX11_lowest_18 : decode cX11_lowest 18 = .ok (.lstore 9, 2) := by decide +kernel
theorem dX11_lowest_20 : decode cX11_lowest 20 = .ok (.lload 7, 2) := by decide +kernel
theorem dX11_lowest_22 : decode cX11_lowest 22 = .ok (.lstore 5, 2) := by decide +kernel
theorem dX11_lowest_24 : decode cX11_lowest 24 = .ok (.lload 9, 2) := by decide +kernel
theorem dX11_lowest_26 : decode cX11_lowest 26 = .ok (.lstore 7, 2) := by decide +kernel
theorem dX11_lowest_28 : decode cX11_lowest 28 = .ok (.goto (-22), 3) := by decide +kernel
theorem dX11_lowest_31 : decode cX11_lowest 31 = .ok (.iload 4, 2) := by decide +kernel
theorem dX11_lowest_33 : decode cX11_lowest 33 = .ok (.ifCond .eq 10, 3) := by decide +kernel
theorem dX11_lowest_36 : decode cX11_lowest 36 = .ok (.lload_n 0, 1) := by decide +kernel
theorem dX11_lowest_37 : decode cX11_lowest 37 = .ok (.lload 5, 2) := by decide +kernel
theorem dX11_lowest_39 : decode cX11_lowest 39 = .ok (.ldiv, 1) := by decide +kernel
theorem dX11_lowest_40 : decode cX11_lowest 40 = .ok (.goto 7, 3) := by decide +kernel
theorem dX11_lowest_43 : decode cX11_lowest 43 = .ok (.lload_n 2, 1) := by decide +kernel
theorem dX11_lowest_44 : decode cX11_lowest 44 = .ok (.lload 5, 2) := by decide +kernel
theorem dX11_lowest_46 : decode cX11_lowest 46 = .ok (.ldiv, 1) := by decide +kernel
theorem dX11_lowest_47 : decode cX11_lowest 47 = .ok (.l2i, 1) := by decide +kernel
theorem dX11_lowest_48 : decode cX11_lowest 48 = .ok (.ireturn, 1) := by decide +kernel
theorem dX11_apart_0 : decode cX11_apart 0 = .ok (.aload_n 0, 1) := by decide +kernel
theorem dX11_apart_1 : decode cX11_apart 1 = .ok (.iload_n 1, 1) := by decide +kernel
theorem dX11_apart_2 : decode cX11_apart 2 = .ok (.iload_n 2, 1) := by decide +kernel
theorem dX11_apart_3 : decode cX11_apart 3 = .ok (.invokevirtual 192, 3) := by decide +kernel
theorem dX11_apart_6 : decode cX11_apart 6 = .ok (.ifCond .eq 17, 3) := by decide +kernel
theorem dX11_apart_9 : decode cX11_apart 9 = .ok (.iload_n 1, 1) := by decide +kernel
theorem dX11_apart_10 : decode cX11_apart 10 = .ok (.iload_n 2, 1) := by decide +kernel
theorem dX11_apart_11 : decode cX11_apart 11 = .ok (.if_icmp .ge 12, 3) := by decide +kernel
theorem dX11_apart_14 : decode cX11_apart 14 = .ok (.iload_n 3, 1) := by decide +kernel
theorem dX11_apart_15 : decode cX11_apart 15 = .ok (.iconst 0, 1) := by decide +kernel
theorem dX11_apart_16 : decode cX11_apart 16 = .ok (.iconst 2, 1) := by decide +kernel
theorem dX11_apart_17 : decode cX11_apart 17 = .ok (.invokestatic 48, 3) := by decide +kernel
theorem dX11_apart_20 : decode cX11_apart 20 = .ok (.ifCond .ne 5, 3) := by decide +kernel
theorem dX11_apart_23 : decode cX11_apart 23 = .ok (.iconst (-1), 1) := by decide +kernel
theorem dX11_apart_24 : decode cX11_apart 24 = .ok (.ireturn, 1) := by decide +kernel
theorem dX11_apart_25 : decode cX11_apart 25 = .ok (.bipush (-9), 2) := by decide +kernel
theorem dX11_apart_27 : decode cX11_apart 27 = .ok (.istore 4, 2) := by decide +kernel
theorem dX11_apart_29 : decode cX11_apart 29 = .ok (.iconst (-1), 1) := by decide +kernel
theorem dX11_apart_30 : decode cX11_apart 30 = .ok (.istore 5, 2) := by decide +kernel
theorem dX11_apart_32 : decode cX11_apart 32 = .ok (.iload_n 1, 1) := by decide +kernel
theorem dX11_apart_33 : decode cX11_apart 33 = .ok (.iconst 1, 1) := by decide +kernel
theorem dX11_apart_34 : decode cX11_apart 34 = .ok (.iadd, 1) := by decide +kernel
theorem dX11_apart_35 : decode cX11_apart 35 = .ok (.istore 6, 2) := by decide +kernel
theorem dX11_apart_37 : decode cX11_apart 37 = .ok (.iload 6, 2) := by decide +kernel
theorem dX11_apart_39 : decode cX11_apart 39 = .ok (.iload_n 2, 1) := by decide +kernel
theorem dX11_apart_40 : decode cX11_apart 40 = .ok (.if_icmp .ge 51, 3) := by decide +kernel
theorem dX11_apart_43 : decode cX11_apart 43 = .ok (.aload_n 0, 1) := by decide +kernel
theorem dX11_apart_44 : decode cX11_apart 44 = .ok (.iload_n 1, 1) := by decide +kernel
theorem dX11_apart_45 : decode cX11_apart 45 = .ok (.iload 6, 2) := by decide +kernel
theorem dX11_apart_47 : decode cX11_apart 47 = .ok (.iload_n 2, 1) := by decide +kernel
theorem dX11_apart_48 : decode cX11_apart 48 = .ok (.invokevirtual 136, 3) := by decide +kernel
theorem dX11_apart_51 : decode cX11_apart 51 = .ok (.istore 7, 2) := by decide +kernel
theorem dX11_apart_53 : decode cX11_apart 53 = .ok (.iload 7, 2) := by decide +kernel
theorem dX11_apart_55 : decode cX11_apart 55 = .ok (.iload 5, 2) := by decide +kernel
theorem dX11_apart_57 : decode cX11_apart 57 = .ok (.if_icmp .le 8, 3) := by decide +kernel
theorem dX11_apart_60 : decode cX11_apart 60 = .ok (.iload 6, 2) := by decide +kernel
theorem dX11_apart_62 : decode cX11_apart 62 = .ok (.goto 5, 3) := by decide +kernel
theorem dX11_apart_65 : decode cX11_apart 65 = .ok (.iload 4, 2) := by decide +kernel
theorem dX11_apart_67 : decode cX11_apart 67 = .ok (.istore 4, 2) := by decide +kernel
theorem dX11_apart_69 : decode cX11_apart 69 = .ok (.iload 7, 2) := by decide +kernel
theorem dX11_apart_71 : decode cX11_apart 71 = .ok (.iload 5, 2) := by decide +kernel
theorem dX11_apart_73 : decode cX11_apart 73 = .ok (.if_icmp .le 8, 3) := by decide +kernel
theorem dX11_apart_76 : decode cX11_apart 76 = .ok (.iload 7, 2) := by decide +kernel
theorem dX11_apart_78 : decode cX11_apart 78 = .ok (.goto 5, 3) := by decide +kernel
theorem dX11_apart_81 : decode cX11_apart 81 = .ok (.iload 5, 2) := by decide +kernel
theorem dX11_apart_83 : decode cX11_apart 83 = .ok (.istore 5, 2) := by decide +kernel
theorem dX11_apart_85 : decode cX11_apart 85 = .ok (.iinc 6 1, 3) := by decide +kernel
theorem dX11_apart_88 : decode cX11_apart 88 = .ok (.goto (-51), 3) := by decide +kernel
theorem dX11_apart_91 : decode cX11_apart 91 = .ok (.iload 4, 2) := by decide +kernel
theorem dX11_apart_93 : decode cX11_apart 93 = .ok (.bipush (-9), 2) := by decide +kernel
theorem dX11_apart_95 : decode cX11_apart 95 = .ok (.if_icmp .eq 8, 3) := by decide +kernel
theorem dX11_apart_98 : decode cX11_apart 98 = .ok (.iload_n 3, 1) := by decide +kernel
theorem dX11_apart_99 : decode cX11_apart 99 = .ok (.iconst 2, 1) := by decide +kernel
theorem dX11_apart_100 : decode cX11_apart 100 = .ok (.if_icmp .ne 8, 3) := by decide +kernel
theorem dX11_apart_103 : decode cX11_apart 103 = .ok (.iload 4, 2) := by decide +kernel
theorem dX11_apart_105 : decode cX11_apart 105 = .ok (.goto 36, 3) := by decide +kernel
theorem dX11_apart_108 : decode cX11_apart 108 = .ok (.iload 5, 2) := by decide +kernel
theorem dX11_apart_110 : decode cX11_apart 110 = .ok (.i2l, 1) := by decide +kernel
theorem dX11_apart_111 : decode cX11_apart 111 = .ok (.aload_n 0, 1) := by decide +kernel
theorem dX11_apart_112 : decode cX11_apart 112 = .ok (.getfield 7, 3) := by decide +kernel
theorem dX11_apart_115 : decode cX11_apart 115 = .ok (.iconst 3, 1) := by decide +kernel
theorem dX11_apart_116 : decode cX11_apart 116 = .ok (.iload_n 2, 1) := by decide +kernel
theorem dX11_apart_117 : decode cX11_apart 117 = .ok (.iadd, 1) := by decide +kernel
theorem dX11_apart_118 : decode cX11_apart 118 = .ok (.iaload, 1) := by decide +kernel
theorem dX11_apart_119 : decode cX11_apart 119 = .ok (.aload_n 0, 1) := by decide +kernel
theorem dX11_apart_120 : decode cX11_apart 120 = .ok (.getfield 7, 3) := by decide +kernel
theorem dX11_apart_123 : decode cX11_apart 123 = .ok (.iconst 3, 1) := by decide +kernel
theorem dX11_apart_124 : decode cX11_apart 124 = .ok (.iload_n 1, 1) := by decide +kernel
theorem dX11_apart_125 : decode cX11_apart 125 = .ok (.iadd, 1) := by decide +kernel
theorem dX11_apart_126 : decode cX11_apart 126 = .ok (.iaload, 1) := by decide +kernel
theorem dX11_apart_127 : decode cX11_apart 127 = .ok (.isub, 1) := by decide +kernel
theorem dX11_apart_128 : decode cX11_apart 128 = .ok (.i2l, 1) := by decide +kernel
theorem dX11_apart_129 : decode cX11_apart 129 = .ok (.iload_n 3, 1) := by decide +kernel
theorem dX11_apart_130 : decode cX11_apart 130 = .ok (.ifCond .ne 7, 3) := by decide +kernel
theorem dX11_apart_133 : decode cX11_apart 133 = .ok (.iconst 1, 1) := by decide +kernel
theorem dX11_apart_134 : decode cX11_apart 134 = .ok (.goto 4, 3) := by decide +kernel
theorem dX11_apart_137 : decode cX11_apart 137 = .ok (.iconst 0, 1) := by decide +kernel
theorem dX11_apart_138 : decode cX11_apart 138 = .ok (.invokestatic 195, 3) := by decide +kernel
theorem dX11_apart_141 : decode cX11_apart 141 = .ok (.ireturn, 1) := by decide +kernel
theorem dX11_why_0 : decode cX11_why 0 = .ok (.aload_n 0, 1) := by decide +kernel
theorem dX11_why_1 : decode cX11_why 1 = .ok (.iload_n 1, 1) := by decide +kernel
theorem dX11_why_2 : decode cX11_why 2 = .ok (.iload_n 2, 1) := by decide +kernel
theorem dX11_why_3 : decode cX11_why 3 = .ok (.invokevirtual 192, 3) := by decide +kernel
theorem dX11_why_6 : decode cX11_why 6 = .ok (.ifCond .eq 23, 3) := by decide +kernel
theorem dX11_why_9 : decode cX11_why 9 = .ok (.iload_n 1, 1) := by decide +kernel
theorem dX11_why_10 : decode cX11_why 10 = .ok (.iload_n 2, 1) := by decide +kernel
theorem dX11_why_11 : decode cX11_why 11 = .ok (.if_icmp .ge 18, 3) := by decide +kernel
theorem dX11_why_14 : decode cX11_why 14 = .ok (.aload_n 0, 1) := by decide +kernel
theorem dX11_why_15 : decode cX11_why 15 = .ok (.iload_n 1, 1) := by decide +kernel
theorem dX11_why_16 : decode cX11_why 16 = .ok (.iload_n 2, 1) := by decide +kernel
theorem dX11_why_17 : decode cX11_why 17 = .ok (.aload_n 0, 1) := by decide +kernel
theorem dX11_why_18 : decode cX11_why 18 = .ok (.getfield 7, 3) := by decide +kernel
theorem dX11_why_21 : decode cX11_why 21 = .ok (.iconst 1, 1) := by decide +kernel
theorem dX11_why_22 : decode cX11_why 22 = .ok (.iaload, 1) := by decide +kernel
theorem dX11_why_23 : decode cX11_why 23 = .ok (.invokevirtual 143, 3) := by decide +kernel
theorem dX11_why_26 : decode cX11_why 26 = .ok (.goto 4, 3) := by decide +kernel
theorem dX11_why_29 : decode cX11_why 29 = .ok (.iconst (-1), 1) := by decide +kernel
theorem dX11_why_30 : decode cX11_why 30 = .ok (.ireturn, 1) := by decide +kernel
theorem dX11_strip_0 : decode cX11_strip 0 = .ok (.aload_n 0, 1) := by decide +kernel
theorem dX11_strip_1 : decode cX11_strip 1 = .ok (.iload_n 1, 1) := by decide +kernel
theorem dX11_strip_2 : decode cX11_strip 2 = .ok (.iload_n 2, 1) := by decide +kernel
theorem dX11_strip_3 : decode cX11_strip 3 = .ok (.invokevirtual 192, 3) := by decide +kernel
theorem dX11_strip_6 : decode cX11_strip 6 = .ok (.ifCond .eq 17, 3) := by decide +kernel
theorem dX11_strip_9 : decode cX11_strip 9 = .ok (.iload_n 1, 1) := by decide +kernel
theorem dX11_strip_10 : decode cX11_strip 10 = .ok (.iload_n 2, 1) := by decide +kernel
theorem dX11_strip_11 : decode cX11_strip 11 = .ok (.if_icmp .gt 12, 3) := by decide +kernel
theorem dX11_strip_14 : decode cX11_strip 14 = .ok (.iload_n 3, 1) := by decide +kernel
theorem dX11_strip_15 : decode cX11_strip 15 = .ok (.iconst 0, 1) := by decide +kernel
theorem dX11_strip_16 : decode cX11_strip 16 = .ok (.iconst 1, 1) := by decide +kernel
theorem dX11_strip_17 : decode cX11_strip 17 = .ok (.invokestatic 48, 3) := by decide +kernel
theorem dX11_strip_20 : decode cX11_strip 20 = .ok (.ifCond .ne 5, 3) := by decide +kernel
theorem dX11_strip_23 : decode cX11_strip 23 = .ok (.iconst (-1), 1) := by decide +kernel
theorem dX11_strip_24 : decode cX11_strip 24 = .ok (.ireturn, 1) := by decide +kernel
theorem dX11_strip_25 : decode cX11_strip 25 = .ok (.aload_n 0, 1) := by decide +kernel
theorem dX11_strip_26 : decode cX11_strip 26 = .ok (.iload_n 1, 1) := by decide +kernel
theorem dX11_strip_27 : decode cX11_strip 27 = .ok (.iload_n 2, 1) := by decide +kernel
theorem dX11_strip_28 : decode cX11_strip 28 = .ok (.invokevirtual 165, 3) := by decide +kernel
theorem dX11_strip_31 : decode cX11_strip 31 = .ok (.aload_n 0, 1) := by decide +kernel
theorem dX11_strip_32 : decode cX11_strip 32 = .ok (.getfield 156, 3) := by decide +kernel
theorem dX11_strip_35 : decode cX11_strip 35 = .ok (.aload_n 0, 1) := by decide +kernel
theorem dX11_strip_36 : decode cX11_strip 36 = .ok (.getfield 152, 3) := by decide +kernel
theorem dX11_strip_39 : decode cX11_strip 39 = .ok (.iload_n 3, 1) := by decide +kernel
theorem dX11_strip_40 : decode cX11_strip 40 = .ok (.ifCond .ne 7, 3) := by decide +kernel
theorem dX11_strip_43 : decode cX11_strip 43 = .ok (.iconst 1, 1) := by decide +kernel
end
section
theorem dX11_strip_44 : decode cX11_strip 44 = .ok (.goto 4, 3) := by decide +kernel
theorem dX11_strip_47 : decode cX11_strip 47 = .ok (.iconst 0, 1) := by decide +kernel
theorem dX11_strip_48 : decode cX11_strip 48 = .ok (.invokestatic 195, 3) := by decide +kernel
theorem dX11_strip_51 : decode cX11_strip 51 = .ok (.ireturn, 1) := by decide +kernel
theorem dX11_told_0 : decode cX11_told 0 = .ok (.iload_n 1, 1) := by decide +kernel
theorem dX11_told_1 : decode cX11_told 1 = .ok (.iconst 0, 1) := by decide +kernel
theorem dX11_told_2 : decode cX11_told 2 = .ok (.sipush 999, 3) := by decide +kernel
theorem dX11_told_5 : decode cX11_told 5 = .ok (.invokestatic 48, 3) := by decide +kernel
theorem dX11_told_8 : decode cX11_told 8 = .ok (.ifCond .eq 21, 3) := by decide +kernel
theorem dX11_told_11 : decode cX11_told 11 = .ok (.iload_n 2, 1) := by decide +kernel
theorem dX11_told_12 : decode cX11_told 12 = .ok (.iconst 0, 1) := by decide +kernel
theorem dX11_told_13 : decode cX11_told 13 = .ok (.iconst 1, 1) := by decide +kernel
theorem dX11_told_14 : decode cX11_told 14 = .ok (.invokestatic 48, 3) := by decide +kernel
theorem dX11_told_17 : decode cX11_told 17 = .ok (.ifCond .eq 12, 3) := by decide +kernel
theorem dX11_told_20 : decode cX11_told 20 = .ok (.iload_n 3, 1) := by decide +kernel
theorem dX11_told_21 : decode cX11_told 21 = .ok (.iconst 0, 1) := by decide +kernel
theorem dX11_told_22 : decode cX11_told 22 = .ok (.iconst 1, 1) := by decide +kernel
theorem dX11_told_23 : decode cX11_told 23 = .ok (.invokestatic 48, 3) := by decide +kernel
theorem dX11_told_26 : decode cX11_told 26 = .ok (.ifCond .ne 5, 3) := by decide +kernel
theorem dX11_told_29 : decode cX11_told 29 = .ok (.iconst (-1), 1) := by decide +kernel
theorem dX11_told_30 : decode cX11_told 30 = .ok (.ireturn, 1) := by decide +kernel
theorem dX11_told_31 : decode cX11_told 31 = .ok (.iload_n 2, 1) := by decide +kernel
theorem dX11_told_32 : decode cX11_told 32 = .ok (.ifCond .ne 16, 3) := by decide +kernel
theorem dX11_told_35 : decode cX11_told 35 = .ok (.aload_n 0, 1) := by decide +kernel
theorem dX11_told_36 : decode cX11_told 36 = .ok (.aload_n 0, 1) := by decide +kernel
theorem dX11_told_37 : decode cX11_told 37 = .ok (.getfield 7, 3) := by decide +kernel
theorem dX11_told_40 : decode cX11_told 40 = .ok (.iconst 1, 1) := by decide +kernel
theorem dX11_told_41 : decode cX11_told 41 = .ok (.iaload, 1) := by decide +kernel
theorem dX11_told_42 : decode cX11_told 42 = .ok (.invokevirtual 172, 3) := by decide +kernel
theorem dX11_told_45 : decode cX11_told 45 = .ok (.goto 7, 3) := by decide +kernel
theorem dX11_told_48 : decode cX11_told 48 = .ok (.aload_n 0, 1) := by decide +kernel
theorem dX11_told_49 : decode cX11_told 49 = .ok (.invokevirtual 176, 3) := by decide +kernel
theorem dX11_told_52 : decode cX11_told 52 = .ok (.istore 4, 2) := by decide +kernel
theorem dX11_told_54 : decode cX11_told 54 = .ok (.bipush (-9), 2) := by decide +kernel
theorem dX11_told_56 : decode cX11_told 56 = .ok (.istore 5, 2) := by decide +kernel
theorem dX11_told_58 : decode cX11_told 58 = .ok (.iconst 0, 1) := by decide +kernel
theorem dX11_told_59 : decode cX11_told 59 = .ok (.istore 6, 2) := by decide +kernel
theorem dX11_told_61 : decode cX11_told 61 = .ok (.iload 6, 2) := by decide +kernel
theorem dX11_told_63 : decode cX11_told 63 = .ok (.aload_n 0, 1) := by decide +kernel
theorem dX11_told_64 : decode cX11_told 64 = .ok (.getfield 7, 3) := by decide +kernel
theorem dX11_told_67 : decode cX11_told 67 = .ok (.iconst 0, 1) := by decide +kernel
theorem dX11_told_68 : decode cX11_told 68 = .ok (.iaload, 1) := by decide +kernel
theorem dX11_told_69 : decode cX11_told 69 = .ok (.if_icmp .ge 176, 3) := by decide +kernel
theorem dX11_told_72 : decode cX11_told 72 = .ok (.iload 4, 2) := by decide +kernel
theorem dX11_told_74 : decode cX11_told 74 = .ok (.iload 6, 2) := by decide +kernel
theorem dX11_told_76 : decode cX11_told 76 = .ok (.invokestatic 87, 3) := by decide +kernel
theorem dX11_told_79 : decode cX11_told 79 = .ok (.ifCond .eq 160, 3) := by decide +kernel
theorem dX11_told_82 : decode cX11_told 82 = .ok (.aload_n 0, 1) := by decide +kernel
theorem dX11_told_83 : decode cX11_told 83 = .ok (.getfield 7, 3) := by decide +kernel
theorem dX11_told_86 : decode cX11_told 86 = .ok (.iconst 3, 1) := by decide +kernel
theorem dX11_told_87 : decode cX11_told 87 = .ok (.iload 6, 2) := by decide +kernel
theorem dX11_told_89 : decode cX11_told 89 = .ok (.iadd, 1) := by decide +kernel
theorem dX11_told_90 : decode cX11_told 90 = .ok (.iaload, 1) := by decide +kernel
theorem dX11_told_91 : decode cX11_told 91 = .ok (.iload_n 1, 1) := by decide +kernel
theorem dX11_told_92 : decode cX11_told 92 = .ok (.if_icmp .ne 22, 3) := by decide +kernel
theorem dX11_told_95 : decode cX11_told 95 = .ok (.iload_n 3, 1) := by decide +kernel
theorem dX11_told_96 : decode cX11_told 96 = .ok (.ifCond .ne 16, 3) := by decide +kernel
theorem dX11_told_99 : decode cX11_told 99 = .ok (.aload_n 0, 1) := by decide +kernel
theorem dX11_told_100 : decode cX11_told 100 = .ok (.getfield 7, 3) := by decide +kernel
theorem dX11_told_103 : decode cX11_told 103 = .ok (.bipush 17, 2) := by decide +kernel
theorem dX11_told_105 : decode cX11_told 105 = .ok (.iload 6, 2) := by decide +kernel
theorem dX11_told_107 : decode cX11_told 107 = .ok (.iadd, 1) := by decide +kernel
theorem dX11_told_108 : decode cX11_told 108 = .ok (.iaload, 1) := by decide +kernel
theorem dX11_told_109 : decode cX11_told 109 = .ok (.goto 4, 3) := by decide +kernel
theorem dX11_told_112 : decode cX11_told 112 = .ok (.iconst 1, 1) := by decide +kernel
theorem dX11_told_113 : decode cX11_told 113 = .ok (.ireturn, 1) := by decide +kernel
theorem dX11_told_114 : decode cX11_told 114 = .ok (.aload_n 0, 1) := by decide +kernel
theorem dX11_told_115 : decode cX11_told 115 = .ok (.getfield 7, 3) := by decide +kernel
theorem dX11_told_118 : decode cX11_told 118 = .ok (.iconst 3, 1) := by decide +kernel
theorem dX11_told_119 : decode cX11_told 119 = .ok (.iload 6, 2) := by decide +kernel
theorem dX11_told_121 : decode cX11_told 121 = .ok (.iadd, 1) := by decide +kernel
theorem dX11_told_122 : decode cX11_told 122 = .ok (.iaload, 1) := by decide +kernel
theorem dX11_told_123 : decode cX11_told 123 = .ok (.iload_n 1, 1) := by decide +kernel
theorem dX11_told_124 : decode cX11_told 124 = .ok (.if_icmp .le 111, 3) := by decide +kernel
theorem dX11_told_127 : decode cX11_told 127 = .ok (.iload 5, 2) := by decide +kernel
theorem dX11_told_129 : decode cX11_told 129 = .ok (.bipush (-9), 2) := by decide +kernel
theorem dX11_told_131 : decode cX11_told 131 = .ok (.if_icmp .eq 14, 3) := by decide +kernel
theorem dX11_told_134 : decode cX11_told 134 = .ok (.aload_n 0, 1) := by decide +kernel
theorem dX11_told_135 : decode cX11_told 135 = .ok (.iload 5, 2) := by decide +kernel
theorem dX11_told_137 : decode cX11_told 137 = .ok (.iload 6, 2) := by decide +kernel
theorem dX11_told_139 : decode cX11_told 139 = .ok (.invokevirtual 192, 3) := by decide +kernel
theorem dX11_told_142 : decode cX11_told 142 = .ok (.ifCond .ne 6, 3) := by decide +kernel
theorem dX11_told_145 : decode cX11_told 145 = .ok (.bipush (-9), 2) := by decide +kernel
theorem dX11_told_147 : decode cX11_told 147 = .ok (.ireturn, 1) := by decide +kernel
theorem dX11_told_148 : decode cX11_told 148 = .ok (.aload_n 0, 1) := by decide +kernel
theorem dX11_told_149 : decode cX11_told 149 = .ok (.getfield 7, 3) := by decide +kernel
theorem dX11_told_152 : decode cX11_told 152 = .ok (.iconst 3, 1) := by decide +kernel
theorem dX11_told_153 : decode cX11_told 153 = .ok (.iload 6, 2) := by decide +kernel
theorem dX11_told_155 : decode cX11_told 155 = .ok (.iadd, 1) := by decide +kernel
theorem dX11_told_156 : decode cX11_told 156 = .ok (.iaload, 1) := by decide +kernel
theorem dX11_told_157 : decode cX11_told 157 = .ok (.aload_n 0, 1) := by decide +kernel
theorem dX11_told_158 : decode cX11_told 158 = .ok (.getfield 7, 3) := by decide +kernel
theorem dX11_told_161 : decode cX11_told 161 = .ok (.iconst 3, 1) := by decide +kernel
theorem dX11_told_162 : decode cX11_told 162 = .ok (.iload 5, 2) := by decide +kernel
theorem dX11_told_164 : decode cX11_told 164 = .ok (.iadd, 1) := by decide +kernel
theorem dX11_told_165 : decode cX11_told 165 = .ok (.iaload, 1) := by decide +kernel
theorem dX11_told_166 : decode cX11_told 166 = .ok (.isub, 1) := by decide +kernel
theorem dX11_told_167 : decode cX11_told 167 = .ok (.istore 7, 2) := by decide +kernel
theorem dX11_told_169 : decode cX11_told 169 = .ok (.aload_n 0, 1) := by decide +kernel
theorem dX11_told_170 : decode cX11_told 170 = .ok (.getfield 7, 3) := by decide +kernel
theorem dX11_told_173 : decode cX11_told 173 = .ok (.bipush 17, 2) := by decide +kernel
theorem dX11_told_175 : decode cX11_told 175 = .ok (.iload 5, 2) := by decide +kernel
theorem dX11_told_177 : decode cX11_told 177 = .ok (.iadd, 1) := by decide +kernel
theorem dX11_told_178 : decode cX11_told 178 = .ok (.iaload, 1) := by decide +kernel
theorem dX11_told_179 : decode cX11_told 179 = .ok (.aload_n 0, 1) := by decide +kernel
theorem dX11_told_180 : decode cX11_told 180 = .ok (.getfield 7, 3) := by decide +kernel
theorem dX11_told_183 : decode cX11_told 183 = .ok (.iconst 3, 1) := by decide +kernel
theorem dX11_told_184 : decode cX11_told 184 = .ok (.iload 6, 2) := by decide +kernel
theorem dX11_told_186 : decode cX11_told 186 = .ok (.iadd, 1) := by decide +kernel
theorem dX11_told_187 : decode cX11_told 187 = .ok (.iaload, 1) := by decide +kernel
theorem dX11_told_188 : decode cX11_told 188 = .ok (.iload_n 1, 1) := by decide +kernel
theorem dX11_told_189 : decode cX11_told 189 = .ok (.isub, 1) := by decide +kernel
theorem dX11_told_190 : decode cX11_told 190 = .ok (.imul, 1) := by decide +kernel
theorem dX11_told_191 : decode cX11_told 191 = .ok (.aload_n 0, 1) := by decide +kernel
theorem dX11_told_192 : decode cX11_told 192 = .ok (.getfield 7, 3) := by decide +kernel
theorem dX11_told_195 : decode cX11_told 195 = .ok (.bipush 17, 2) := by decide +kernel
theorem dX11_told_197 : decode cX11_told 197 = .ok (.iload 6, 2) := by decide +kernel
theorem dX11_told_199 : decode cX11_told 199 = .ok (.iadd, 1) := by decide +kernel
theorem dX11_told_200 : decode cX11_told 200 = .ok (.iaload, 1) := by decide +kernel
theorem dX11_told_201 : decode cX11_told 201 = .ok (.iload_n 1, 1) := by decide +kernel
theorem dX11_told_202 : decode cX11_told 202 = .ok (.aload_n 0, 1) := by decide +kernel
theorem dX11_told_203 : decode cX11_told 203 = .ok (.getfield 7, 3) := by decide +kernel
theorem dX11_told_206 : decode cX11_told 206 = .ok (.iconst 3, 1) := by decide +kernel
theorem dX11_told_207 : decode cX11_told 207 = .ok (.iload 5, 2) := by decide +kernel
theorem dX11_told_209 : decode cX11_told 209 = .ok (.iadd, 1) := by decide +kernel
theorem dX11_told_210 : decode cX11_told 210 = .ok (.iaload, 1) := by decide +kernel
theorem dX11_told_211 : decode cX11_told 211 = .ok (.isub, 1) := by decide +kernel
theorem dX11_told_212 : decode cX11_told 212 = .ok (.imul, 1) := by decide +kernel
theorem dX11_told_213 : decode cX11_told 213 = .ok (.iadd, 1) := by decide +kernel
theorem dX11_told_214 : decode cX11_told 214 = .ok (.istore 8, 2) := by decide +kernel
theorem dX11_told_216 : decode cX11_told 216 = .ok (.iload 8, 2) := by decide +kernel
theorem dX11_told_218 : decode cX11_told 218 = .ok (.i2l, 1) := by decide +kernel
theorem dX11_told_219 : decode cX11_told 219 = .ok (.iload 7, 2) := by decide +kernel
theorem dX11_told_221 : decode cX11_told 221 = .ok (.i2l, 1) := by decide +kernel
theorem dX11_told_222 : decode cX11_told 222 = .ok (.iload_n 3, 1) := by decide +kernel
theorem dX11_told_223 : decode cX11_told 223 = .ok (.ifCond .ne 7, 3) := by decide +kernel
theorem dX11_told_226 : decode cX11_told 226 = .ok (.iconst 1, 1) := by decide +kernel
theorem dX11_told_227 : decode cX11_told 227 = .ok (.goto 4, 3) := by decide +kernel
theorem dX11_told_230 : decode cX11_told 230 = .ok (.iconst 0, 1) := by decide +kernel
theorem dX11_told_231 : decode cX11_told 231 = .ok (.invokestatic 195, 3) := by decide +kernel
theorem dX11_told_234 : decode cX11_told 234 = .ok (.ireturn, 1) := by decide +kernel
theorem dX11_told_235 : decode cX11_told 235 = .ok (.iload 6, 2) := by decide +kernel
theorem dX11_told_237 : decode cX11_told 237 = .ok (.istore 5, 2) := by decide +kernel
theorem dX11_told_239 : decode cX11_told 239 = .ok (.iinc 6 1, 3) := by decide +kernel
theorem dX11_told_242 : decode cX11_told 242 = .ok (.goto (-181), 3) := by decide +kernel
theorem dX11_told_245 : decode cX11_told 245 = .ok (.bipush (-9), 2) := by decide +kernel
theorem dX11_told_247 : decode cX11_told 247 = .ok (.ireturn, 1) := by decide +kernel
theorem dX11_layUnseen_0 : decode cX11_layUnseen 0 = .ok (.iconst 0, 1) := by decide +kernel
theorem dX11_layUnseen_1 : decode cX11_layUnseen 1 = .ok (.istore_n 1, 1) := by decide +kernel
theorem dX11_layUnseen_2 : decode cX11_layUnseen 2 = .ok (.iconst 0, 1) := by decide +kernel
theorem dX11_layUnseen_3 : decode cX11_layUnseen 3 = .ok (.istore_n 2, 1) := by decide +kernel
theorem dX11_layUnseen_4 : decode cX11_layUnseen 4 = .ok (.iload_n 2, 1) := by decide +kernel
theorem dX11_layUnseen_5 : decode cX11_layUnseen 5 = .ok (.bipush 100, 2) := by decide +kernel
theorem dX11_layUnseen_7 : decode cX11_layUnseen 7 = .ok (.if_icmp .ge 103, 3) := by decide +kernel
theorem dX11_layUnseen_10 : decode cX11_layUnseen 10 = .ok (.aload_n 0, 1) := by decide +kernel
theorem dX11_layUnseen_11 : decode cX11_layUnseen 11 = .ok (.getfield 38, 3) := by decide +kernel
theorem dX11_layUnseen_14 : decode cX11_layUnseen 14 = .ok (.iload_n 2, 1) := by decide +kernel
theorem dX11_layUnseen_15 : decode cX11_layUnseen 15 = .ok (.aload_n 0, 1) := by decide +kernel
theorem dX11_layUnseen_16 : decode cX11_layUnseen 16 = .ok (.iload_n 2, 1) := by decide +kernel
theorem dX11_layUnseen_17 : decode cX11_layUnseen 17 = .ok (.invokevirtual 172, 3) := by decide +kernel
theorem dX11_layUnseen_20 : decode cX11_layUnseen 20 = .ok (.iastore, 1) := by decide +kernel
theorem dX11_layUnseen_21 : decode cX11_layUnseen 21 = .ok (.iconst 1, 1) := by decide +kernel
theorem dX11_layUnseen_22 : decode cX11_layUnseen 22 = .ok (.istore_n 3, 1) := by decide +kernel
theorem dX11_layUnseen_23 : decode cX11_layUnseen 23 = .ok (.iconst 0, 1) := by decide +kernel
theorem dX11_layUnseen_24 : decode cX11_layUnseen 24 = .ok (.istore 4, 2) := by decide +kernel
theorem dX11_layUnseen_26 : decode cX11_layUnseen 26 = .ok (.iload 4, 2) := by decide +kernel
theorem dX11_layUnseen_28 : decode cX11_layUnseen 28 = .ok (.aload_n 0, 1) := by decide +kernel
theorem dX11_layUnseen_29 : decode cX11_layUnseen 29 = .ok (.getfield 110, 3) := by decide +kernel
theorem dX11_layUnseen_32 : decode cX11_layUnseen 32 = .ok (.if_icmp .ge 53, 3) := by decide +kernel
theorem dX11_layUnseen_35 : decode cX11_layUnseen 35 = .ok (.iload_n 3, 1) := by decide +kernel
theorem dX11_layUnseen_36 : decode cX11_layUnseen 36 = .ok (.ifCond .eq 41, 3) := by decide +kernel
theorem dX11_layUnseen_39 : decode cX11_layUnseen 39 = .ok (.aload_n 0, 1) := by decide +kernel
theorem dX11_layUnseen_40 : decode cX11_layUnseen 40 = .ok (.getfield 38, 3) := by decide +kernel
theorem dX11_layUnseen_43 : decode cX11_layUnseen 43 = .ok (.iload_n 2, 1) := by decide +kernel
theorem dX11_layUnseen_44 : decode cX11_layUnseen 44 = .ok (.iaload, 1) := by decide +kernel
theorem dX11_layUnseen_45 : decode cX11_layUnseen 45 = .ok (.aload_n 0, 1) := by decide +kernel
theorem dX11_layUnseen_46 : decode cX11_layUnseen 46 = .ok (.getfield 16, 3) := by decide +kernel
theorem dX11_layUnseen_49 : decode cX11_layUnseen 49 = .ok (.iload 4, 2) := by decide +kernel
theorem dX11_layUnseen_51 : decode cX11_layUnseen 51 = .ok (.iaload, 1) := by decide +kernel
theorem dX11_layUnseen_52 : decode cX11_layUnseen 52 = .ok (.invokestatic 87, 3) := by decide +kernel
theorem dX11_layUnseen_55 : decode cX11_layUnseen 55 = .ok (.ifCond .eq 7, 3) := by decide +kernel
theorem dX11_layUnseen_58 : decode cX11_layUnseen 58 = .ok (.iconst 1, 1) := by decide +kernel
theorem dX11_layUnseen_59 : decode cX11_layUnseen 59 = .ok (.goto 4, 3) := by decide +kernel
theorem dX11_layUnseen_62 : decode cX11_layUnseen 62 = .ok (.iconst 0, 1) := by decide +kernel
theorem dX11_layUnseen_63 : decode cX11_layUnseen 63 = .ok (.aload_n 0, 1) := by decide +kernel
theorem dX11_layUnseen_64 : decode cX11_layUnseen 64 = .ok (.getfield 19, 3) := by decide +kernel
theorem dX11_layUnseen_67 : decode cX11_layUnseen 67 = .ok (.iload 4, 2) := by decide +kernel
theorem dX11_layUnseen_69 : decode cX11_layUnseen 69 = .ok (.iaload, 1) := by decide +kernel
theorem dX11_layUnseen_70 : decode cX11_layUnseen 70 = .ok (.if_icmp .ne 7, 3) := by decide +kernel
theorem dX11_layUnseen_73 : decode cX11_layUnseen 73 = .ok (.iconst 1, 1) := by decide +kernel
theorem dX11_layUnseen_74 : decode cX11_layUnseen 74 = .ok (.goto 4, 3) := by decide +kernel
theorem dX11_layUnseen_77 : decode cX11_layUnseen 77 = .ok (.iconst 0, 1) := by decide +kernel
theorem dX11_layUnseen_78 : decode cX11_layUnseen 78 = .ok (.istore_n 3, 1) := by decide +kernel
theorem dX11_layUnseen_79 : decode cX11_layUnseen 79 = .ok (.iinc 4 1, 3) := by decide +kernel
theorem dX11_layUnseen_82 : decode cX11_layUnseen 82 = .ok (.goto (-56), 3) := by decide +kernel
theorem dX11_layUnseen_85 : decode cX11_layUnseen 85 = .ok (.aload_n 0, 1) := by decide +kernel
theorem dX11_layUnseen_86 : decode cX11_layUnseen 86 = .ok (.getfield 41, 3) := by decide +kernel
theorem dX11_layUnseen_89 : decode cX11_layUnseen 89 = .ok (.iload_n 2, 1) := by decide +kernel
theorem dX11_layUnseen_90 : decode cX11_layUnseen 90 = .ok (.iload_n 3, 1) := by decide +kernel
theorem dX11_layUnseen_91 : decode cX11_layUnseen 91 = .ok (.bastore, 1) := by decide +kernel
theorem dX11_layUnseen_92 : decode cX11_layUnseen 92 = .ok (.iload_n 1, 1) := by decide +kernel
theorem dX11_layUnseen_93 : decode cX11_layUnseen 93 = .ok (.iload_n 3, 1) := by decide +kernel
theorem dX11_layUnseen_94 : decode cX11_layUnseen 94 = .ok (.ifCond .eq 7, 3) := by decide +kernel
theorem dX11_layUnseen_97 : decode cX11_layUnseen 97 = .ok (.iconst 1, 1) := by decide +kernel
theorem dX11_layUnseen_98 : decode cX11_layUnseen 98 = .ok (.goto 4, 3) := by decide +kernel
theorem dX11_layUnseen_101 : decode cX11_layUnseen 101 = .ok (.iconst 0, 1) := by decide +kernel
theorem dX11_layUnseen_102 : decode cX11_layUnseen 102 = .ok (.iadd, 1) := by decide +kernel
theorem dX11_layUnseen_103 : decode cX11_layUnseen 103 = .ok (.istore_n 1, 1) := by decide +kernel
theorem dX11_layUnseen_104 : decode cX11_layUnseen 104 = .ok (.iinc 2 1, 3) := by decide +kernel
theorem dX11_layUnseen_107 : decode cX11_layUnseen 107 = .ok (.goto (-103), 3) := by decide +kernel
theorem dX11_layUnseen_110 : decode cX11_layUnseen 110 = .ok (.iload_n 1, 1) := by decide +kernel
theorem dX11_layUnseen_111 : decode cX11_layUnseen 111 = .ok (.ireturn, 1) := by decide +kernel
theorem dX11_sees_0 : decode cX11_sees 0 = .ok (.aload_n 0, 1) := by decide +kernel
theorem dX11_sees_1 : decode cX11_sees 1 = .ok (.iload_n 1, 1) := by decide +kernel
theorem dX11_sees_2 : decode cX11_sees 2 = .ok (.invokevirtual 130, 3) := by decide +kernel
theorem dX11_sees_5 : decode cX11_sees 5 = .ok (.ifCond .eq 12, 3) := by decide +kernel
theorem dX11_sees_8 : decode cX11_sees 8 = .ok (.iload_n 2, 1) := by decide +kernel
theorem dX11_sees_9 : decode cX11_sees 9 = .ok (.iconst 0, 1) := by decide +kernel
theorem dX11_sees_10 : decode cX11_sees 10 = .ok (.iconst 1, 1) := by decide +kernel
theorem dX11_sees_11 : decode cX11_sees 11 = .ok (.invokestatic 48, 3) := by decide +kernel
theorem dX11_sees_14 : decode cX11_sees 14 = .ok (.ifCond .ne 5, 3) := by decide +kernel
theorem dX11_sees_17 : decode cX11_sees 17 = .ok (.iconst (-1), 1) := by decide +kernel
theorem dX11_sees_18 : decode cX11_sees 18 = .ok (.ireturn, 1) := by decide +kernel
theorem dX11_sees_19 : decode cX11_sees 19 = .ok (.aload_n 0, 1) := by decide +kernel
theorem dX11_sees_20 : decode cX11_sees 20 = .ok (.getfield 110, 3) := by decide +kernel
theorem dX11_sees_23 : decode cX11_sees 23 = .ok (.bipush 6, 2) := by decide +kernel
theorem dX11_sees_25 : decode cX11_sees 25 = .ok (.if_icmp .ne 6, 3) := by decide +kernel
theorem dX11_sees_28 : decode cX11_sees 28 = .ok (.bipush (-3), 2) := by decide +kernel
theorem dX11_sees_30 : decode cX11_sees 30 = .ok (.ireturn, 1) := by decide +kernel
theorem dX11_sees_31 : decode cX11_sees 31 = .ok (.aload_n 0, 1) := by decide +kernel
theorem dX11_sees_32 : decode cX11_sees 32 = .ok (.getfield 16, 3) := by decide +kernel
theorem dX11_sees_35 : decode cX11_sees 35 = .ok (.aload_n 0, 1) := by decide +kernel
theorem dX11_sees_36 : decode cX11_sees 36 = .ok (.getfield 110, 3) := by decide +kernel
theorem dX11_sees_39 : decode cX11_sees 39 = .ok (.iload_n 1, 1) := by decide +kernel
theorem dX11_sees_40 : decode cX11_sees 40 = .ok (.iastore, 1) := by decide +kernel
theorem dX11_sees_41 : decode cX11_sees 41 = .ok (.aload_n 0, 1) := by decide +kernel
theorem dX11_sees_42 : decode cX11_sees 42 = .ok (.getfield 19, 3) := by decide +kernel
theorem dX11_sees_45 : decode cX11_sees 45 = .ok (.aload_n 0, 1) := by decide +kernel
theorem dX11_sees_46 : decode cX11_sees 46 = .ok (.getfield 110, 3) := by decide +kernel
theorem dX11_sees_49 : decode cX11_sees 49 = .ok (.iload_n 2, 1) := by decide +kernel
theorem dX11_sees_50 : decode cX11_sees 50 = .ok (.iastore, 1) := by decide +kernel
theorem dX11_sees_51 : decode cX11_sees 51 = .ok (.aload_n 0, 1) := by decide +kernel
theorem dX11_sees_52 : decode cX11_sees 52 = .ok (.dup, 1) := by decide +kernel
theorem dX11_sees_53 : decode cX11_sees 53 = .ok (.getfield 110, 3) := by decide +kernel
theorem dX11_sees_56 : decode cX11_sees 56 = .ok (.iconst 1, 1) := by decide +kernel
theorem dX11_sees_57 : decode cX11_sees 57 = .ok (.iadd, 1) := by decide +kernel
theorem dX11_sees_58 : decode cX11_sees 58 = .ok (.putfield 110, 3) := by decide +kernel
theorem dX11_sees_61 : decode cX11_sees 61 = .ok (.aload_n 0, 1) := by decide +kernel
theorem dX11_sees_62 : decode cX11_sees 62 = .ok (.getfield 110, 3) := by decide +kernel
theorem dX11_sees_65 : decode cX11_sees 65 = .ok (.ireturn, 1) := by decide +kernel
theorem dX11_forget_0 : decode cX11_forget 0 = .ok (.aload_n 0, 1) := by decide +kernel
theorem dX11_forget_1 : decode cX11_forget 1 = .ok (.getfield 110, 3) := by decide +kernel
theorem dX11_forget_4 : decode cX11_forget 4 = .ok (.istore_n 1, 1) := by decide +kernel
theorem dX11_forget_5 : decode cX11_forget 5 = .ok (.aload_n 0, 1) := by decide +kernel
theorem dX11_forget_6 : decode cX11_forget 6 = .ok (.iconst 0, 1) := by decide +kernel
theorem dX11_forget_7 : decode cX11_forget 7 = .ok (.putfield 110, 3) := by decide +kernel
theorem dX11_forget_10 : decode cX11_forget 10 = .ok (.iload_n 1, 1) := by decide +kernel
theorem dX11_forget_11 : decode cX11_forget 11 = .ok (.ireturn, 1) := by decide +kernel
theorem dX11_unseen_0 : decode cX11_unseen 0 = .ok (.iload_n 1, 1) := by decide +kernel
theorem dX11_unseen_1 : decode cX11_unseen 1 = .ok (.iconst 0, 1) := by decide +kernel
theorem dX11_unseen_2 : decode cX11_unseen 2 = .ok (.iconst 2, 1) := by decide +kernel
theorem dX11_unseen_3 : decode cX11_unseen 3 = .ok (.invokestatic 48, 3) := by decide +kernel
theorem dX11_unseen_6 : decode cX11_unseen 6 = .ok (.ifCond .ne 5, 3) := by decide +kernel
theorem dX11_unseen_9 : decode cX11_unseen 9 = .ok (.iconst (-1), 1) := by decide +kernel
theorem dX11_unseen_10 : decode cX11_unseen 10 = .ok (.ireturn, 1) := by decide +kernel
theorem dX11_unseen_11 : decode cX11_unseen 11 = .ok (.aload_n 0, 1) := by decide +kernel
theorem dX11_unseen_12 : decode cX11_unseen 12 = .ok (.invokevirtual 199, 3) := by decide +kernel
theorem dX11_unseen_15 : decode cX11_unseen 15 = .ok (.istore_n 2, 1) := by decide +kernel
theorem dX11_unseen_16 : decode cX11_unseen 16 = .ok (.bipush (-9), 2) := by decide +kernel
theorem dX11_unseen_18 : decode cX11_unseen 18 = .ok (.istore_n 3, 1) := by decide +kernel
theorem dX11_unseen_19 : decode cX11_unseen 19 = .ok (.bipush (-9), 2) := by decide +kernel
theorem dX11_unseen_21 : decode cX11_unseen 21 = .ok (.istore 4, 2) := by decide +kernel
theorem dX11_unseen_23 : decode cX11_unseen 23 = .ok (.iconst 0, 1) := by decide +kernel
theorem dX11_unseen_24 : decode cX11_unseen 24 = .ok (.istore 5, 2) := by decide +kernel
theorem dX11_unseen_26 : decode cX11_unseen 26 = .ok (.iload 5, 2) := by decide +kernel
theorem dX11_unseen_28 : decode cX11_unseen 28 = .ok (.bipush 100, 2) := by decide +kernel
theorem dX11_unseen_30 : decode cX11_unseen 30 = .ok (.if_icmp .ge 51, 3) := by decide +kernel
theorem dX11_unseen_33 : decode cX11_unseen 33 = .ok (.aload_n 0, 1) := by decide +kernel
theorem dX11_unseen_34 : decode cX11_unseen 34 = .ok (.getfield 41, 3) := by decide +kernel
theorem dX11_unseen_37 : decode cX11_unseen 37 = .ok (.iload 5, 2) := by decide +kernel
theorem dX11_unseen_39 : decode cX11_unseen 39 = .ok (.baload, 1) := by decide +kernel
theorem dX11_unseen_40 : decode cX11_unseen 40 = .ok (.ifCond .eq 14, 3) := by decide +kernel
theorem dX11_unseen_43 : decode cX11_unseen 43 = .ok (.iload_n 3, 1) := by decide +kernel
theorem dX11_unseen_44 : decode cX11_unseen 44 = .ok (.bipush (-9), 2) := by decide +kernel
theorem dX11_unseen_46 : decode cX11_unseen 46 = .ok (.if_icmp .ne 8, 3) := by decide +kernel
theorem dX11_unseen_49 : decode cX11_unseen 49 = .ok (.iload 5, 2) := by decide +kernel
theorem dX11_unseen_51 : decode cX11_unseen 51 = .ok (.goto 4, 3) := by decide +kernel
theorem dX11_unseen_54 : decode cX11_unseen 54 = .ok (.iload_n 3, 1) := by decide +kernel
theorem dX11_unseen_55 : decode cX11_unseen 55 = .ok (.istore_n 3, 1) := by decide +kernel
theorem dX11_unseen_56 : decode cX11_unseen 56 = .ok (.aload_n 0, 1) := by decide +kernel
theorem dX11_unseen_57 : decode cX11_unseen 57 = .ok (.getfield 41, 3) := by decide +kernel
theorem dX11_unseen_60 : decode cX11_unseen 60 = .ok (.iload 5, 2) := by decide +kernel
theorem dX11_unseen_62 : decode cX11_unseen 62 = .ok (.baload, 1) := by decide +kernel
theorem dX11_unseen_63 : decode cX11_unseen 63 = .ok (.ifCond .eq 8, 3) := by decide +kernel
theorem dX11_unseen_66 : decode cX11_unseen 66 = .ok (.iload 5, 2) := by decide +kernel
theorem dX11_unseen_68 : decode cX11_unseen 68 = .ok (.goto 5, 3) := by decide +kernel
theorem dX11_unseen_71 : decode cX11_unseen 71 = .ok (.iload 4, 2) := by decide +kernel
theorem dX11_unseen_73 : decode cX11_unseen 73 = .ok (.istore 4, 2) := by decide +kernel
theorem dX11_unseen_75 : decode cX11_unseen 75 = .ok (.iinc 5 1, 3) := by decide +kernel
theorem dX11_unseen_78 : decode cX11_unseen 78 = .ok (.goto (-52), 3) := by decide +kernel
theorem dX11_unseen_81 : decode cX11_unseen 81 = .ok (.iload_n 1, 1) := by decide +kernel
theorem dX11_unseen_82 : decode cX11_unseen 82 = .ok (.ifCond .ne 7, 3) := by decide +kernel
theorem dX11_unseen_85 : decode cX11_unseen 85 = .ok (.iload_n 2, 1) := by decide +kernel
theorem dX11_unseen_86 : decode cX11_unseen 86 = .ok (.goto 14, 3) := by decide +kernel
theorem dX11_unseen_89 : decode cX11_unseen 89 = .ok (.iload_n 1, 1) := by decide +kernel
theorem dX11_unseen_90 : decode cX11_unseen 90 = .ok (.iconst 1, 1) := by decide +kernel
theorem dX11_unseen_91 : decode cX11_unseen 91 = .ok (.if_icmp .ne 7, 3) := by decide +kernel
theorem dX11_unseen_94 : decode cX11_unseen 94 = .ok (.iload_n 3, 1) := by decide +kernel
theorem dX11_unseen_95 : decode cX11_unseen 95 = .ok (.goto 5, 3) := by decide +kernel
theorem dX11_unseen_98 : decode cX11_unseen 98 = .ok (.iload 4, 2) := by decide +kernel
theorem dX11_unseen_100 : decode cX11_unseen 100 = .ok (.ireturn, 1) := by decide +kernel
theorem dX11_ask_0 : decode cX11_ask 0 = .ok (.aload_n 0, 1) := by decide +kernel
theorem dX11_ask_1 : decode cX11_ask 1 = .ok (.invokevirtual 199, 3) := by decide +kernel
theorem dX11_ask_4 : decode cX11_ask 4 = .ok (.istore_n 1, 1) := by decide +kernel
theorem dX11_ask_5 : decode cX11_ask 5 = .ok (.bipush (-9), 2) := by decide +kernel
theorem dX11_ask_7 : decode cX11_ask 7 = .ok (.istore_n 2, 1) := by decide +kernel
theorem dX11_ask_8 : decode cX11_ask 8 = .ok (.bipush 101, 2) := by decide +kernel
theorem dX11_ask_10 : decode cX11_ask 10 = .ok (.istore_n 3, 1) := by decide +kernel
theorem dX11_ask_11 : decode cX11_ask 11 = .ok (.iconst 0, 1) := by decide +kernel
theorem dX11_ask_12 : decode cX11_ask 12 = .ok (.istore 4, 2) := by decide +kernel
theorem dX11_ask_14 : decode cX11_ask 14 = .ok (.iload 4, 2) := by decide +kernel
theorem dX11_ask_16 : decode cX11_ask 16 = .ok (.aload_n 0, 1) := by decide +kernel
theorem dX11_ask_17 : decode cX11_ask 17 = .ok (.getfield 7, 3) := by decide +kernel
theorem dX11_ask_20 : decode cX11_ask 20 = .ok (.iconst 0, 1) := by decide +kernel
theorem dX11_ask_21 : decode cX11_ask 21 = .ok (.iaload, 1) := by decide +kernel
theorem dX11_ask_22 : decode cX11_ask 22 = .ok (.if_icmp .ge 134, 3) := by decide +kernel
theorem dX11_ask_25 : decode cX11_ask 25 = .ok (.iload_n 1, 1) := by decide +kernel
theorem dX11_ask_26 : decode cX11_ask 26 = .ok (.iconst 1, 1) := by decide +kernel
theorem dX11_ask_27 : decode cX11_ask 27 = .ok (.if_icmp .le 129, 3) := by decide +kernel
theorem dX11_ask_30 : decode cX11_ask 30 = .ok (.iconst 0, 1) := by decide +kernel
theorem dX11_ask_31 : decode cX11_ask 31 = .ok (.istore 5, 2) := by decide +kernel
theorem dX11_ask_33 : decode cX11_ask 33 = .ok (.iconst 0, 1) := by decide +kernel
theorem dX11_ask_34 : decode cX11_ask 34 = .ok (.istore 6, 2) := by decide +kernel
theorem dX11_ask_36 : decode cX11_ask 36 = .ok (.iload 6, 2) := by decide +kernel
theorem dX11_ask_38 : decode cX11_ask 38 = .ok (.bipush 100, 2) := by decide +kernel
theorem dX11_ask_40 : decode cX11_ask 40 = .ok (.if_icmp .ge 44, 3) := by decide +kernel
theorem dX11_ask_43 : decode cX11_ask 43 = .ok (.iload 5, 2) := by decide +kernel
theorem dX11_ask_45 : decode cX11_ask 45 = .ok (.aload_n 0, 1) := by decide +kernel
theorem dX11_ask_46 : decode cX11_ask 46 = .ok (.getfield 41, 3) := by decide +kernel
theorem dX11_ask_49 : decode cX11_ask 49 = .ok (.iload 6, 2) := by decide +kernel
theorem dX11_ask_51 : decode cX11_ask 51 = .ok (.baload, 1) := by decide +kernel
theorem dX11_ask_52 : decode cX11_ask 52 = .ok (.ifCond .eq 22, 3) := by decide +kernel
theorem dX11_ask_55 : decode cX11_ask 55 = .ok (.aload_n 0, 1) := by decide +kernel
theorem dX11_ask_56 : decode cX11_ask 56 = .ok (.getfield 38, 3) := by decide +kernel
theorem dX11_ask_59 : decode cX11_ask 59 = .ok (.iload 6, 2) := by decide +kernel
theorem dX11_ask_61 : decode cX11_ask 61 = .ok (.iaload, 1) := by decide +kernel
theorem dX11_ask_62 : decode cX11_ask 62 = .ok (.iload 4, 2) := by decide +kernel
theorem dX11_ask_64 : decode cX11_ask 64 = .ok (.invokestatic 87, 3) := by decide +kernel
theorem dX11_ask_67 : decode cX11_ask 67 = .ok (.ifCond .eq 7, 3) := by decide +kernel
theorem dX11_ask_70 : decode cX11_ask 70 = .ok (.iconst 1, 1) := by decide +kernel
theorem dX11_ask_71 : decode cX11_ask 71 = .ok (.goto 4, 3) := by decide +kernel
theorem dX11_ask_74 : decode cX11_ask 74 = .ok (.iconst 0, 1) := by decide +kernel
theorem dX11_ask_75 : decode cX11_ask 75 = .ok (.iadd, 1) := by decide +kernel
theorem dX11_ask_76 : decode cX11_ask 76 = .ok (.istore 5, 2) := by decide +kernel
theorem dX11_ask_78 : decode cX11_ask 78 = .ok (.iinc 6 1, 3) := by decide +kernel
theorem dX11_ask_81 : decode cX11_ask 81 = .ok (.goto (-45), 3) := by decide +kernel
theorem dX11_ask_84 : decode cX11_ask 84 = .ok (.iload 5, 2) := by decide +kernel
theorem dX11_ask_86 : decode cX11_ask 86 = .ok (.iload_n 1, 1) := by decide +kernel
theorem dX11_ask_87 : decode cX11_ask 87 = .ok (.iload 5, 2) := by decide +kernel
theorem dX11_ask_89 : decode cX11_ask 89 = .ok (.isub, 1) := by decide +kernel
theorem dX11_ask_90 : decode cX11_ask 90 = .ok (.if_icmp .le 8, 3) := by decide +kernel
theorem dX11_ask_93 : decode cX11_ask 93 = .ok (.iload 5, 2) := by decide +kernel
theorem dX11_ask_95 : decode cX11_ask 95 = .ok (.goto 7, 3) := by decide +kernel
theorem dX11_ask_98 : decode cX11_ask 98 = .ok (.iload_n 1, 1) := by decide +kernel
theorem dX11_ask_99 : decode cX11_ask 99 = .ok (.iload 5, 2) := by decide +kernel
theorem dX11_ask_101 : decode cX11_ask 101 = .ok (.isub, 1) := by decide +kernel
theorem dX11_ask_102 : decode cX11_ask 102 = .ok (.istore 6, 2) := by decide +kernel
theorem dX11_ask_104 : decode cX11_ask 104 = .ok (.aload_n 0, 1) := by decide +kernel
theorem dX11_ask_105 : decode cX11_ask 105 = .ok (.iload 4, 2) := by decide +kernel
theorem dX11_ask_107 : decode cX11_ask 107 = .ok (.invokevirtual 130, 3) := by decide +kernel
theorem dX11_ask_110 : decode cX11_ask 110 = .ok (.ifCond .eq 13, 3) := by decide +kernel
theorem dX11_ask_113 : decode cX11_ask 113 = .ok (.iload 6, 2) := by decide +kernel
theorem dX11_ask_115 : decode cX11_ask 115 = .ok (.iload_n 3, 1) := by decide +kernel
theorem dX11_ask_116 : decode cX11_ask 116 = .ok (.if_icmp .ge 7, 3) := by decide +kernel
theorem dX11_ask_119 : decode cX11_ask 119 = .ok (.iconst 1, 1) := by decide +kernel
theorem dX11_ask_120 : decode cX11_ask 120 = .ok (.goto 4, 3) := by decide +kernel
theorem dX11_ask_123 : decode cX11_ask 123 = .ok (.iconst 0, 1) := by decide +kernel
theorem dX11_ask_124 : decode cX11_ask 124 = .ok (.istore 7, 2) := by decide +kernel
theorem dX11_ask_126 : decode cX11_ask 126 = .ok (.iload 7, 2) := by decide +kernel
theorem dX11_ask_128 : decode cX11_ask 128 = .ok (.ifCond .eq 8, 3) := by decide +kernel
theorem dX11_ask_131 : decode cX11_ask 131 = .ok (.iload 4, 2) := by decide +kernel
theorem dX11_ask_133 : decode cX11_ask 133 = .ok (.goto 4, 3) := by decide +kernel
theorem dX11_ask_136 : decode cX11_ask 136 = .ok (.iload_n 2, 1) := by decide +kernel
theorem dX11_ask_137 : decode cX11_ask 137 = .ok (.istore_n 2, 1) := by decide +kernel
theorem dX11_ask_138 : decode cX11_ask 138 = .ok (.iload 7, 2) := by decide +kernel
theorem dX11_ask_140 : decode cX11_ask 140 = .ok (.ifCond .eq 8, 3) := by decide +kernel
theorem dX11_ask_143 : decode cX11_ask 143 = .ok (.iload 6, 2) := by decide +kernel
theorem dX11_ask_145 : decode cX11_ask 145 = .ok (.goto 4, 3) := by decide +kernel
theorem dX11_ask_148 : decode cX11_ask 148 = .ok (.iload_n 3, 1) := by decide +kernel
theorem dX11_ask_149 : decode cX11_ask 149 = .ok (.istore_n 3, 1) := by decide +kernel
theorem dX11_ask_150 : decode cX11_ask 150 = .ok (.iinc 4 1, 3) := by decide +kernel
theorem dX11_ask_153 : decode cX11_ask 153 = .ok (.goto (-139), 3) := by decide +kernel
theorem dX11_ask_156 : decode cX11_ask 156 = .ok (.iload_n 2, 1) := by decide +kernel
theorem dX11_ask_157 : decode cX11_ask 157 = .ok (.ireturn, 1) := by decide +kernel
theorem dX11_keep_0 : decode cX11_keep 0 = .ok (.iload_n 1, 1) := by decide +kernel
theorem dX11_keep_1 : decode cX11_keep 1 = .ok (.iconst 0, 1) := by decide +kernel
theorem dX11_keep_2 : decode cX11_keep 2 = .ok (.iconst 1, 1) := by decide +kernel
theorem dX11_keep_3 : decode cX11_keep 3 = .ok (.invokestatic 48, 3) := by decide +kernel
theorem dX11_keep_6 : decode cX11_keep 6 = .ok (.ifCond .ne 5, 3) := by decide +kernel
theorem dX11_keep_9 : decode cX11_keep 9 = .ok (.iconst (-1), 1) := by decide +kernel
theorem dX11_keep_10 : decode cX11_keep 10 = .ok (.ireturn, 1) := by decide +kernel
theorem dX11_keep_11 : decode cX11_keep 11 = .ok (.aload_n 0, 1) := by decide +kernel
theorem dX11_keep_12 : decode cX11_keep 12 = .ok (.getfield 22, 3) := by decide +kernel
theorem dX11_keep_15 : decode cX11_keep 15 = .ok (.iload_n 1, 1) := by decide +kernel
theorem dX11_keep_16 : decode cX11_keep 16 = .ok (.iconst 1, 1) := by decide +kernel
theorem dX11_keep_17 : decode cX11_keep 17 = .ok (.bastore, 1) := by decide +kernel
theorem dX11_keep_18 : decode cX11_keep 18 = .ok (.iconst 0, 1) := by decide +kernel
theorem dX11_keep_19 : decode cX11_keep 19 = .ok (.istore_n 2, 1) := by decide +kernel
theorem dX11_keep_20 : decode cX11_keep 20 = .ok (.iload_n 2, 1) := by decide +kernel
theorem dX11_keep_21 : decode cX11_keep 21 = .ok (.bipush 31, 2) := by decide +kernel
theorem dX11_keep_23 : decode cX11_keep 23 = .ok (.if_icmp .ge 26, 3) := by decide +kernel
theorem dX11_keep_26 : decode cX11_keep 26 = .ok (.aload_n 0, 1) := by decide +kernel
theorem dX11_keep_27 : decode cX11_keep 27 = .ok (.getfield 26, 3) := by decide +kernel
theorem dX11_keep_30 : decode cX11_keep 30 = .ok (.bipush 31, 2) := by decide +kernel
theorem dX11_keep_32 : decode cX11_keep 32 = .ok (.iload_n 1, 1) := by decide +kernel
theorem dX11_keep_33 : decode cX11_keep 33 = .ok (.imul, 1) := by decide +kernel
theorem dX11_keep_34 : decode cX11_keep 34 = .ok (.iload_n 2, 1) := by decide +kernel
theorem dX11_keep_35 : decode cX11_keep 35 = .ok (.iadd, 1) := by decide +kernel
theorem dX11_keep_36 : decode cX11_keep 36 = .ok (.aload_n 0, 1) := by decide +kernel
theorem dX11_keep_37 : decode cX11_keep 37 = .ok (.getfield 7, 3) := by decide +kernel
theorem dX11_keep_40 : decode cX11_keep 40 = .ok (.iload_n 2, 1) := by decide +kernel
theorem dX11_keep_41 : decode cX11_keep 41 = .ok (.iaload, 1) := by decide +kernel
theorem dX11_keep_42 : decode cX11_keep 42 = .ok (.iastore, 1) := by decide +kernel
theorem dX11_keep_43 : decode cX11_keep 43 = .ok (.iinc 2 1, 3) := by decide +kernel
theorem dX11_keep_46 : decode cX11_keep 46 = .ok (.goto (-26), 3) := by decide +kernel
theorem dX11_keep_49 : decode cX11_keep 49 = .ok (.aload_n 0, 1) := by decide +kernel
theorem dX11_keep_50 : decode cX11_keep 50 = .ok (.getfield 7, 3) := by decide +kernel
theorem dX11_keep_53 : decode cX11_keep 53 = .ok (.iconst 0, 1) := by decide +kernel
theorem dX11_keep_54 : decode cX11_keep 54 = .ok (.iaload, 1) := by decide +kernel
theorem dX11_keep_55 : decode cX11_keep 55 = .ok (.ireturn, 1) := by decide +kernel
theorem dX11_back_0 : decode cX11_back 0 = .ok (.iload_n 1, 1) := by decide +kernel
theorem dX11_back_1 : decode cX11_back 1 = .ok (.iconst 0, 1) := by decide +kernel
theorem dX11_back_2 : decode cX11_back 2 = .ok (.iconst 1, 1) := by decide +kernel
theorem dX11_back_3 : decode cX11_back 3 = .ok (.invokestatic 48, 3) := by decide +kernel
theorem dX11_back_6 : decode cX11_back 6 = .ok (.ifCond .ne 5, 3) := by decide +kernel
theorem dX11_back_9 : decode cX11_back 9 = .ok (.iconst (-1), 1) := by decide +kernel
theorem dX11_back_10 : decode cX11_back 10 = .ok (.ireturn, 1) := by decide +kernel
theorem dX11_back_11 : decode cX11_back 11 = .ok (.aload_n 0, 1) := by decide +kernel
theorem dX11_back_12 : decode cX11_back 12 = .ok (.getfield 22, 3) := by decide +kernel
theorem dX11_back_15 : decode cX11_back 15 = .ok (.iload_n 1, 1) := by decide +kernel
theorem dX11_back_16 : decode cX11_back 16 = .ok (.baload, 1) := by decide +kernel
theorem dX11_back_17 : decode cX11_back 17 = .ok (.ifCond .ne 6, 3) := by decide +kernel
theorem dX11_back_20 : decode cX11_back 20 = .ok (.bipush (-2), 2) := by decide +kernel
theorem dX11_back_22 : decode cX11_back 22 = .ok (.ireturn, 1) := by decide +kernel
theorem dX11_back_23 : decode cX11_back 23 = .ok (.iconst 0, 1) := by decide +kernel
theorem dX11_back_24 : decode cX11_back 24 = .ok (.istore_n 2, 1) := by decide +kernel
theorem dX11_back_25 : decode cX11_back 25 = .ok (.iload_n 2, 1) := by decide +kernel
theorem dX11_back_26 : decode cX11_back 26 = .ok (.bipush 31, 2) := by decide +kernel
theorem dX11_back_28 : decode cX11_back 28 = .ok (.if_icmp .ge 26, 3) := by decide +kernel
theorem dX11_back_31 : decode cX11_back 31 = .ok (.aload_n 0, 1) := by decide +kernel
theorem dX11_back_32 : decode cX11_back 32 = .ok (.getfield 7, 3) := by decide +kernel
theorem dX11_back_35 : decode cX11_back 35 = .ok (.iload_n 2, 1) := by decide +kernel
theorem dX11_back_36 : decode cX11_back 36 = .ok (.aload_n 0, 1) := by decide +kernel
theorem dX11_back_37 : decode cX11_back 37 = .ok (.getfield 26, 3) := by decide +kernel
theorem dX11_back_40 : decode cX11_back 40 = .ok (.bipush 31, 2) := by decide +kernel
theorem dX11_back_42 : decode cX11_back 42 = .ok (.iload_n 1, 1) := by decide +kernel
theorem dX11_back_43 : decode cX11_back 43 = .ok (.imul, 1) := by decide +kernel
theorem dX11_back_44 : decode cX11_back 44 = .ok (.iload_n 2, 1) := by decide +kernel
theorem dX11_back_45 : decode cX11_back 45 = .ok (.iadd, 1) := by decide +kernel
theorem dX11_back_46 : decode cX11_back 46 = .ok (.iaload, 1) := by decide +kernel
theorem dX11_back_47 : decode cX11_back 47 = .ok (.iastore, 1) := by decide +kernel
theorem dX11_back_48 : decode cX11_back 48 = .ok (.iinc 2 1, 3) := by decide +kernel
theorem dX11_back_51 : decode cX11_back 51 = .ok (.goto (-26), 3) := by decide +kernel
theorem dX11_back_54 : decode cX11_back 54 = .ok (.aload_n 0, 1) := by decide +kernel
theorem dX11_back_55 : decode cX11_back 55 = .ok (.iconst 0, 1) := by decide +kernel
theorem dX11_back_56 : decode cX11_back 56 = .ok (.putfield 107, 3) := by decide +kernel
theorem dX11_back_59 : decode cX11_back 59 = .ok (.aload_n 0, 1) := by decide +kernel
theorem dX11_back_60 : decode cX11_back 60 = .ok (.getfield 7, 3) := by decide +kernel
theorem dX11_back_63 : decode cX11_back 63 = .ok (.iconst 0, 1) := by decide +kernel
theorem dX11_back_64 : decode cX11_back 64 = .ok (.iaload, 1) := by decide +kernel
theorem dX11_back_65 : decode cX11_back 65 = .ok (.ireturn, 1) := by decide +kernel
theorem dX11_stretches_0 : decode cX11_stretches 0 = .ok (.iconst 0, 1) := by decide +kernel
theorem dX11_stretches_1 : decode cX11_stretches 1 = .ok (.istore_n 1, 1) := by decide +kernel
theorem dX11_stretches_2 : decode cX11_stretches 2 = .ok (.iconst 0, 1) := by decide +kernel
theorem dX11_stretches_3 : decode cX11_stretches 3 = .ok (.istore_n 2, 1) := by decide +kernel
theorem dX11_stretches_4 : decode cX11_stretches 4 = .ok (.iload_n 2, 1) := by decide +kernel
theorem dX11_stretches_5 : decode cX11_stretches 5 = .ok (.aload_n 0, 1) := by decide +kernel
theorem dX11_stretches_6 : decode cX11_stretches 6 = .ok (.getfield 7, 3) := by decide +kernel
theorem dX11_stretches_9 : decode cX11_stretches 9 = .ok (.iconst 0, 1) := by decide +kernel
theorem dX11_stretches_10 : decode cX11_stretches 10 = .ok (.iaload, 1) := by decide +kernel
theorem dX11_stretches_11 : decode cX11_stretches 11 = .ok (.if_icmp .ge 25, 3) := by decide +kernel
theorem dX11_stretches_14 : decode cX11_stretches 14 = .ok (.iload_n 1, 1) := by decide +kernel
theorem dX11_stretches_15 : decode cX11_stretches 15 = .ok (.aload_n 0, 1) := by decide +kernel
theorem dX11_stretches_16 : decode cX11_stretches 16 = .ok (.iload_n 2, 1) := by decide +kernel
theorem dX11_stretches_17 : decode cX11_stretches 17 = .ok (.invokevirtual 133, 3) := by decide +kernel
theorem dX11_stretches_20 : decode cX11_stretches 20 = .ok (.ifCond .eq 7, 3) := by decide +kernel
theorem dX11_stretches_23 : decode cX11_stretches 23 = .ok (.iconst 1, 1) := by decide +kernel
theorem dX11_stretches_24 : decode cX11_stretches 24 = .ok (.goto 4, 3) := by decide +kernel
theorem dX11_stretches_27 : decode cX11_stretches 27 = .ok (.iconst 0, 1) := by decide +kernel
theorem dX11_stretches_28 : decode cX11_stretches 28 = .ok (.iadd, 1) := by decide +kernel
theorem dX11_stretches_29 : decode cX11_stretches 29 = .ok (.istore_n 1, 1) := by decide +kernel
theorem dX11_stretches_30 : decode cX11_stretches 30 = .ok (.iinc 2 1, 3) := by decide +kernel
theorem dX11_stretches_33 : decode cX11_stretches 33 = .ok (.goto (-29), 3) := by decide +kernel
theorem dX11_stretches_36 : decode cX11_stretches 36 = .ok (.iload_n 1, 1) := by decide +kernel
theorem dX11_stretches_37 : decode cX11_stretches 37 = .ok (.ireturn, 1) := by decide +kernel
theorem dX11_late_0 : decode cX11_late 0 = .ok (.aload_n 0, 1) := by decide +kernel
theorem dX11_late_1 : decode cX11_late 1 = .ok (.aload_n 0, 1) := by decide +kernel
theorem dX11_late_2 : decode cX11_late 2 = .ok (.getfield 7, 3) := by decide +kernel
theorem dX11_late_5 : decode cX11_late 5 = .ok (.iconst 1, 1) := by decide +kernel
theorem dX11_late_6 : decode cX11_late 6 = .ok (.iaload, 1) := by decide +kernel
theorem dX11_late_7 : decode cX11_late 7 = .ok (.invokevirtual 172, 3) := by decide +kernel
theorem dX11_late_10 : decode cX11_late 10 = .ok (.istore_n 1, 1) := by decide +kernel
theorem dX11_late_11 : decode cX11_late 11 = .ok (.bipush (-9), 2) := by decide +kernel
theorem dX11_late_13 : decode cX11_late 13 = .ok (.istore_n 2, 1) := by decide +kernel
theorem dX11_late_14 : decode cX11_late 14 = .ok (.iconst 0, 1) := by decide +kernel
theorem dX11_late_15 : decode cX11_late 15 = .ok (.istore_n 3, 1) := by decide +kernel
theorem dX11_late_16 : decode cX11_late 16 = .ok (.iload_n 3, 1) := by decide +kernel
theorem dX11_late_17 : decode cX11_late 17 = .ok (.aload_n 0, 1) := by decide +kernel
theorem dX11_late_18 : decode cX11_late 18 = .ok (.getfield 7, 3) := by decide +kernel
theorem dX11_late_21 : decode cX11_late 21 = .ok (.iconst 0, 1) := by decide +kernel
theorem dX11_late_22 : decode cX11_late 22 = .ok (.iaload, 1) := by decide +kernel
theorem dX11_late_23 : decode cX11_late 23 = .ok (.if_icmp .ge 66, 3) := by decide +kernel
theorem dX11_late_26 : decode cX11_late 26 = .ok (.aload_n 0, 1) := by decide +kernel
theorem dX11_late_27 : decode cX11_late 27 = .ok (.iload_n 3, 1) := by decide +kernel
theorem dX11_late_28 : decode cX11_late 28 = .ok (.invokevirtual 130, 3) := by decide +kernel
theorem dX11_late_31 : decode cX11_late 31 = .ok (.ifCond .eq 52, 3) := by decide +kernel
theorem dX11_late_34 : decode cX11_late 34 = .ok (.iload_n 3, 1) := by decide +kernel
theorem dX11_late_35 : decode cX11_late 35 = .ok (.istore 4, 2) := by decide +kernel
theorem dX11_late_37 : decode cX11_late 37 = .ok (.iload_n 1, 1) := by decide +kernel
theorem dX11_late_38 : decode cX11_late 38 = .ok (.iload 4, 2) := by decide +kernel
theorem dX11_late_40 : decode cX11_late 40 = .ok (.invokestatic 87, 3) := by decide +kernel
theorem dX11_late_43 : decode cX11_late 43 = .ok (.ifCond .ne 9, 3) := by decide +kernel
theorem dX11_late_46 : decode cX11_late 46 = .ok (.iinc 4 1, 3) := by decide +kernel
theorem dX11_late_49 : decode cX11_late 49 = .ok (.goto (-12), 3) := by decide +kernel
theorem dX11_late_52 : decode cX11_late 52 = .ok (.aload_n 0, 1) := by decide +kernel
theorem dX11_late_53 : decode cX11_late 53 = .ok (.iload_n 1, 1) := by decide +kernel
theorem dX11_late_54 : decode cX11_late 54 = .ok (.iload 4, 2) := by decide +kernel
theorem dX11_late_56 : decode cX11_late 56 = .ok (.invokevirtual 189, 3) := by decide +kernel
theorem dX11_late_59 : decode cX11_late 59 = .ok (.aload_n 0, 1) := by decide +kernel
theorem dX11_late_60 : decode cX11_late 60 = .ok (.getfield 7, 3) := by decide +kernel
theorem dX11_late_63 : decode cX11_late 63 = .ok (.iconst 3, 1) := by decide +kernel
theorem dX11_late_64 : decode cX11_late 64 = .ok (.iload_n 3, 1) := by decide +kernel
theorem dX11_late_65 : decode cX11_late 65 = .ok (.iadd, 1) := by decide +kernel
theorem dX11_late_66 : decode cX11_late 66 = .ok (.iaload, 1) := by decide +kernel
theorem dX11_late_67 : decode cX11_late 67 = .ok (.isub, 1) := by decide +kernel
theorem dX11_late_68 : decode cX11_late 68 = .ok (.istore 5, 2) := by decide +kernel
theorem dX11_late_70 : decode cX11_late 70 = .ok (.iload 5, 2) := by decide +kernel
theorem dX11_late_72 : decode cX11_late 72 = .ok (.iload_n 2, 1) := by decide +kernel
theorem dX11_late_73 : decode cX11_late 73 = .ok (.if_icmp .le 8, 3) := by decide +kernel
theorem dX11_late_76 : decode cX11_late 76 = .ok (.iload 5, 2) := by decide +kernel
theorem dX11_late_78 : decode cX11_late 78 = .ok (.goto 4, 3) := by decide +kernel
theorem dX11_late_81 : decode cX11_late 81 = .ok (.iload_n 2, 1) := by decide +kernel
theorem dX11_late_82 : decode cX11_late 82 = .ok (.istore_n 2, 1) := by decide +kernel
theorem dX11_late_83 : decode cX11_late 83 = .ok (.iinc 3 1, 3) := by decide +kernel
theorem dX11_late_86 : decode cX11_late 86 = .ok (.goto (-70), 3) := by decide +kernel
theorem dX11_late_89 : decode cX11_late 89 = .ok (.iload_n 2, 1) := by decide +kernel
theorem dX11_late_90 : decode cX11_late 90 = .ok (.ireturn, 1) := by decide +kernel
theorem dX11_count_0 : decode cX11_count 0 = .ok (.iload_n 1, 1) := by decide +kernel
theorem dX11_count_1 : decode cX11_count 1 = .ok (.tableswitch 135 0 10 #[59, 66, 73, 80, 85, 99, 107, 115, 120, 125, 130], 59) := by decide +kernel
theorem dX11_count_60 : decode cX11_count 60 = .ok (.aload_n 0, 1) := by decide +kernel
theorem dX11_count_61 : decode cX11_count 61 = .ok (.getfield 7, 3) := by decide +kernel
theorem dX11_count_64 : decode cX11_count 64 = .ok (.iconst 0, 1) := by decide +kernel
theorem dX11_count_65 : decode cX11_count 65 = .ok (.iaload, 1) := by decide +kernel
theorem dX11_count_66 : decode cX11_count 66 = .ok (.ireturn, 1) := by decide +kernel
theorem dX11_count_67 : decode cX11_count 67 = .ok (.aload_n 0, 1) := by decide +kernel
theorem dX11_count_68 : decode cX11_count 68 = .ok (.getfield 7, 3) := by decide +kernel
theorem dX11_count_71 : decode cX11_count 71 = .ok (.iconst 1, 1) := by decide +kernel
theorem dX11_count_72 : decode cX11_count 72 = .ok (.iaload, 1) := by decide +kernel
theorem dX11_count_73 : decode cX11_count 73 = .ok (.ireturn, 1) := by decide +kernel
theorem dX11_count_74 : decode cX11_count 74 = .ok (.aload_n 0, 1) := by decide +kernel
theorem dX11_count_75 : decode cX11_count 75 = .ok (.getfield 7, 3) := by decide +kernel
theorem dX11_count_78 : decode cX11_count 78 = .ok (.iconst 2, 1) := by decide +kernel
theorem dX11_count_79 : decode cX11_count 79 = .ok (.iaload, 1) := by decide +kernel
theorem dX11_count_80 : decode cX11_count 80 = .ok (.ireturn, 1) := by decide +kernel
theorem dX11_count_81 : decode cX11_count 81 = .ok (.aload_n 0, 1) := by decide +kernel
theorem dX11_count_82 : decode cX11_count 82 = .ok (.invokevirtual 202, 3) := by decide +kernel
theorem dX11_count_85 : decode cX11_count 85 = .ok (.ireturn, 1) := by decide +kernel
theorem dX11_count_86 : decode cX11_count 86 = .ok (.aload_n 0, 1) := by decide +kernel
theorem dX11_count_87 : decode cX11_count 87 = .ok (.aload_n 0, 1) := by decide +kernel
theorem dX11_count_88 : decode cX11_count 88 = .ok (.getfield 7, 3) := by decide +kernel
theorem dX11_count_91 : decode cX11_count 91 = .ok (.iconst 1, 1) := by decide +kernel
theorem dX11_count_92 : decode cX11_count 92 = .ok (.iaload, 1) := by decide +kernel
theorem dX11_count_93 : decode cX11_count 93 = .ok (.invokevirtual 172, 3) := by decide +kernel
theorem dX11_count_96 : decode cX11_count 96 = .ok (.invokestatic 186, 3) := by decide +kernel
theorem dX11_count_99 : decode cX11_count 99 = .ok (.ireturn, 1) := by decide +kernel
theorem dX11_count_100 : decode cX11_count 100 = .ok (.aload_n 0, 1) := by decide +kernel
theorem dX11_count_101 : decode cX11_count 101 = .ok (.invokevirtual 180, 3) := by decide +kernel
theorem dX11_count_104 : decode cX11_count 104 = .ok (.invokestatic 186, 3) := by decide +kernel
theorem dX11_count_107 : decode cX11_count 107 = .ok (.ireturn, 1) := by decide +kernel
theorem dX11_count_108 : decode cX11_count 108 = .ok (.aload_n 0, 1) := by decide +kernel
theorem dX11_count_109 : decode cX11_count 109 = .ok (.invokevirtual 176, 3) := by decide +kernel
theorem dX11_count_112 : decode cX11_count 112 = .ok (.invokestatic 186, 3) := by decide +kernel
theorem dX11_count_115 : decode cX11_count 115 = .ok (.ireturn, 1) := by decide +kernel
theorem dX11_count_116 : decode cX11_count 116 = .ok (.aload_n 0, 1) := by decide +kernel
theorem dX11_count_117 : decode cX11_count 117 = .ok (.invokevirtual 205, 3) := by decide +kernel
theorem dX11_count_120 : decode cX11_count 120 = .ok (.ireturn, 1) := by decide +kernel
theorem dX11_count_121 : decode cX11_count 121 = .ok (.aload_n 0, 1) := by decide +kernel
theorem dX11_count_122 : decode cX11_count 122 = .ok (.getfield 110, 3) := by decide +kernel
theorem dX11_count_125 : decode cX11_count 125 = .ok (.ireturn, 1) := by decide +kernel
theorem dX11_count_126 : decode cX11_count 126 = .ok (.aload_n 0, 1) := by decide +kernel
theorem dX11_count_127 : decode cX11_count 127 = .ok (.getfield 52, 3) := by decide +kernel
theorem dX11_count_130 : decode cX11_count 130 = .ok (.ireturn, 1) := by decide +kernel
theorem dX11_count_131 : decode cX11_count 131 = .ok (.aload_n 0, 1) := by decide +kernel
theorem dX11_count_132 : decode cX11_count 132 = .ok (.getfield 107, 3) := by decide +kernel
theorem dX11_count_135 : decode cX11_count 135 = .ok (.ireturn, 1) := by decide +kernel
theorem dX11_count_136 : decode cX11_count 136 = .ok (.iconst (-1), 1) := by decide +kernel
theorem dX11_count_137 : decode cX11_count 137 = .ok (.ireturn, 1) := by decide +kernel
theorem dJ6_bitCount_0f7a4_0 : decode cJ6_bitCount_0f7a4 0 = .ok (.iload_n 0, 1) := by decide +kernel
theorem dJ6_bitCount_0f7a4_1 : decode cJ6_bitCount_0f7a4 1 = .ok (.iload_n 0, 1) := by decide +kernel
theorem dJ6_bitCount_0f7a4_2 : decode cJ6_bitCount_0f7a4 2 = .ok (.iconst 1, 1) := by decide +kernel
theorem dJ6_bitCount_0f7a4_3 : decode cJ6_bitCount_0f7a4 3 = .ok (.iushr, 1) := by decide +kernel
theorem dJ6_bitCount_0f7a4_4 : decode cJ6_bitCount_0f7a4 4 = .ok (.ldc_w 265, 3) := by decide +kernel
theorem dJ6_bitCount_0f7a4_7 : decode cJ6_bitCount_0f7a4 7 = .ok (.iand, 1) := by decide +kernel
theorem dJ6_bitCount_0f7a4_8 : decode cJ6_bitCount_0f7a4 8 = .ok (.isub, 1) := by decide +kernel
theorem dJ6_bitCount_0f7a4_9 : decode cJ6_bitCount_0f7a4 9 = .ok (.istore_n 0, 1) := by decide +kernel
theorem dJ6_bitCount_0f7a4_10 : decode cJ6_bitCount_0f7a4 10 = .ok (.iload_n 0, 1) := by decide +kernel
theorem dJ6_bitCount_0f7a4_11 : decode cJ6_bitCount_0f7a4 11 = .ok (.ldc_w 266, 3) := by decide +kernel
theorem dJ6_bitCount_0f7a4_14 : decode cJ6_bitCount_0f7a4 14 = .ok (.iand, 1) := by decide +kernel
theorem dJ6_bitCount_0f7a4_15 : decode cJ6_bitCount_0f7a4 15 = .ok (.iload_n 0, 1) := by decide +kernel
theorem dJ6_bitCount_0f7a4_16 : decode cJ6_bitCount_0f7a4 16 = .ok (.iconst 2, 1) := by decide +kernel
theorem dJ6_bitCount_0f7a4_17 : decode cJ6_bitCount_0f7a4 17 = .ok (.iushr, 1) := by decide +kernel
theorem dJ6_bitCount_0f7a4_18 : decode cJ6_bitCount_0f7a4 18 = .ok (.ldc_w 266, 3) := by decide +kernel
theorem dJ6_bitCount_0f7a4_21 : decode cJ6_bitCount_0f7a4 21 = .ok (.iand, 1) := by decide +kernel
theorem dJ6_bitCount_0f7a4_22 : decode cJ6_bitCount_0f7a4 22 = .ok (.iadd, 1) := by decide +kernel
theorem dJ6_bitCount_0f7a4_23 : decode cJ6_bitCount_0f7a4 23 = .ok (.istore_n 0, 1) := by decide +kernel
theorem dJ6_bitCount_0f7a4_24 : decode cJ6_bitCount_0f7a4 24 = .ok (.iload_n 0, 1) := by decide +kernel
theorem dJ6_bitCount_0f7a4_25 : decode cJ6_bitCount_0f7a4 25 = .ok (.iload_n 0, 1) := by decide +kernel
theorem dJ6_bitCount_0f7a4_26 : decode cJ6_bitCount_0f7a4 26 = .ok (.iconst 4, 1) := by decide +kernel
theorem dJ6_bitCount_0f7a4_27 : decode cJ6_bitCount_0f7a4 27 = .ok (.iushr, 1) := by decide +kernel
theorem dJ6_bitCount_0f7a4_28 : decode cJ6_bitCount_0f7a4 28 = .ok (.iadd, 1) := by decide +kernel
theorem dJ6_bitCount_0f7a4_29 : decode cJ6_bitCount_0f7a4 29 = .ok (.ldc_w 267, 3) := by decide +kernel
theorem dJ6_bitCount_0f7a4_32 : decode cJ6_bitCount_0f7a4 32 = .ok (.iand, 1) := by decide +kernel
theorem dJ6_bitCount_0f7a4_33 : decode cJ6_bitCount_0f7a4 33 = .ok (.istore_n 0, 1) := by decide +kernel
theorem dJ6_bitCount_0f7a4_34 : decode cJ6_bitCount_0f7a4 34 = .ok (.iload_n 0, 1) := by decide +kernel
theorem dJ6_bitCount_0f7a4_35 : decode cJ6_bitCount_0f7a4 35 = .ok (.iload_n 0, 1) := by decide +kernel
theorem dJ6_bitCount_0f7a4_36 : decode cJ6_bitCount_0f7a4 36 = .ok (.bipush 8, 2) := by decide +kernel
theorem dJ6_bitCount_0f7a4_38 : decode cJ6_bitCount_0f7a4 38 = .ok (.iushr, 1) := by decide +kernel
theorem dJ6_bitCount_0f7a4_39 : decode cJ6_bitCount_0f7a4 39 = .ok (.iadd, 1) := by decide +kernel
theorem dJ6_bitCount_0f7a4_40 : decode cJ6_bitCount_0f7a4 40 = .ok (.istore_n 0, 1) := by decide +kernel
theorem dJ6_bitCount_0f7a4_41 : decode cJ6_bitCount_0f7a4 41 = .ok (.iload_n 0, 1) := by decide +kernel
theorem dJ6_bitCount_0f7a4_42 : decode cJ6_bitCount_0f7a4 42 = .ok (.iload_n 0, 1) := by decide +kernel
theorem dJ6_bitCount_0f7a4_43 : decode cJ6_bitCount_0f7a4 43 = .ok (.bipush 16, 2) := by decide +kernel
theorem dJ6_bitCount_0f7a4_45 : decode cJ6_bitCount_0f7a4 45 = .ok (.iushr, 1) := by decide +kernel
theorem dJ6_bitCount_0f7a4_46 : decode cJ6_bitCount_0f7a4 46 = .ok (.iadd, 1) := by decide +kernel
theorem dJ6_bitCount_0f7a4_47 : decode cJ6_bitCount_0f7a4 47 = .ok (.istore_n 0, 1) := by decide +kernel
theorem dJ6_bitCount_0f7a4_48 : decode cJ6_bitCount_0f7a4 48 = .ok (.iload_n 0, 1) := by decide +kernel
theorem dJ6_bitCount_0f7a4_49 : decode cJ6_bitCount_0f7a4 49 = .ok (.bipush 63, 2) := by decide +kernel
theorem dJ6_bitCount_0f7a4_51 : decode cJ6_bitCount_0f7a4 51 = .ok (.iand, 1) := by decide +kernel
theorem dJ6_bitCount_0f7a4_52 : decode cJ6_bitCount_0f7a4 52 = .ok (.ireturn, 1) := by decide +kernel
theorem dJ9_abs_0f7a4_0 : decode cJ9_abs_0f7a4 0 = .ok (.iload_n 0, 1) := by decide +kernel
theorem dJ9_abs_0f7a4_1 : decode cJ9_abs_0f7a4 1 = .ok (.ifCond .ge 8, 3) := by decide +kernel
theorem dJ9_abs_0f7a4_4 : decode cJ9_abs_0f7a4 4 = .ok (.iload_n 0, 1) := by decide +kernel
theorem dJ9_abs_0f7a4_5 : decode cJ9_abs_0f7a4 5 = .ok (.ineg, 1) := by decide +kernel
theorem dJ9_abs_0f7a4_6 : decode cJ9_abs_0f7a4 6 = .ok (.goto 4, 3) := by decide +kernel
theorem dJ9_abs_0f7a4_9 : decode cJ9_abs_0f7a4 9 = .ok (.iload_n 0, 1) := by decide +kernel
theorem dJ9_abs_0f7a4_10 : decode cJ9_abs_0f7a4 10 = .ok (.ireturn, 1) := by decide +kernel
theorem dJ9_max_7cf53_0 : decode cJ9_max_7cf53 0 = .ok (.iload_n 0, 1) := by decide +kernel
theorem dJ9_max_7cf53_1 : decode cJ9_max_7cf53 1 = .ok (.iload_n 1, 1) := by decide +kernel
theorem dJ9_max_7cf53_2 : decode cJ9_max_7cf53 2 = .ok (.if_icmp .lt 7, 3) := by decide +kernel
theorem dJ9_max_7cf53_5 : decode cJ9_max_7cf53 5 = .ok (.iload_n 0, 1) := by decide +kernel
theorem dJ9_max_7cf53_6 : decode cJ9_max_7cf53 6 = .ok (.goto 4, 3) := by decide +kernel
theorem dJ9_max_7cf53_9 : decode cJ9_max_7cf53 9 = .ok (.iload_n 1, 1) := by decide +kernel
theorem dJ9_max_7cf53_10 : decode cJ9_max_7cf53 10 = .ok (.ireturn, 1) := by decide +kernel
theorem dJ9_min_7cf53_0 : decode cJ9_min_7cf53 0 = .ok (.iload_n 0, 1) := by decide +kernel
theorem dJ9_min_7cf53_1 : decode cJ9_min_7cf53 1 = .ok (.iload_n 1, 1) := by decide +kernel
theorem dJ9_min_7cf53_2 : decode cJ9_min_7cf53 2 = .ok (.if_icmp .gt 7, 3) := by decide +kernel
theorem dJ9_min_7cf53_5 : decode cJ9_min_7cf53 5 = .ok (.iload_n 0, 1) := by decide +kernel
theorem dJ9_min_7cf53_6 : decode cJ9_min_7cf53 6 = .ok (.goto 4, 3) := by decide +kernel
theorem dJ9_min_7cf53_9 : decode cJ9_min_7cf53 9 = .ok (.iload_n 1, 1) := by decide +kernel
theorem dJ9_min_7cf53_10 : decode cJ9_min_7cf53 10 = .ok (.ireturn, 1) := by decide +kernel
theorem dL_law_0 : decode cL_law 0 = .ok (.new 7, 3) := by decide +kernel
theorem dL_law_3 : decode cL_law 3 = .ok (.dup, 1) := by decide +kernel
theorem dL_law_4 : decode cL_law 4 = .ok (.invokespecial 9, 3) := by decide +kernel
theorem dL_law_7 : decode cL_law 7 = .ok (.astore_n 1, 1) := by decide +kernel
theorem dL_law_8 : decode cL_law 8 = .ok (.new 10, 3) := by decide +kernel
theorem dL_law_11 : decode cL_law 11 = .ok (.dup, 1) := by decide +kernel
theorem dL_law_12 : decode cL_law 12 = .ok (.invokespecial 12, 3) := by decide +kernel
theorem dL_law_15 : decode cL_law 15 = .ok (.astore_n 2, 1) := by decide +kernel
theorem dL_law_16 : decode cL_law 16 = .ok (.iconst 0, 1) := by decide +kernel
theorem dL_law_17 : decode cL_law 17 = .ok (.istore_n 3, 1) := by decide +kernel
theorem dL_law_18 : decode cL_law 18 = .ok (.iload_n 3, 1) := by decide +kernel
theorem dL_law_19 : decode cL_law 19 = .ok (.aload_n 0, 1) := by decide +kernel
theorem dL_law_20 : decode cL_law 20 = .ok (.arraylength, 1) := by decide +kernel
theorem dL_law_21 : decode cL_law 21 = .ok (.iconst 4, 1) := by decide +kernel
theorem dL_law_22 : decode cL_law 22 = .ok (.isub, 1) := by decide +kernel
theorem dL_law_23 : decode cL_law 23 = .ok (.if_icmp .gt 648, 3) := by decide +kernel
theorem dL_law_26 : decode cL_law 26 = .ok (.aload_n 0, 1) := by decide +kernel
theorem dL_law_27 : decode cL_law 27 = .ok (.iload_n 3, 1) := by decide +kernel
theorem dL_law_28 : decode cL_law 28 = .ok (.iaload, 1) := by decide +kernel
theorem dL_law_29 : decode cL_law 29 = .ok (.bipush 31, 2) := by decide +kernel
theorem dL_law_31 : decode cL_law 31 = .ok (.iand, 1) := by decide +kernel
theorem dL_law_32 : decode cL_law 32 = .ok (.tableswitch 633 0 20 #[100, 123, 136, 149, 182, 205, 228, 251, 274, 287, 320, 363, 396, 439, 482, 515, 528, 551, 564, 587, 610], 100) := by decide +kernel
theorem dL_law_132 : decode cL_law 132 = .ok (.aload_n 1, 1) := by decide +kernel
theorem dL_law_133 : decode cL_law 133 = .ok (.aload_n 0, 1) := by decide +kernel
theorem dL_law_134 : decode cL_law 134 = .ok (.iload_n 3, 1) := by decide +kernel
theorem dL_law_135 : decode cL_law 135 = .ok (.iconst 1, 1) := by decide +kernel
theorem dL_law_136 : decode cL_law 136 = .ok (.iadd, 1) := by decide +kernel
theorem dL_law_137 : decode cL_law 137 = .ok (.iaload, 1) := by decide +kernel
theorem dL_law_138 : decode cL_law 138 = .ok (.invokevirtual 13, 3) := by decide +kernel
theorem dL_law_141 : decode cL_law 141 = .ok (.aload_n 2, 1) := by decide +kernel
theorem dL_law_142 : decode cL_law 142 = .ok (.aload_n 0, 1) := by decide +kernel
theorem dL_law_143 : decode cL_law 143 = .ok (.iload_n 3, 1) := by decide +kernel
theorem dL_law_144 : decode cL_law 144 = .ok (.iconst 1, 1) := by decide +kernel
theorem dL_law_145 : decode cL_law 145 = .ok (.iadd, 1) := by decide +kernel
theorem dL_law_146 : decode cL_law 146 = .ok (.iaload, 1) := by decide +kernel
theorem dL_law_147 : decode cL_law 147 = .ok (.invokevirtual 17, 3) := by decide +kernel
theorem dL_law_150 : decode cL_law 150 = .ok (.if_icmp .eq 515, 3) := by decide +kernel
theorem dL_law_153 : decode cL_law 153 = .ok (.iconst 0, 1) := by decide +kernel
theorem dL_law_154 : decode cL_law 154 = .ok (.ireturn, 1) := by decide +kernel
theorem dL_law_155 : decode cL_law 155 = .ok (.aload_n 1, 1) := by decide +kernel
theorem dL_law_156 : decode cL_law 156 = .ok (.invokevirtual 18, 3) := by decide +kernel
theorem dL_law_159 : decode cL_law 159 = .ok (.aload_n 2, 1) := by decide +kernel
theorem dL_law_160 : decode cL_law 160 = .ok (.invokevirtual 22, 3) := by decide +kernel
theorem dL_law_163 : decode cL_law 163 = .ok (.if_icmp .eq 502, 3) := by decide +kernel
theorem dL_law_166 : decode cL_law 166 = .ok (.iconst 0, 1) := by decide +kernel
theorem dL_law_167 : decode cL_law 167 = .ok (.ireturn, 1) := by decide +kernel
theorem dL_law_168 : decode cL_law 168 = .ok (.aload_n 1, 1) := by decide +kernel
theorem dL_law_169 : decode cL_law 169 = .ok (.invokevirtual 23, 3) := by decide +kernel
theorem dL_law_172 : decode cL_law 172 = .ok (.aload_n 2, 1) := by decide +kernel
theorem dL_law_173 : decode cL_law 173 = .ok (.invokevirtual 26, 3) := by decide +kernel
theorem dL_law_176 : decode cL_law 176 = .ok (.if_icmp .eq 489, 3) := by decide +kernel
theorem dL_law_179 : decode cL_law 179 = .ok (.iconst 0, 1) := by decide +kernel
theorem dL_law_180 : decode cL_law 180 = .ok (.ireturn, 1) := by decide +kernel
theorem dL_law_181 : decode cL_law 181 = .ok (.aload_n 1, 1) := by decide +kernel
theorem dL_law_182 : decode cL_law 182 = .ok (.aload_n 0, 1) := by decide +kernel
theorem dL_law_183 : decode cL_law 183 = .ok (.iload_n 3, 1) := by decide +kernel
theorem dL_law_184 : decode cL_law 184 = .ok (.iconst 1, 1) := by decide +kernel
theorem dL_law_185 : decode cL_law 185 = .ok (.iadd, 1) := by decide +kernel
theorem dL_law_186 : decode cL_law 186 = .ok (.iaload, 1) := by decide +kernel
theorem dL_law_187 : decode cL_law 187 = .ok (.aload_n 0, 1) := by decide +kernel
theorem dL_law_188 : decode cL_law 188 = .ok (.iload_n 3, 1) := by decide +kernel
theorem dL_law_189 : decode cL_law 189 = .ok (.iconst 2, 1) := by decide +kernel
theorem dL_law_190 : decode cL_law 190 = .ok (.iadd, 1) := by decide +kernel
theorem dL_law_191 : decode cL_law 191 = .ok (.iaload, 1) := by decide +kernel
theorem dL_law_192 : decode cL_law 192 = .ok (.invokevirtual 27, 3) := by decide +kernel
theorem dL_law_195 : decode cL_law 195 = .ok (.aload_n 2, 1) := by decide +kernel
theorem dL_law_196 : decode cL_law 196 = .ok (.aload_n 0, 1) := by decide +kernel
theorem dL_law_197 : decode cL_law 197 = .ok (.iload_n 3, 1) := by decide +kernel
theorem dL_law_198 : decode cL_law 198 = .ok (.iconst 1, 1) := by decide +kernel
theorem dL_law_199 : decode cL_law 199 = .ok (.iadd, 1) := by decide +kernel
theorem dL_law_200 : decode cL_law 200 = .ok (.iaload, 1) := by decide +kernel
theorem dL_law_201 : decode cL_law 201 = .ok (.aload_n 0, 1) := by decide +kernel
theorem dL_law_202 : decode cL_law 202 = .ok (.iload_n 3, 1) := by decide +kernel
theorem dL_law_203 : decode cL_law 203 = .ok (.iconst 2, 1) := by decide +kernel
theorem dL_law_204 : decode cL_law 204 = .ok (.iadd, 1) := by decide +kernel
theorem dL_law_205 : decode cL_law 205 = .ok (.iaload, 1) := by decide +kernel
theorem dL_law_206 : decode cL_law 206 = .ok (.invokevirtual 31, 3) := by decide +kernel
theorem dL_law_209 : decode cL_law 209 = .ok (.if_icmp .eq 456, 3) := by decide +kernel
theorem dL_law_212 : decode cL_law 212 = .ok (.iconst 0, 1) := by decide +kernel
theorem dL_law_213 : decode cL_law 213 = .ok (.ireturn, 1) := by decide +kernel
theorem dL_law_214 : decode cL_law 214 = .ok (.aload_n 1, 1) := by decide +kernel
theorem dL_law_215 : decode cL_law 215 = .ok (.aload_n 0, 1) := by decide +kernel
theorem dL_law_216 : decode cL_law 216 = .ok (.iload_n 3, 1) := by decide +kernel
theorem dL_law_217 : decode cL_law 217 = .ok (.iconst 1, 1) := by decide +kernel
theorem dL_law_218 : decode cL_law 218 = .ok (.iadd, 1) := by decide +kernel
theorem dL_law_219 : decode cL_law 219 = .ok (.iaload, 1) := by decide +kernel
theorem dL_law_220 : decode cL_law 220 = .ok (.invokevirtual 32, 3) := by decide +kernel
theorem dL_law_223 : decode cL_law 223 = .ok (.aload_n 2, 1) := by decide +kernel
theorem dL_law_224 : decode cL_law 224 = .ok (.aload_n 0, 1) := by decide +kernel
theorem dL_law_225 : decode cL_law 225 = .ok (.iload_n 3, 1) := by decide +kernel
theorem dL_law_226 : decode cL_law 226 = .ok (.iconst 1, 1) := by decide +kernel
theorem dL_law_227 : decode cL_law 227 = .ok (.iadd, 1) := by decide +kernel
theorem dL_law_228 : decode cL_law 228 = .ok (.iaload, 1) := by decide +kernel
theorem dL_law_229 : decode cL_law 229 = .ok (.invokevirtual 35, 3) := by decide +kernel
theorem dL_law_232 : decode cL_law 232 = .ok (.if_icmp .eq 433, 3) := by decide +kernel
theorem dL_law_235 : decode cL_law 235 = .ok (.iconst 0, 1) := by decide +kernel
theorem dL_law_236 : decode cL_law 236 = .ok (.ireturn, 1) := by decide +kernel
theorem dL_law_237 : decode cL_law 237 = .ok (.aload_n 1, 1) := by decide +kernel
theorem dL_law_238 : decode cL_law 238 = .ok (.aload_n 0, 1) := by decide +kernel
theorem dL_law_239 : decode cL_law 239 = .ok (.iload_n 3, 1) := by decide +kernel
theorem dL_law_240 : decode cL_law 240 = .ok (.iconst 1, 1) := by decide +kernel
theorem dL_law_241 : decode cL_law 241 = .ok (.iadd, 1) := by decide +kernel
theorem dL_law_242 : decode cL_law 242 = .ok (.iaload, 1) := by decide +kernel
theorem dL_law_243 : decode cL_law 243 = .ok (.invokevirtual 36, 3) := by decide +kernel
theorem dL_law_246 : decode cL_law 246 = .ok (.aload_n 2, 1) := by decide +kernel
theorem dL_law_247 : decode cL_law 247 = .ok (.aload_n 0, 1) := by decide +kernel
theorem dL_law_248 : decode cL_law 248 = .ok (.iload_n 3, 1) := by decide +kernel
theorem dL_law_249 : decode cL_law 249 = .ok (.iconst 1, 1) := by decide +kernel
theorem dL_law_250 : decode cL_law 250 = .ok (.iadd, 1) := by decide +kernel
theorem dL_law_251 : decode cL_law 251 = .ok (.iaload, 1) := by decide +kernel
theorem dL_law_252 : decode cL_law 252 = .ok (.invokevirtual 39, 3) := by decide +kernel
theorem dL_law_255 : decode cL_law 255 = .ok (.if_icmp .eq 410, 3) := by decide +kernel
theorem dL_law_258 : decode cL_law 258 = .ok (.iconst 0, 1) := by decide +kernel
theorem dL_law_259 : decode cL_law 259 = .ok (.ireturn, 1) := by decide +kernel
theorem dL_law_260 : decode cL_law 260 = .ok (.aload_n 1, 1) := by decide +kernel
theorem dL_law_261 : decode cL_law 261 = .ok (.aload_n 0, 1) := by decide +kernel
theorem dL_law_262 : decode cL_law 262 = .ok (.iload_n 3, 1) := by decide +kernel
theorem dL_law_263 : decode cL_law 263 = .ok (.iconst 1, 1) := by decide +kernel
theorem dL_law_264 : decode cL_law 264 = .ok (.iadd, 1) := by decide +kernel
theorem dL_law_265 : decode cL_law 265 = .ok (.iaload, 1) := by decide +kernel
theorem dL_law_266 : decode cL_law 266 = .ok (.invokevirtual 40, 3) := by decide +kernel
theorem dL_law_269 : decode cL_law 269 = .ok (.aload_n 2, 1) := by decide +kernel
theorem dL_law_270 : decode cL_law 270 = .ok (.aload_n 0, 1) := by decide +kernel
theorem dL_law_271 : decode cL_law 271 = .ok (.iload_n 3, 1) := by decide +kernel
theorem dL_law_272 : decode cL_law 272 = .ok (.iconst 1, 1) := by decide +kernel
theorem dL_law_273 : decode cL_law 273 = .ok (.iadd, 1) := by decide +kernel
theorem dL_law_274 : decode cL_law 274 = .ok (.iaload, 1) := by decide +kernel
theorem dL_law_275 : decode cL_law 275 = .ok (.invokevirtual 43, 3) := by decide +kernel
theorem dL_law_278 : decode cL_law 278 = .ok (.if_icmp .eq 387, 3) := by decide +kernel
theorem dL_law_281 : decode cL_law 281 = .ok (.iconst 0, 1) := by decide +kernel
theorem dL_law_282 : decode cL_law 282 = .ok (.ireturn, 1) := by decide +kernel
theorem dL_law_283 : decode cL_law 283 = .ok (.aload_n 1, 1) := by decide +kernel
theorem dL_law_284 : decode cL_law 284 = .ok (.aload_n 0, 1) := by decide +kernel
theorem dL_law_285 : decode cL_law 285 = .ok (.iload_n 3, 1) := by decide +kernel
theorem dL_law_286 : decode cL_law 286 = .ok (.iconst 1, 1) := by decide +kernel
theorem dL_law_287 : decode cL_law 287 = .ok (.iadd, 1) := by decide +kernel
theorem dL_law_288 : decode cL_law 288 = .ok (.iaload, 1) := by decide +kernel
theorem dL_law_289 : decode cL_law 289 = .ok (.invokevirtual 44, 3) := by decide +kernel
theorem dL_law_292 : decode cL_law 292 = .ok (.aload_n 2, 1) := by decide +kernel
theorem dL_law_293 : decode cL_law 293 = .ok (.aload_n 0, 1) := by decide +kernel
theorem dL_law_294 : decode cL_law 294 = .ok (.iload_n 3, 1) := by decide +kernel
theorem dL_law_295 : decode cL_law 295 = .ok (.iconst 1, 1) := by decide +kernel
theorem dL_law_296 : decode cL_law 296 = .ok (.iadd, 1) := by decide +kernel
theorem dL_law_297 : decode cL_law 297 = .ok (.iaload, 1) := by decide +kernel
theorem dL_law_298 : decode cL_law 298 = .ok (.invokevirtual 47, 3) := by decide +kernel
theorem dL_law_301 : decode cL_law 301 = .ok (.if_icmp .eq 364, 3) := by decide +kernel
theorem dL_law_304 : decode cL_law 304 = .ok (.iconst 0, 1) := by decide +kernel
theorem dL_law_305 : decode cL_law 305 = .ok (.ireturn, 1) := by decide +kernel
theorem dL_law_306 : decode cL_law 306 = .ok (.aload_n 1, 1) := by decide +kernel
theorem dL_law_307 : decode cL_law 307 = .ok (.invokevirtual 48, 3) := by decide +kernel
theorem dL_law_310 : decode cL_law 310 = .ok (.aload_n 2, 1) := by decide +kernel
theorem dL_law_311 : decode cL_law 311 = .ok (.invokevirtual 51, 3) := by decide +kernel
theorem dL_law_314 : decode cL_law 314 = .ok (.if_icmp .eq 351, 3) := by decide +kernel
theorem dL_law_317 : decode cL_law 317 = .ok (.iconst 0, 1) := by decide +kernel
theorem dL_law_318 : decode cL_law 318 = .ok (.ireturn, 1) := by decide +kernel
theorem dL_law_319 : decode cL_law 319 = .ok (.aload_n 1, 1) := by decide +kernel
theorem dL_law_320 : decode cL_law 320 = .ok (.aload_n 0, 1) := by decide +kernel
theorem dL_law_321 : decode cL_law 321 = .ok (.iload_n 3, 1) := by decide +kernel
theorem dL_law_322 : decode cL_law 322 = .ok (.iconst 1, 1) := by decide +kernel
theorem dL_law_323 : decode cL_law 323 = .ok (.iadd, 1) := by decide +kernel
theorem dL_law_324 : decode cL_law 324 = .ok (.iaload, 1) := by decide +kernel
theorem dL_law_325 : decode cL_law 325 = .ok (.aload_n 0, 1) := by decide +kernel
theorem dL_law_326 : decode cL_law 326 = .ok (.iload_n 3, 1) := by decide +kernel
theorem dL_law_327 : decode cL_law 327 = .ok (.iconst 2, 1) := by decide +kernel
theorem dL_law_328 : decode cL_law 328 = .ok (.iadd, 1) := by decide +kernel
theorem dL_law_329 : decode cL_law 329 = .ok (.iaload, 1) := by decide +kernel
theorem dL_law_330 : decode cL_law 330 = .ok (.invokevirtual 52, 3) := by decide +kernel
theorem dL_law_333 : decode cL_law 333 = .ok (.aload_n 2, 1) := by decide +kernel
theorem dL_law_334 : decode cL_law 334 = .ok (.aload_n 0, 1) := by decide +kernel
theorem dL_law_335 : decode cL_law 335 = .ok (.iload_n 3, 1) := by decide +kernel
theorem dL_law_336 : decode cL_law 336 = .ok (.iconst 1, 1) := by decide +kernel
theorem dL_law_337 : decode cL_law 337 = .ok (.iadd, 1) := by decide +kernel
theorem dL_law_338 : decode cL_law 338 = .ok (.iaload, 1) := by decide +kernel
theorem dL_law_339 : decode cL_law 339 = .ok (.aload_n 0, 1) := by decide +kernel
theorem dL_law_340 : decode cL_law 340 = .ok (.iload_n 3, 1) := by decide +kernel
theorem dL_law_341 : decode cL_law 341 = .ok (.iconst 2, 1) := by decide +kernel
theorem dL_law_342 : decode cL_law 342 = .ok (.iadd, 1) := by decide +kernel
theorem dL_law_343 : decode cL_law 343 = .ok (.iaload, 1) := by decide +kernel
theorem dL_law_344 : decode cL_law 344 = .ok (.invokevirtual 55, 3) := by decide +kernel
theorem dL_law_347 : decode cL_law 347 = .ok (.if_icmp .eq 318, 3) := by decide +kernel
theorem dL_law_350 : decode cL_law 350 = .ok (.iconst 0, 1) := by decide +kernel
theorem dL_law_351 : decode cL_law 351 = .ok (.ireturn, 1) := by decide +kernel
theorem dL_law_352 : decode cL_law 352 = .ok (.aload_n 1, 1) := by decide +kernel
theorem dL_law_353 : decode cL_law 353 = .ok (.aload_n 0, 1) := by decide +kernel
theorem dL_law_354 : decode cL_law 354 = .ok (.iload_n 3, 1) := by decide +kernel
theorem dL_law_355 : decode cL_law 355 = .ok (.iconst 1, 1) := by decide +kernel
theorem dL_law_356 : decode cL_law 356 = .ok (.iadd, 1) := by decide +kernel
theorem dL_law_357 : decode cL_law 357 = .ok (.iaload, 1) := by decide +kernel
theorem dL_law_358 : decode cL_law 358 = .ok (.aload_n 0, 1) := by decide +kernel
theorem dL_law_359 : decode cL_law 359 = .ok (.iload_n 3, 1) := by decide +kernel
theorem dL_law_360 : decode cL_law 360 = .ok (.iconst 2, 1) := by decide +kernel
theorem dL_law_361 : decode cL_law 361 = .ok (.iadd, 1) := by decide +kernel
theorem dL_law_362 : decode cL_law 362 = .ok (.iaload, 1) := by decide +kernel
theorem dL_law_363 : decode cL_law 363 = .ok (.aload_n 0, 1) := by decide +kernel
theorem dL_law_364 : decode cL_law 364 = .ok (.iload_n 3, 1) := by decide +kernel
theorem dL_law_365 : decode cL_law 365 = .ok (.iconst 3, 1) := by decide +kernel
theorem dL_law_366 : decode cL_law 366 = .ok (.iadd, 1) := by decide +kernel
theorem dL_law_367 : decode cL_law 367 = .ok (.iaload, 1) := by decide +kernel
theorem dL_law_368 : decode cL_law 368 = .ok (.invokevirtual 56, 3) := by decide +kernel
theorem dL_law_371 : decode cL_law 371 = .ok (.aload_n 2, 1) := by decide +kernel
theorem dL_law_372 : decode cL_law 372 = .ok (.aload_n 0, 1) := by decide +kernel
theorem dL_law_373 : decode cL_law 373 = .ok (.iload_n 3, 1) := by decide +kernel
theorem dL_law_374 : decode cL_law 374 = .ok (.iconst 1, 1) := by decide +kernel
theorem dL_law_375 : decode cL_law 375 = .ok (.iadd, 1) := by decide +kernel
theorem dL_law_376 : decode cL_law 376 = .ok (.iaload, 1) := by decide +kernel
theorem dL_law_377 : decode cL_law 377 = .ok (.aload_n 0, 1) := by decide +kernel
theorem dL_law_378 : decode cL_law 378 = .ok (.iload_n 3, 1) := by decide +kernel
theorem dL_law_379 : decode cL_law 379 = .ok (.iconst 2, 1) := by decide +kernel
theorem dL_law_380 : decode cL_law 380 = .ok (.iadd, 1) := by decide +kernel
theorem dL_law_381 : decode cL_law 381 = .ok (.iaload, 1) := by decide +kernel
theorem dL_law_382 : decode cL_law 382 = .ok (.aload_n 0, 1) := by decide +kernel
theorem dL_law_383 : decode cL_law 383 = .ok (.iload_n 3, 1) := by decide +kernel
theorem dL_law_384 : decode cL_law 384 = .ok (.iconst 3, 1) := by decide +kernel
theorem dL_law_385 : decode cL_law 385 = .ok (.iadd, 1) := by decide +kernel
theorem dL_law_386 : decode cL_law 386 = .ok (.iaload, 1) := by decide +kernel
theorem dL_law_387 : decode cL_law 387 = .ok (.invokevirtual 60, 3) := by decide +kernel
theorem dL_law_390 : decode cL_law 390 = .ok (.if_icmp .eq 275, 3) := by decide +kernel
theorem dL_law_393 : decode cL_law 393 = .ok (.iconst 0, 1) := by decide +kernel
theorem dL_law_394 : decode cL_law 394 = .ok (.ireturn, 1) := by decide +kernel
theorem dL_law_395 : decode cL_law 395 = .ok (.aload_n 1, 1) := by decide +kernel
theorem dL_law_396 : decode cL_law 396 = .ok (.aload_n 0, 1) := by decide +kernel
theorem dL_law_397 : decode cL_law 397 = .ok (.iload_n 3, 1) := by decide +kernel
theorem dL_law_398 : decode cL_law 398 = .ok (.iconst 1, 1) := by decide +kernel
theorem dL_law_399 : decode cL_law 399 = .ok (.iadd, 1) := by decide +kernel
theorem dL_law_400 : decode cL_law 400 = .ok (.iaload, 1) := by decide +kernel
theorem dL_law_401 : decode cL_law 401 = .ok (.aload_n 0, 1) := by decide +kernel
theorem dL_law_402 : decode cL_law 402 = .ok (.iload_n 3, 1) := by decide +kernel
theorem dL_law_403 : decode cL_law 403 = .ok (.iconst 2, 1) := by decide +kernel
theorem dL_law_404 : decode cL_law 404 = .ok (.iadd, 1) := by decide +kernel
theorem dL_law_405 : decode cL_law 405 = .ok (.iaload, 1) := by decide +kernel
theorem dL_law_406 : decode cL_law 406 = .ok (.invokevirtual 61, 3) := by decide +kernel
theorem dL_law_409 : decode cL_law 409 = .ok (.aload_n 2, 1) := by decide +kernel
theorem dL_law_410 : decode cL_law 410 = .ok (.aload_n 0, 1) := by decide +kernel
theorem dL_law_411 : decode cL_law 411 = .ok (.iload_n 3, 1) := by decide +kernel
theorem dL_law_412 : decode cL_law 412 = .ok (.iconst 1, 1) := by decide +kernel
theorem dL_law_413 : decode cL_law 413 = .ok (.iadd, 1) := by decide +kernel
theorem dL_law_414 : decode cL_law 414 = .ok (.iaload, 1) := by decide +kernel
theorem dL_law_415 : decode cL_law 415 = .ok (.aload_n 0, 1) := by decide +kernel
theorem dL_law_416 : decode cL_law 416 = .ok (.iload_n 3, 1) := by decide +kernel
theorem dL_law_417 : decode cL_law 417 = .ok (.iconst 2, 1) := by decide +kernel
theorem dL_law_418 : decode cL_law 418 = .ok (.iadd, 1) := by decide +kernel
theorem dL_law_419 : decode cL_law 419 = .ok (.iaload, 1) := by decide +kernel
theorem dL_law_420 : decode cL_law 420 = .ok (.invokevirtual 64, 3) := by decide +kernel
theorem dL_law_423 : decode cL_law 423 = .ok (.if_icmp .eq 242, 3) := by decide +kernel
theorem dL_law_426 : decode cL_law 426 = .ok (.iconst 0, 1) := by decide +kernel
theorem dL_law_427 : decode cL_law 427 = .ok (.ireturn, 1) := by decide +kernel
theorem dL_law_428 : decode cL_law 428 = .ok (.aload_n 1, 1) := by decide +kernel
theorem dL_law_429 : decode cL_law 429 = .ok (.aload_n 0, 1) := by decide +kernel
theorem dL_law_430 : decode cL_law 430 = .ok (.iload_n 3, 1) := by decide +kernel
theorem dL_law_431 : decode cL_law 431 = .ok (.iconst 1, 1) := by decide +kernel
theorem dL_law_432 : decode cL_law 432 = .ok (.iadd, 1) := by decide +kernel
theorem dL_law_433 : decode cL_law 433 = .ok (.iaload, 1) := by decide +kernel
theorem dL_law_434 : decode cL_law 434 = .ok (.aload_n 0, 1) := by decide +kernel
theorem dL_law_435 : decode cL_law 435 = .ok (.iload_n 3, 1) := by decide +kernel
theorem dL_law_436 : decode cL_law 436 = .ok (.iconst 2, 1) := by decide +kernel
theorem dL_law_437 : decode cL_law 437 = .ok (.iadd, 1) := by decide +kernel
theorem dL_law_438 : decode cL_law 438 = .ok (.iaload, 1) := by decide +kernel
theorem dL_law_439 : decode cL_law 439 = .ok (.aload_n 0, 1) := by decide +kernel
theorem dL_law_440 : decode cL_law 440 = .ok (.iload_n 3, 1) := by decide +kernel
theorem dL_law_441 : decode cL_law 441 = .ok (.iconst 3, 1) := by decide +kernel
theorem dL_law_442 : decode cL_law 442 = .ok (.iadd, 1) := by decide +kernel
theorem dL_law_443 : decode cL_law 443 = .ok (.iaload, 1) := by decide +kernel
theorem dL_law_444 : decode cL_law 444 = .ok (.invokevirtual 65, 3) := by decide +kernel
theorem dL_law_447 : decode cL_law 447 = .ok (.aload_n 2, 1) := by decide +kernel
theorem dL_law_448 : decode cL_law 448 = .ok (.aload_n 0, 1) := by decide +kernel
theorem dL_law_449 : decode cL_law 449 = .ok (.iload_n 3, 1) := by decide +kernel
theorem dL_law_450 : decode cL_law 450 = .ok (.iconst 1, 1) := by decide +kernel
theorem dL_law_451 : decode cL_law 451 = .ok (.iadd, 1) := by decide +kernel
theorem dL_law_452 : decode cL_law 452 = .ok (.iaload, 1) := by decide +kernel
theorem dL_law_453 : decode cL_law 453 = .ok (.aload_n 0, 1) := by decide +kernel
theorem dL_law_454 : decode cL_law 454 = .ok (.iload_n 3, 1) := by decide +kernel
theorem dL_law_455 : decode cL_law 455 = .ok (.iconst 2, 1) := by decide +kernel
theorem dL_law_456 : decode cL_law 456 = .ok (.iadd, 1) := by decide +kernel
theorem dL_law_457 : decode cL_law 457 = .ok (.iaload, 1) := by decide +kernel
theorem dL_law_458 : decode cL_law 458 = .ok (.aload_n 0, 1) := by decide +kernel
theorem dL_law_459 : decode cL_law 459 = .ok (.iload_n 3, 1) := by decide +kernel
theorem dL_law_460 : decode cL_law 460 = .ok (.iconst 3, 1) := by decide +kernel
theorem dL_law_461 : decode cL_law 461 = .ok (.iadd, 1) := by decide +kernel
theorem dL_law_462 : decode cL_law 462 = .ok (.iaload, 1) := by decide +kernel
theorem dL_law_463 : decode cL_law 463 = .ok (.invokevirtual 68, 3) := by decide +kernel
theorem dL_law_466 : decode cL_law 466 = .ok (.if_icmp .eq 199, 3) := by decide +kernel
theorem dL_law_469 : decode cL_law 469 = .ok (.iconst 0, 1) := by decide +kernel
theorem dL_law_470 : decode cL_law 470 = .ok (.ireturn, 1) := by decide +kernel
theorem dL_law_471 : decode cL_law 471 = .ok (.aload_n 1, 1) := by decide +kernel
theorem dL_law_472 : decode cL_law 472 = .ok (.aload_n 0, 1) := by decide +kernel
theorem dL_law_473 : decode cL_law 473 = .ok (.iload_n 3, 1) := by decide +kernel
theorem dL_law_474 : decode cL_law 474 = .ok (.iconst 1, 1) := by decide +kernel
theorem dL_law_475 : decode cL_law 475 = .ok (.iadd, 1) := by decide +kernel
theorem dL_law_476 : decode cL_law 476 = .ok (.iaload, 1) := by decide +kernel
theorem dL_law_477 : decode cL_law 477 = .ok (.aload_n 0, 1) := by decide +kernel
theorem dL_law_478 : decode cL_law 478 = .ok (.iload_n 3, 1) := by decide +kernel
theorem dL_law_479 : decode cL_law 479 = .ok (.iconst 2, 1) := by decide +kernel
theorem dL_law_480 : decode cL_law 480 = .ok (.iadd, 1) := by decide +kernel
theorem dL_law_481 : decode cL_law 481 = .ok (.iaload, 1) := by decide +kernel
theorem dL_law_482 : decode cL_law 482 = .ok (.aload_n 0, 1) := by decide +kernel
theorem dL_law_483 : decode cL_law 483 = .ok (.iload_n 3, 1) := by decide +kernel
theorem dL_law_484 : decode cL_law 484 = .ok (.iconst 3, 1) := by decide +kernel
theorem dL_law_485 : decode cL_law 485 = .ok (.iadd, 1) := by decide +kernel
theorem dL_law_486 : decode cL_law 486 = .ok (.iaload, 1) := by decide +kernel
theorem dL_law_487 : decode cL_law 487 = .ok (.invokevirtual 69, 3) := by decide +kernel
theorem dL_law_490 : decode cL_law 490 = .ok (.aload_n 2, 1) := by decide +kernel
theorem dL_law_491 : decode cL_law 491 = .ok (.aload_n 0, 1) := by decide +kernel
theorem dL_law_492 : decode cL_law 492 = .ok (.iload_n 3, 1) := by decide +kernel
theorem dL_law_493 : decode cL_law 493 = .ok (.iconst 1, 1) := by decide +kernel
theorem dL_law_494 : decode cL_law 494 = .ok (.iadd, 1) := by decide +kernel
theorem dL_law_495 : decode cL_law 495 = .ok (.iaload, 1) := by decide +kernel
theorem dL_law_496 : decode cL_law 496 = .ok (.aload_n 0, 1) := by decide +kernel
theorem dL_law_497 : decode cL_law 497 = .ok (.iload_n 3, 1) := by decide +kernel
theorem dL_law_498 : decode cL_law 498 = .ok (.iconst 2, 1) := by decide +kernel
theorem dL_law_499 : decode cL_law 499 = .ok (.iadd, 1) := by decide +kernel
theorem dL_law_500 : decode cL_law 500 = .ok (.iaload, 1) := by decide +kernel
theorem dL_law_501 : decode cL_law 501 = .ok (.aload_n 0, 1) := by decide +kernel
theorem dL_law_502 : decode cL_law 502 = .ok (.iload_n 3, 1) := by decide +kernel
theorem dL_law_503 : decode cL_law 503 = .ok (.iconst 3, 1) := by decide +kernel
theorem dL_law_504 : decode cL_law 504 = .ok (.iadd, 1) := by decide +kernel
theorem dL_law_505 : decode cL_law 505 = .ok (.iaload, 1) := by decide +kernel
theorem dL_law_506 : decode cL_law 506 = .ok (.invokevirtual 72, 3) := by decide +kernel
theorem dL_law_509 : decode cL_law 509 = .ok (.if_icmp .eq 156, 3) := by decide +kernel
theorem dL_law_512 : decode cL_law 512 = .ok (.iconst 0, 1) := by decide +kernel
theorem dL_law_513 : decode cL_law 513 = .ok (.ireturn, 1) := by decide +kernel
theorem dL_law_514 : decode cL_law 514 = .ok (.aload_n 1, 1) := by decide +kernel
theorem dL_law_515 : decode cL_law 515 = .ok (.aload_n 0, 1) := by decide +kernel
theorem dL_law_516 : decode cL_law 516 = .ok (.iload_n 3, 1) := by decide +kernel
theorem dL_law_517 : decode cL_law 517 = .ok (.iconst 1, 1) := by decide +kernel
theorem dL_law_518 : decode cL_law 518 = .ok (.iadd, 1) := by decide +kernel
theorem dL_law_519 : decode cL_law 519 = .ok (.iaload, 1) := by decide +kernel
theorem dL_law_520 : decode cL_law 520 = .ok (.aload_n 0, 1) := by decide +kernel
theorem dL_law_521 : decode cL_law 521 = .ok (.iload_n 3, 1) := by decide +kernel
theorem dL_law_522 : decode cL_law 522 = .ok (.iconst 2, 1) := by decide +kernel
theorem dL_law_523 : decode cL_law 523 = .ok (.iadd, 1) := by decide +kernel
theorem dL_law_524 : decode cL_law 524 = .ok (.iaload, 1) := by decide +kernel
theorem dL_law_525 : decode cL_law 525 = .ok (.invokevirtual 73, 3) := by decide +kernel
theorem dL_law_528 : decode cL_law 528 = .ok (.aload_n 2, 1) := by decide +kernel
theorem dL_law_529 : decode cL_law 529 = .ok (.aload_n 0, 1) := by decide +kernel
theorem dL_law_530 : decode cL_law 530 = .ok (.iload_n 3, 1) := by decide +kernel
theorem dL_law_531 : decode cL_law 531 = .ok (.iconst 1, 1) := by decide +kernel
theorem dL_law_532 : decode cL_law 532 = .ok (.iadd, 1) := by decide +kernel
theorem dL_law_533 : decode cL_law 533 = .ok (.iaload, 1) := by decide +kernel
theorem dL_law_534 : decode cL_law 534 = .ok (.aload_n 0, 1) := by decide +kernel
theorem dL_law_535 : decode cL_law 535 = .ok (.iload_n 3, 1) := by decide +kernel
theorem dL_law_536 : decode cL_law 536 = .ok (.iconst 2, 1) := by decide +kernel
theorem dL_law_537 : decode cL_law 537 = .ok (.iadd, 1) := by decide +kernel
theorem dL_law_538 : decode cL_law 538 = .ok (.iaload, 1) := by decide +kernel
theorem dL_law_539 : decode cL_law 539 = .ok (.invokevirtual 76, 3) := by decide +kernel
theorem dL_law_542 : decode cL_law 542 = .ok (.if_icmp .eq 123, 3) := by decide +kernel
theorem dL_law_545 : decode cL_law 545 = .ok (.iconst 0, 1) := by decide +kernel
theorem dL_law_546 : decode cL_law 546 = .ok (.ireturn, 1) := by decide +kernel
theorem dL_law_547 : decode cL_law 547 = .ok (.aload_n 1, 1) := by decide +kernel
theorem dL_law_548 : decode cL_law 548 = .ok (.invokevirtual 77, 3) := by decide +kernel
theorem dL_law_551 : decode cL_law 551 = .ok (.aload_n 2, 1) := by decide +kernel
theorem dL_law_552 : decode cL_law 552 = .ok (.invokevirtual 80, 3) := by decide +kernel
theorem dL_law_555 : decode cL_law 555 = .ok (.if_icmp .eq 110, 3) := by decide +kernel
theorem dL_law_558 : decode cL_law 558 = .ok (.iconst 0, 1) := by decide +kernel
theorem dL_law_559 : decode cL_law 559 = .ok (.ireturn, 1) := by decide +kernel
theorem dL_law_560 : decode cL_law 560 = .ok (.aload_n 1, 1) := by decide +kernel
theorem dL_law_561 : decode cL_law 561 = .ok (.aload_n 0, 1) := by decide +kernel
theorem dL_law_562 : decode cL_law 562 = .ok (.iload_n 3, 1) := by decide +kernel
theorem dL_law_563 : decode cL_law 563 = .ok (.iconst 1, 1) := by decide +kernel
theorem dL_law_564 : decode cL_law 564 = .ok (.iadd, 1) := by decide +kernel
theorem dL_law_565 : decode cL_law 565 = .ok (.iaload, 1) := by decide +kernel
theorem dL_law_566 : decode cL_law 566 = .ok (.invokevirtual 81, 3) := by decide +kernel
theorem dL_law_569 : decode cL_law 569 = .ok (.aload_n 2, 1) := by decide +kernel
theorem dL_law_570 : decode cL_law 570 = .ok (.aload_n 0, 1) := by decide +kernel
theorem dL_law_571 : decode cL_law 571 = .ok (.iload_n 3, 1) := by decide +kernel
theorem dL_law_572 : decode cL_law 572 = .ok (.iconst 1, 1) := by decide +kernel
theorem dL_law_573 : decode cL_law 573 = .ok (.iadd, 1) := by decide +kernel
theorem dL_law_574 : decode cL_law 574 = .ok (.iaload, 1) := by decide +kernel
theorem dL_law_575 : decode cL_law 575 = .ok (.invokevirtual 84, 3) := by decide +kernel
theorem dL_law_578 : decode cL_law 578 = .ok (.if_icmp .eq 87, 3) := by decide +kernel
theorem dL_law_581 : decode cL_law 581 = .ok (.iconst 0, 1) := by decide +kernel
theorem dL_law_582 : decode cL_law 582 = .ok (.ireturn, 1) := by decide +kernel
theorem dL_law_583 : decode cL_law 583 = .ok (.aload_n 1, 1) := by decide +kernel
theorem dL_law_584 : decode cL_law 584 = .ok (.invokevirtual 85, 3) := by decide +kernel
theorem dL_law_587 : decode cL_law 587 = .ok (.aload_n 2, 1) := by decide +kernel
theorem dL_law_588 : decode cL_law 588 = .ok (.invokevirtual 88, 3) := by decide +kernel
theorem dL_law_591 : decode cL_law 591 = .ok (.if_icmp .eq 74, 3) := by decide +kernel
theorem dL_law_594 : decode cL_law 594 = .ok (.iconst 0, 1) := by decide +kernel
theorem dL_law_595 : decode cL_law 595 = .ok (.ireturn, 1) := by decide +kernel
theorem dL_law_596 : decode cL_law 596 = .ok (.aload_n 1, 1) := by decide +kernel
theorem dL_law_597 : decode cL_law 597 = .ok (.aload_n 0, 1) := by decide +kernel
theorem dL_law_598 : decode cL_law 598 = .ok (.iload_n 3, 1) := by decide +kernel
theorem dL_law_599 : decode cL_law 599 = .ok (.iconst 1, 1) := by decide +kernel
theorem dL_law_600 : decode cL_law 600 = .ok (.iadd, 1) := by decide +kernel
theorem dL_law_601 : decode cL_law 601 = .ok (.iaload, 1) := by decide +kernel
theorem dL_law_602 : decode cL_law 602 = .ok (.invokevirtual 89, 3) := by decide +kernel
theorem dL_law_605 : decode cL_law 605 = .ok (.aload_n 2, 1) := by decide +kernel
theorem dL_law_606 : decode cL_law 606 = .ok (.aload_n 0, 1) := by decide +kernel
theorem dL_law_607 : decode cL_law 607 = .ok (.iload_n 3, 1) := by decide +kernel
theorem dL_law_608 : decode cL_law 608 = .ok (.iconst 1, 1) := by decide +kernel
theorem dL_law_609 : decode cL_law 609 = .ok (.iadd, 1) := by decide +kernel
theorem dL_law_610 : decode cL_law 610 = .ok (.iaload, 1) := by decide +kernel
theorem dL_law_611 : decode cL_law 611 = .ok (.invokevirtual 92, 3) := by decide +kernel
theorem dL_law_614 : decode cL_law 614 = .ok (.if_icmp .eq 51, 3) := by decide +kernel
theorem dL_law_617 : decode cL_law 617 = .ok (.iconst 0, 1) := by decide +kernel
theorem dL_law_618 : decode cL_law 618 = .ok (.ireturn, 1) := by decide +kernel
theorem dL_law_619 : decode cL_law 619 = .ok (.aload_n 1, 1) := by decide +kernel
theorem dL_law_620 : decode cL_law 620 = .ok (.aload_n 0, 1) := by decide +kernel
theorem dL_law_621 : decode cL_law 621 = .ok (.iload_n 3, 1) := by decide +kernel
theorem dL_law_622 : decode cL_law 622 = .ok (.iconst 1, 1) := by decide +kernel
theorem dL_law_623 : decode cL_law 623 = .ok (.iadd, 1) := by decide +kernel
theorem dL_law_624 : decode cL_law 624 = .ok (.iaload, 1) := by decide +kernel
theorem dL_law_625 : decode cL_law 625 = .ok (.invokevirtual 93, 3) := by decide +kernel
theorem dL_law_628 : decode cL_law 628 = .ok (.aload_n 2, 1) := by decide +kernel
theorem dL_law_629 : decode cL_law 629 = .ok (.aload_n 0, 1) := by decide +kernel
theorem dL_law_630 : decode cL_law 630 = .ok (.iload_n 3, 1) := by decide +kernel
theorem dL_law_631 : decode cL_law 631 = .ok (.iconst 1, 1) := by decide +kernel
theorem dL_law_632 : decode cL_law 632 = .ok (.iadd, 1) := by decide +kernel
theorem dL_law_633 : decode cL_law 633 = .ok (.iaload, 1) := by decide +kernel
theorem dL_law_634 : decode cL_law 634 = .ok (.invokevirtual 96, 3) := by decide +kernel
theorem dL_law_637 : decode cL_law 637 = .ok (.if_icmp .eq 28, 3) := by decide +kernel
theorem dL_law_640 : decode cL_law 640 = .ok (.iconst 0, 1) := by decide +kernel
theorem dL_law_641 : decode cL_law 641 = .ok (.ireturn, 1) := by decide +kernel
theorem dL_law_642 : decode cL_law 642 = .ok (.aload_n 1, 1) := by decide +kernel
theorem dL_law_643 : decode cL_law 643 = .ok (.aload_n 0, 1) := by decide +kernel
theorem dL_law_644 : decode cL_law 644 = .ok (.iload_n 3, 1) := by decide +kernel
theorem dL_law_645 : decode cL_law 645 = .ok (.iconst 1, 1) := by decide +kernel
theorem dL_law_646 : decode cL_law 646 = .ok (.iadd, 1) := by decide +kernel
theorem dL_law_647 : decode cL_law 647 = .ok (.iaload, 1) := by decide +kernel
theorem dL_law_648 : decode cL_law 648 = .ok (.invokevirtual 97, 3) := by decide +kernel
theorem dL_law_651 : decode cL_law 651 = .ok (.aload_n 2, 1) := by decide +kernel
theorem dL_law_652 : decode cL_law 652 = .ok (.aload_n 0, 1) := by decide +kernel
theorem dL_law_653 : decode cL_law 653 = .ok (.iload_n 3, 1) := by decide +kernel
theorem dL_law_654 : decode cL_law 654 = .ok (.iconst 1, 1) := by decide +kernel
theorem dL_law_655 : decode cL_law 655 = .ok (.iadd, 1) := by decide +kernel
theorem dL_law_656 : decode cL_law 656 = .ok (.iaload, 1) := by decide +kernel
theorem dL_law_657 : decode cL_law 657 = .ok (.invokevirtual 100, 3) := by decide +kernel
theorem dL_law_660 : decode cL_law 660 = .ok (.if_icmp .eq 5, 3) := by decide +kernel
theorem dL_law_663 : decode cL_law 663 = .ok (.iconst 0, 1) := by decide +kernel
theorem dL_law_664 : decode cL_law 664 = .ok (.ireturn, 1) := by decide +kernel
theorem dL_law_665 : decode cL_law 665 = .ok (.iinc 3 4, 3) := by decide +kernel
theorem dL_law_668 : decode cL_law 668 = .ok (.goto (-650), 3) := by decide +kernel
theorem dL_law_671 : decode cL_law 671 = .ok (.iconst 1, 1) := by decide +kernel
theorem dL_law_672 : decode cL_law 672 = .ok (.ireturn, 1) := by decide +kernel
end
section
theorem ch_1 : ∀ w ∈ wsL_law_r1, w ∈ wsL_law := fun _ h => List.mem_append_left _ (List.mem_append_left _ (List.mem_append_left _ (List.mem_append_left _ (List.mem_append_left _ (List.mem_append_left _ (List.mem_append_left _ (List.mem_append_left _ (List.mem_append_left _ (List.mem_append_left _ (List.mem_append_left _ (List.mem_append_left _ (List.mem_append_left _ (List.mem_append_left _ h)))))))))))))
theorem ch_2 : ∀ w ∈ wsL_law_r2, w ∈ wsL_law := fun _ h => List.mem_append_left _ (List.mem_append_left _ (List.mem_append_left _ (List.mem_append_left _ (List.mem_append_left _ (List.mem_append_left _ (List.mem_append_left _ (List.mem_append_left _ (List.mem_append_left _ (List.mem_append_left _ (List.mem_append_left _ (List.mem_append_left _ (List.mem_append_left _ (List.mem_append_right _ (List.mem_append_left _ h))))))))))))))
theorem ch_3 : ∀ w ∈ wsL_law_r3, w ∈ wsL_law := fun _ h => List.mem_append_left _ (List.mem_append_left _ (List.mem_append_left _ (List.mem_append_left _ (List.mem_append_left _ (List.mem_append_left _ (List.mem_append_left _ (List.mem_append_left _ (List.mem_append_left _ (List.mem_append_left _ (List.mem_append_left _ (List.mem_append_left _ (List.mem_append_left _ (List.mem_append_right _ (List.mem_append_right _ (List.mem_append_left _ h)))))))))))))))
theorem ch_4 : ∀ w ∈ wsL_law_r4, w ∈ wsL_law := fun _ h => List.mem_append_left _ (List.mem_append_left _ (List.mem_append_left _ (List.mem_append_left _ (List.mem_append_left _ (List.mem_append_left _ (List.mem_append_left _ (List.mem_append_left _ (List.mem_append_left _ (List.mem_append_left _ (List.mem_append_left _ (List.mem_append_left _ (List.mem_append_left _ (List.mem_append_right _ (List.mem_append_right _ (List.mem_append_right _ (List.mem_append_left _ h))))))))))))))))
theorem ch_5 : ∀ w ∈ wsL_law_r5, w ∈ wsL_law := fun _ h => List.mem_append_left _ (List.mem_append_left _ (List.mem_append_left _ (List.mem_append_left _ (List.mem_append_left _ (List.mem_append_left _ (List.mem_append_left _ (List.mem_append_left _ (List.mem_append_left _ (List.mem_append_left _ (List.mem_append_left _ (List.mem_append_left _ (List.mem_append_left _ (List.mem_append_right _ (List.mem_append_right _ (List.mem_append_right _ (List.mem_append_right _ (List.mem_append_left _ h)))))))))))))))))
theorem ch_6 : ∀ w ∈ wsL_law_r6, w ∈ wsL_law := fun _ h => List.mem_append_left _ (List.mem_append_left _ (List.mem_append_left _ (List.mem_append_left _ (List.mem_append_left _ (List.mem_append_left _ (List.mem_append_left _ (List.mem_append_left _ (List.mem_append_left _ (List.mem_append_left _ (List.mem_append_left _ (List.mem_append_left _ (List.mem_append_left _ (List.mem_append_right _ (List.mem_append_right _ (List.mem_append_right _ (List.mem_append_right _ (List.mem_append_right _ (List.mem_append_left _ h))))))))))))))))))
theorem ch_7 : ∀ w ∈ wsL_law_r7, w ∈ wsL_law := fun _ h => List.mem_append_left _ (List.mem_append_left _ (List.mem_append_left _ (List.mem_append_left _ (List.mem_append_left _ (List.mem_append_left _ (List.mem_append_left _ (List.mem_append_left _ (List.mem_append_left _ (List.mem_append_left _ (List.mem_append_left _ (List.mem_append_left _ (List.mem_append_left _ (List.mem_append_right _ (List.mem_append_right _ (List.mem_append_right _ (List.mem_append_right _ (List.mem_append_right _ (List.mem_append_right _ (List.mem_append_left _ h)))))))))))))))))))
theorem ch_8 : ∀ w ∈ wsL_law_r8, w ∈ wsL_law := fun _ h => List.mem_append_left _ (List.mem_append_left _ (List.mem_append_left _ (List.mem_append_left _ (List.mem_append_left _ (List.mem_append_left _ (List.mem_append_left _ (List.mem_append_left _ (List.mem_append_left _ (List.mem_append_left _ (List.mem_append_left _ (List.mem_append_left _ (List.mem_append_left _ (List.mem_append_right _ (List.mem_append_right _ (List.mem_append_right _ (List.mem_append_right _ (List.mem_append_right _ (List.mem_append_right _ (List.mem_append_right _ (List.mem_append_left _ h))))))))))))))))))))
theorem ch_9 : ∀ w ∈ wsL_law_r9, w ∈ wsL_law := fun _ h => List.mem_append_left _ (List.mem_append_left _ (List.mem_append_left _ (List.mem_append_left _ (List.mem_append_left _ (List.mem_append_left _ (List.mem_append_left _ (List.mem_append_left _ (List.mem_append_left _ (List.mem_append_left _ (List.mem_append_left _ (List.mem_append_left _ (List.mem_append_left _ (List.mem_append_right _ (List.mem_append_right _ (List.mem_append_right _ (List.mem_append_right _ (List.mem_append_right _ (List.mem_append_right _ (List.mem_append_right _ (List.mem_append_right _ (List.mem_append_left _ h)))))))))))))))))))))
theorem ch_10 : ∀ w ∈ wsL_law_r10, w ∈ wsL_law := fun _ h => List.mem_append_left _ (List.mem_append_left _ (List.mem_append_left _ (List.mem_append_left _ (List.mem_append_left _ (List.mem_append_left _ (List.mem_append_left _ (List.mem_append_left _ (List.mem_append_left _ (List.mem_append_left _ (List.mem_append_left _ (List.mem_append_left _ (List.mem_append_left _ (List.mem_append_right _ (List.mem_append_right _ (List.mem_append_right _ (List.mem_append_right _ (List.mem_append_right _ (List.mem_append_right _ (List.mem_append_right _ (List.mem_append_right _ (List.mem_append_right _ (List.mem_append_left _ h))))))))))))))))))))))
theorem ch_11 : ∀ w ∈ wsL_law_r11, w ∈ wsL_law := fun _ h => List.mem_append_left _ (List.mem_append_left _ (List.mem_append_left _ (List.mem_append_left _ (List.mem_append_left _ (List.mem_append_left _ (List.mem_append_left _ (List.mem_append_left _ (List.mem_append_left _ (List.mem_append_left _ (List.mem_append_left _ (List.mem_append_left _ (List.mem_append_left _ (List.mem_append_right _ (List.mem_append_right _ (List.mem_append_right _ (List.mem_append_right _ (List.mem_append_right _ (List.mem_append_right _ (List.mem_append_right _ (List.mem_append_right _ (List.mem_append_right _ (List.mem_append_right _ (List.mem_append_left _ h)))))))))))))))))))))))
theorem ch_12 : ∀ w ∈ wsL_law_r12, w ∈ wsL_law := fun _ h => List.mem_append_left _ (List.mem_append_left _ (List.mem_append_left _ (List.mem_append_left _ (List.mem_append_left _ (List.mem_append_left _ (List.mem_append_left _ (List.mem_append_left _ (List.mem_append_left _ (List.mem_append_left _ (List.mem_append_left _ (List.mem_append_left _ (List.mem_append_left _ (List.mem_append_right _ (List.mem_append_right _ (List.mem_append_right _ (List.mem_append_right _ (List.mem_append_right _ (List.mem_append_right _ (List.mem_append_right _ (List.mem_append_right _ (List.mem_append_right _ (List.mem_append_right _ (List.mem_append_right _ (List.mem_append_left _ h))))))))))))))))))))))))
theorem ch_13 : ∀ w ∈ wsL_law_r13, w ∈ wsL_law := fun _ h => List.mem_append_left _ (List.mem_append_left _ (List.mem_append_left _ (List.mem_append_left _ (List.mem_append_left _ (List.mem_append_left _ (List.mem_append_left _ (List.mem_append_left _ (List.mem_append_left _ (List.mem_append_left _ (List.mem_append_left _ (List.mem_append_left _ (List.mem_append_left _ (List.mem_append_right _ (List.mem_append_right _ (List.mem_append_right _ (List.mem_append_right _ (List.mem_append_right _ (List.mem_append_right _ (List.mem_append_right _ (List.mem_append_right _ (List.mem_append_right _ (List.mem_append_right _ (List.mem_append_right _ (List.mem_append_right _ (List.mem_append_left _ h)))))))))))))))))))))))))
theorem ch_14 : ∀ w ∈ wsL_law_r14, w ∈ wsL_law := fun _ h => List.mem_append_left _ (List.mem_append_left _ (List.mem_append_left _ (List.mem_append_left _ (List.mem_append_left _ (List.mem_append_left _ (List.mem_append_left _ (List.mem_append_left _ (List.mem_append_left _ (List.mem_append_left _ (List.mem_append_left _ (List.mem_append_left _ (List.mem_append_left _ (List.mem_append_right _ (List.mem_append_right _ (List.mem_append_right _ (List.mem_append_right _ (List.mem_append_right _ (List.mem_append_right _ (List.mem_append_right _ (List.mem_append_right _ (List.mem_append_right _ (List.mem_append_right _ (List.mem_append_right _ (List.mem_append_right _ (List.mem_append_right _ (List.mem_append_left _ h))))))))))))))))))))))))))
theorem ch_15 : ∀ w ∈ wsL_law_r15, w ∈ wsL_law := fun _ h => List.mem_append_left _ (List.mem_append_left _ (List.mem_append_left _ (List.mem_append_left _ (List.mem_append_left _ (List.mem_append_left _ (List.mem_append_left _ (List.mem_append_left _ (List.mem_append_left _ (List.mem_append_left _ (List.mem_append_left _ (List.mem_append_left _ (List.mem_append_left _ (List.mem_append_right _ (List.mem_append_right _ (List.mem_append_right _ (List.mem_append_right _ (List.mem_append_right _ (List.mem_append_right _ (List.mem_append_right _ (List.mem_append_right _ (List.mem_append_right _ (List.mem_append_right _ (List.mem_append_right _ (List.mem_append_right _ (List.mem_append_right _ (List.mem_append_right _ (List.mem_append_left _ h)))))))))))))))))))))))))))
theorem ch_16 : ∀ w ∈ wsL_law_r16, w ∈ wsL_law := fun _ h => List.mem_append_left _ (List.mem_append_left _ (List.mem_append_left _ (List.mem_append_left _ (List.mem_append_left _ (List.mem_append_left _ (List.mem_append_left _ (List.mem_append_left _ (List.mem_append_left _ (List.mem_append_left _ (List.mem_append_left _ (List.mem_append_left _ (List.mem_append_left _ (List.mem_append_right _ (List.mem_append_right _ (List.mem_append_right _ (List.mem_append_right _ (List.mem_append_right _ (List.mem_append_right _ (List.mem_append_right _ (List.mem_append_right _ (List.mem_append_right _ (List.mem_append_right _ (List.mem_append_right _ (List.mem_append_right _ (List.mem_append_right _ (List.mem_append_right _ (List.mem_append_right _ (List.mem_append_left _ h))))))))))))))))))))))))))))
theorem ch_17 : ∀ w ∈ wsL_law_r17, w ∈ wsL_law := fun _ h => List.mem_append_left _ (List.mem_append_left _ (List.mem_append_left _ (List.mem_append_left _ (List.mem_append_left _ (List.mem_append_left _ (List.mem_append_left _ (List.mem_append_left _ (List.mem_append_left _ (List.mem_append_left _ (List.mem_append_left _ (List.mem_append_left _ (List.mem_append_left _ (List.mem_append_right _ (List.mem_append_right _ (List.mem_append_right _ (List.mem_append_right _ (List.mem_append_right _ (List.mem_append_right _ (List.mem_append_right _ (List.mem_append_right _ (List.mem_append_right _ (List.mem_append_right _ (List.mem_append_right _ (List.mem_append_right _ (List.mem_append_right _ (List.mem_append_right _ (List.mem_append_right _ (List.mem_append_right _ (List.mem_append_left _ h)))))))))))))))))))))))))))))
theorem ch_18 : ∀ w ∈ wsL_law_r18, w ∈ wsL_law := fun _ h => List.mem_append_left _ (List.mem_append_left _ (List.mem_append_left _ (List.mem_append_left _ (List.mem_append_left _ (List.mem_append_left _ (List.mem_append_left _ (List.mem_append_left _ (List.mem_append_left _ (List.mem_append_left _ (List.mem_append_left _ (List.mem_append_left _ (List.mem_append_left _ (List.mem_append_right _ (List.mem_append_right _ (List.mem_append_right _ (List.mem_append_right _ (List.mem_append_right _ (List.mem_append_right _ (List.mem_append_right _ (List.mem_append_right _ (List.mem_append_right _ (List.mem_append_right _ (List.mem_append_right _ (List.mem_append_right _ (List.mem_append_right _ (List.mem_append_right _ (List.mem_append_right _ (List.mem_append_right _ (List.mem_append_right _ (List.mem_append_left _ h))))))))))))))))))))))))))))))
theorem ch_19 : ∀ w ∈ wsL_law_r19, w ∈ wsL_law := fun _ h => List.mem_append_left _ (List.mem_append_left _ (List.mem_append_left _ (List.mem_append_left _ (List.mem_append_left _ (List.mem_append_left _ (List.mem_append_left _ (List.mem_append_left _ (List.mem_append_left _ (List.mem_append_left _ (List.mem_append_left _ (List.mem_append_left _ (List.mem_append_left _ (List.mem_append_right _ (List.mem_append_right _ (List.mem_append_right _ (List.mem_append_right _ (List.mem_append_right _ (List.mem_append_right _ (List.mem_append_right _ (List.mem_append_right _ (List.mem_append_right _ (List.mem_append_right _ (List.mem_append_right _ (List.mem_append_right _ (List.mem_append_right _ (List.mem_append_right _ (List.mem_append_right _ (List.mem_append_right _ (List.mem_append_right _ (List.mem_append_right _ (List.mem_append_left _ h)))))))))))))))))))))))))))))))
theorem ch_20 : ∀ w ∈ wsL_law_r20, w ∈ wsL_law := fun _ h => List.mem_append_left _ (List.mem_append_left _ (List.mem_append_left _ (List.mem_append_left _ (List.mem_append_left _ (List.mem_append_left _ (List.mem_append_left _ (List.mem_append_left _ (List.mem_append_left _ (List.mem_append_left _ (List.mem_append_left _ (List.mem_append_left _ (List.mem_append_left _ (List.mem_append_right _ (List.mem_append_right _ (List.mem_append_right _ (List.mem_append_right _ (List.mem_append_right _ (List.mem_append_right _ (List.mem_append_right _ (List.mem_append_right _ (List.mem_append_right _ (List.mem_append_right _ (List.mem_append_right _ (List.mem_append_right _ (List.mem_append_right _ (List.mem_append_right _ (List.mem_append_right _ (List.mem_append_right _ (List.mem_append_right _ (List.mem_append_right _ (List.mem_append_right _ (List.mem_append_left _ h))))))))))))))))))))))))))))))))
theorem ch_21 : ∀ w ∈ wsL_law_r21, w ∈ wsL_law := fun _ h => List.mem_append_left _ (List.mem_append_left _ (List.mem_append_left _ (List.mem_append_left _ (List.mem_append_left _ (List.mem_append_left _ (List.mem_append_left _ (List.mem_append_left _ (List.mem_append_left _ (List.mem_append_left _ (List.mem_append_left _ (List.mem_append_left _ (List.mem_append_left _ (List.mem_append_right _ (List.mem_append_right _ (List.mem_append_right _ (List.mem_append_right _ (List.mem_append_right _ (List.mem_append_right _ (List.mem_append_right _ (List.mem_append_right _ (List.mem_append_right _ (List.mem_append_right _ (List.mem_append_right _ (List.mem_append_right _ (List.mem_append_right _ (List.mem_append_right _ (List.mem_append_right _ (List.mem_append_right _ (List.mem_append_right _ (List.mem_append_right _ (List.mem_append_right _ (List.mem_append_right _ (List.mem_append_left _ h)))))))))))))))))))))))))))))))))
theorem ch_22 : ∀ w ∈ wsL_law_r22, w ∈ wsL_law := fun _ h => List.mem_append_left _ (List.mem_append_left _ (List.mem_append_left _ (List.mem_append_left _ (List.mem_append_left _ (List.mem_append_left _ (List.mem_append_left _ (List.mem_append_left _ (List.mem_append_left _ (List.mem_append_left _ (List.mem_append_left _ (List.mem_append_left _ (List.mem_append_left _ (List.mem_append_right _ (List.mem_append_right _ (List.mem_append_right _ (List.mem_append_right _ (List.mem_append_right _ (List.mem_append_right _ (List.mem_append_right _ (List.mem_append_right _ (List.mem_append_right _ (List.mem_append_right _ (List.mem_append_right _ (List.mem_append_right _ (List.mem_append_right _ (List.mem_append_right _ (List.mem_append_right _ (List.mem_append_right _ (List.mem_append_right _ (List.mem_append_right _ (List.mem_append_right _ (List.mem_append_right _ (List.mem_append_right _ (List.mem_append_left _ h))))))))))))))))))))))))))))))))))
theorem ch_23 : ∀ w ∈ wsL_law_r23, w ∈ wsL_law := fun _ h => List.mem_append_left _ (List.mem_append_left _ (List.mem_append_left _ (List.mem_append_left _ (List.mem_append_left _ (List.mem_append_left _ (List.mem_append_left _ (List.mem_append_left _ (List.mem_append_left _ (List.mem_append_left _ (List.mem_append_left _ (List.mem_append_left _ (List.mem_append_left _ (List.mem_append_right _ (List.mem_append_right _ (List.mem_append_right _ (List.mem_append_right _ (List.mem_append_right _ (List.mem_append_right _ (List.mem_append_right _ (List.mem_append_right _ (List.mem_append_right _ (List.mem_append_right _ (List.mem_append_right _ (List.mem_append_right _ (List.mem_append_right _ (List.mem_append_right _ (List.mem_append_right _ (List.mem_append_right _ (List.mem_append_right _ (List.mem_append_right _ (List.mem_append_right _ (List.mem_append_right _ (List.mem_append_right _ (List.mem_append_right _ (List.mem_append_left _ h)))))))))))))))))))))))))))))))))))
theorem ch_24 : ∀ w ∈ wsL_law_r24, w ∈ wsL_law := fun _ h => List.mem_append_left _ (List.mem_append_left _ (List.mem_append_left _ (List.mem_append_left _ (List.mem_append_left _ (List.mem_append_left _ (List.mem_append_left _ (List.mem_append_left _ (List.mem_append_left _ (List.mem_append_left _ (List.mem_append_left _ (List.mem_append_left _ (List.mem_append_left _ (List.mem_append_right _ (List.mem_append_right _ (List.mem_append_right _ (List.mem_append_right _ (List.mem_append_right _ (List.mem_append_right _ (List.mem_append_right _ (List.mem_append_right _ (List.mem_append_right _ (List.mem_append_right _ (List.mem_append_right _ (List.mem_append_right _ (List.mem_append_right _ (List.mem_append_right _ (List.mem_append_right _ (List.mem_append_right _ (List.mem_append_right _ (List.mem_append_right _ (List.mem_append_right _ (List.mem_append_right _ (List.mem_append_right _ (List.mem_append_right _ (List.mem_append_right _ (List.mem_append_left _ h))))))))))))))))))))))))))))))))))))
theorem ch_25 : ∀ w ∈ wsL_law_r25, w ∈ wsL_law := fun _ h => List.mem_append_left _ (List.mem_append_left _ (List.mem_append_left _ (List.mem_append_left _ (List.mem_append_left _ (List.mem_append_left _ (List.mem_append_left _ (List.mem_append_left _ (List.mem_append_left _ (List.mem_append_left _ (List.mem_append_left _ (List.mem_append_left _ (List.mem_append_left _ (List.mem_append_right _ (List.mem_append_right _ (List.mem_append_right _ (List.mem_append_right _ (List.mem_append_right _ (List.mem_append_right _ (List.mem_append_right _ (List.mem_append_right _ (List.mem_append_right _ (List.mem_append_right _ (List.mem_append_right _ (List.mem_append_right _ (List.mem_append_right _ (List.mem_append_right _ (List.mem_append_right _ (List.mem_append_right _ (List.mem_append_right _ (List.mem_append_right _ (List.mem_append_right _ (List.mem_append_right _ (List.mem_append_right _ (List.mem_append_right _ (List.mem_append_right _ (List.mem_append_right _ (List.mem_append_left _ h)))))))))))))))))))))))))))))))))))))
theorem ch_26 : ∀ w ∈ wsL_law_r26, w ∈ wsL_law := fun _ h => List.mem_append_left _ (List.mem_append_left _ (List.mem_append_left _ (List.mem_append_left _ (List.mem_append_left _ (List.mem_append_left _ (List.mem_append_left _ (List.mem_append_left _ (List.mem_append_left _ (List.mem_append_left _ (List.mem_append_left _ (List.mem_append_left _ (List.mem_append_left _ (List.mem_append_right _ (List.mem_append_right _ (List.mem_append_right _ (List.mem_append_right _ (List.mem_append_right _ (List.mem_append_right _ (List.mem_append_right _ (List.mem_append_right _ (List.mem_append_right _ (List.mem_append_right _ (List.mem_append_right _ (List.mem_append_right _ (List.mem_append_right _ (List.mem_append_right _ (List.mem_append_right _ (List.mem_append_right _ (List.mem_append_right _ (List.mem_append_right _ (List.mem_append_right _ (List.mem_append_right _ (List.mem_append_right _ (List.mem_append_right _ (List.mem_append_right _ (List.mem_append_right _ (List.mem_append_right _ (List.mem_append_left _ h))))))))))))))))))))))))))))))))))))))
theorem ch_27 : ∀ w ∈ wsL_law_r27, w ∈ wsL_law := fun _ h => List.mem_append_left _ (List.mem_append_left _ (List.mem_append_left _ (List.mem_append_left _ (List.mem_append_left _ (List.mem_append_left _ (List.mem_append_left _ (List.mem_append_left _ (List.mem_append_left _ (List.mem_append_left _ (List.mem_append_left _ (List.mem_append_left _ (List.mem_append_left _ (List.mem_append_right _ (List.mem_append_right _ (List.mem_append_right _ (List.mem_append_right _ (List.mem_append_right _ (List.mem_append_right _ (List.mem_append_right _ (List.mem_append_right _ (List.mem_append_right _ (List.mem_append_right _ (List.mem_append_right _ (List.mem_append_right _ (List.mem_append_right _ (List.mem_append_right _ (List.mem_append_right _ (List.mem_append_right _ (List.mem_append_right _ (List.mem_append_right _ (List.mem_append_right _ (List.mem_append_right _ (List.mem_append_right _ (List.mem_append_right _ (List.mem_append_right _ (List.mem_append_right _ (List.mem_append_right _ (List.mem_append_right _ (List.mem_append_left _ h)))))))))))))))))))))))))))))))))))))))
theorem ch_28 : ∀ w ∈ wsL_law_r28, w ∈ wsL_law := fun _ h => List.mem_append_left _ (List.mem_append_left _ (List.mem_append_left _ (List.mem_append_left _ (List.mem_append_left _ (List.mem_append_left _ (List.mem_append_left _ (List.mem_append_left _ (List.mem_append_left _ (List.mem_append_left _ (List.mem_append_left _ (List.mem_append_left _ (List.mem_append_left _ (List.mem_append_right _ (List.mem_append_right _ (List.mem_append_right _ (List.mem_append_right _ (List.mem_append_right _ (List.mem_append_right _ (List.mem_append_right _ (List.mem_append_right _ (List.mem_append_right _ (List.mem_append_right _ (List.mem_append_right _ (List.mem_append_right _ (List.mem_append_right _ (List.mem_append_right _ (List.mem_append_right _ (List.mem_append_right _ (List.mem_append_right _ (List.mem_append_right _ (List.mem_append_right _ (List.mem_append_right _ (List.mem_append_right _ (List.mem_append_right _ (List.mem_append_right _ (List.mem_append_right _ (List.mem_append_right _ (List.mem_append_right _ (List.mem_append_right _ (List.mem_append_left _ h))))))))))))))))))))))))))))))))))))))))
theorem ch_29 : ∀ w ∈ wsL_law_r29, w ∈ wsL_law := fun _ h => List.mem_append_left _ (List.mem_append_left _ (List.mem_append_left _ (List.mem_append_left _ (List.mem_append_left _ (List.mem_append_left _ (List.mem_append_left _ (List.mem_append_left _ (List.mem_append_left _ (List.mem_append_left _ (List.mem_append_left _ (List.mem_append_left _ (List.mem_append_left _ (List.mem_append_right _ (List.mem_append_right _ (List.mem_append_right _ (List.mem_append_right _ (List.mem_append_right _ (List.mem_append_right _ (List.mem_append_right _ (List.mem_append_right _ (List.mem_append_right _ (List.mem_append_right _ (List.mem_append_right _ (List.mem_append_right _ (List.mem_append_right _ (List.mem_append_right _ (List.mem_append_right _ (List.mem_append_right _ (List.mem_append_right _ (List.mem_append_right _ (List.mem_append_right _ (List.mem_append_right _ (List.mem_append_right _ (List.mem_append_right _ (List.mem_append_right _ (List.mem_append_right _ (List.mem_append_right _ (List.mem_append_right _ (List.mem_append_right _ (List.mem_append_right _ (List.mem_append_left _ h)))))))))))))))))))))))))))))))))))))))))
theorem ch_30 : ∀ w ∈ wsL_law_r30, w ∈ wsL_law := fun _ h => List.mem_append_left _ (List.mem_append_left _ (List.mem_append_left _ (List.mem_append_left _ (List.mem_append_left _ (List.mem_append_left _ (List.mem_append_left _ (List.mem_append_left _ (List.mem_append_left _ (List.mem_append_left _ (List.mem_append_left _ (List.mem_append_left _ (List.mem_append_left _ (List.mem_append_right _ (List.mem_append_right _ (List.mem_append_right _ (List.mem_append_right _ (List.mem_append_right _ (List.mem_append_right _ (List.mem_append_right _ (List.mem_append_right _ (List.mem_append_right _ (List.mem_append_right _ (List.mem_append_right _ (List.mem_append_right _ (List.mem_append_right _ (List.mem_append_right _ (List.mem_append_right _ (List.mem_append_right _ (List.mem_append_right _ (List.mem_append_right _ (List.mem_append_right _ (List.mem_append_right _ (List.mem_append_right _ (List.mem_append_right _ (List.mem_append_right _ (List.mem_append_right _ (List.mem_append_right _ (List.mem_append_right _ (List.mem_append_right _ (List.mem_append_right _ (List.mem_append_right _ (List.mem_append_left _ h))))))))))))))))))))))))))))))))))))))))))
theorem ch_31 : ∀ w ∈ wsL_law_r31, w ∈ wsL_law := fun _ h => List.mem_append_left _ (List.mem_append_left _ (List.mem_append_left _ (List.mem_append_left _ (List.mem_append_left _ (List.mem_append_left _ (List.mem_append_left _ (List.mem_append_left _ (List.mem_append_left _ (List.mem_append_left _ (List.mem_append_left _ (List.mem_append_left _ (List.mem_append_left _ (List.mem_append_right _ (List.mem_append_right _ (List.mem_append_right _ (List.mem_append_right _ (List.mem_append_right _ (List.mem_append_right _ (List.mem_append_right _ (List.mem_append_right _ (List.mem_append_right _ (List.mem_append_right _ (List.mem_append_right _ (List.mem_append_right _ (List.mem_append_right _ (List.mem_append_right _ (List.mem_append_right _ (List.mem_append_right _ (List.mem_append_right _ (List.mem_append_right _ (List.mem_append_right _ (List.mem_append_right _ (List.mem_append_right _ (List.mem_append_right _ (List.mem_append_right _ (List.mem_append_right _ (List.mem_append_right _ (List.mem_append_right _ (List.mem_append_right _ (List.mem_append_right _ (List.mem_append_right _ (List.mem_append_right _ (List.mem_append_left _ h)))))))))))))))))))))))))))))))))))))))))))
theorem ch_32 : ∀ w ∈ wsL_law_r32, w ∈ wsL_law := fun _ h => List.mem_append_left _ (List.mem_append_left _ (List.mem_append_left _ (List.mem_append_left _ (List.mem_append_left _ (List.mem_append_left _ (List.mem_append_left _ (List.mem_append_left _ (List.mem_append_left _ (List.mem_append_left _ (List.mem_append_left _ (List.mem_append_left _ (List.mem_append_left _ (List.mem_append_right _ (List.mem_append_right _ (List.mem_append_right _ (List.mem_append_right _ (List.mem_append_right _ (List.mem_append_right _ (List.mem_append_right _ (List.mem_append_right _ (List.mem_append_right _ (List.mem_append_right _ (List.mem_append_right _ (List.mem_append_right _ (List.mem_append_right _ (List.mem_append_right _ (List.mem_append_right _ (List.mem_append_right _ (List.mem_append_right _ (List.mem_append_right _ (List.mem_append_right _ (List.mem_append_right _ (List.mem_append_right _ (List.mem_append_right _ (List.mem_append_right _ (List.mem_append_right _ (List.mem_append_right _ (List.mem_append_right _ (List.mem_append_right _ (List.mem_append_right _ (List.mem_append_right _ (List.mem_append_right _ (List.mem_append_right _ (List.mem_append_left _ h))))))))))))))))))))))))))))))))))))))))))))
theorem ch_33 : ∀ w ∈ wsL_law_r33, w ∈ wsL_law := fun _ h => List.mem_append_left _ (List.mem_append_left _ (List.mem_append_left _ (List.mem_append_left _ (List.mem_append_left _ (List.mem_append_left _ (List.mem_append_left _ (List.mem_append_left _ (List.mem_append_left _ (List.mem_append_left _ (List.mem_append_left _ (List.mem_append_left _ (List.mem_append_left _ (List.mem_append_right _ (List.mem_append_right _ (List.mem_append_right _ (List.mem_append_right _ (List.mem_append_right _ (List.mem_append_right _ (List.mem_append_right _ (List.mem_append_right _ (List.mem_append_right _ (List.mem_append_right _ (List.mem_append_right _ (List.mem_append_right _ (List.mem_append_right _ (List.mem_append_right _ (List.mem_append_right _ (List.mem_append_right _ (List.mem_append_right _ (List.mem_append_right _ (List.mem_append_right _ (List.mem_append_right _ (List.mem_append_right _ (List.mem_append_right _ (List.mem_append_right _ (List.mem_append_right _ (List.mem_append_right _ (List.mem_append_right _ (List.mem_append_right _ (List.mem_append_right _ (List.mem_append_right _ (List.mem_append_right _ (List.mem_append_right _ (List.mem_append_right _ (List.mem_append_left _ h)))))))))))))))))))))))))))))))))))))))))))))
theorem ch_34 : ∀ w ∈ wsL_law_r34, w ∈ wsL_law := fun _ h => List.mem_append_left _ (List.mem_append_left _ (List.mem_append_left _ (List.mem_append_left _ (List.mem_append_left _ (List.mem_append_left _ (List.mem_append_left _ (List.mem_append_left _ (List.mem_append_left _ (List.mem_append_left _ (List.mem_append_left _ (List.mem_append_left _ (List.mem_append_left _ (List.mem_append_right _ (List.mem_append_right _ (List.mem_append_right _ (List.mem_append_right _ (List.mem_append_right _ (List.mem_append_right _ (List.mem_append_right _ (List.mem_append_right _ (List.mem_append_right _ (List.mem_append_right _ (List.mem_append_right _ (List.mem_append_right _ (List.mem_append_right _ (List.mem_append_right _ (List.mem_append_right _ (List.mem_append_right _ (List.mem_append_right _ (List.mem_append_right _ (List.mem_append_right _ (List.mem_append_right _ (List.mem_append_right _ (List.mem_append_right _ (List.mem_append_right _ (List.mem_append_right _ (List.mem_append_right _ (List.mem_append_right _ (List.mem_append_right _ (List.mem_append_right _ (List.mem_append_right _ (List.mem_append_right _ (List.mem_append_right _ (List.mem_append_right _ (List.mem_append_right _ (List.mem_append_left _ h))))))))))))))))))))))))))))))))))))))))))))))
theorem ch_35 : ∀ w ∈ wsL_law_r35, w ∈ wsL_law := fun _ h => List.mem_append_left _ (List.mem_append_left _ (List.mem_append_left _ (List.mem_append_left _ (List.mem_append_left _ (List.mem_append_left _ (List.mem_append_left _ (List.mem_append_left _ (List.mem_append_left _ (List.mem_append_left _ (List.mem_append_left _ (List.mem_append_left _ (List.mem_append_left _ (List.mem_append_right _ (List.mem_append_right _ (List.mem_append_right _ (List.mem_append_right _ (List.mem_append_right _ (List.mem_append_right _ (List.mem_append_right _ (List.mem_append_right _ (List.mem_append_right _ (List.mem_append_right _ (List.mem_append_right _ (List.mem_append_right _ (List.mem_append_right _ (List.mem_append_right _ (List.mem_append_right _ (List.mem_append_right _ (List.mem_append_right _ (List.mem_append_right _ (List.mem_append_right _ (List.mem_append_right _ (List.mem_append_right _ (List.mem_append_right _ (List.mem_append_right _ (List.mem_append_right _ (List.mem_append_right _ (List.mem_append_right _ (List.mem_append_right _ (List.mem_append_right _ (List.mem_append_right _ (List.mem_append_right _ (List.mem_append_right _ (List.mem_append_right _ (List.mem_append_right _ (List.mem_append_right _ (h)))))))))))))))))))))))))))))))))))))))))))))))
theorem q_1_0 : Cond.classLink RL 7 RX10 ∈ wsL_law := ch_1 _ (List.mem_of_getElem? (i := 0) rfl)
theorem q_1_1 : Cond.instantiable RX10 10 ∈ wsL_law := ch_1 _ (List.mem_of_getElem? (i := 1) rfl)
theorem q_1_2 : Cond.initialized RX10 ∈ wsL_law := ch_1 _ (List.mem_of_getElem? (i := 2) rfl)
theorem q_1_3 : Cond.classLink RL 10 RX11 ∈ wsL_law := ch_1 _ (List.mem_of_getElem? (i := 3) rfl)
theorem q_1_4 : Cond.instantiable RX11 23 ∈ wsL_law := ch_1 _ (List.mem_of_getElem? (i := 4) rfl)
theorem q_1_5 : Cond.initialized RX11 ∈ wsL_law := ch_1 _ (List.mem_of_getElem? (i := 5) rfl)
theorem q_1_6 : Cond.methodLink RL 9 yX10_init ∈ wsL_law := ch_1 _ (List.mem_of_getElem? (i := 6) rfl)
theorem q_1_7 : Cond.instanceMethod yX10_init ∈ wsL_law := ch_1 _ (List.mem_of_getElem? (i := 7) rfl)
theorem q_1_8 : Cond.code yX10_init cX10_init 1 none ∈ wsL_law := ch_1 _ (List.mem_of_getElem? (i := 8) rfl)
theorem q_1_9 : Cond.methodLink RX10 3 objectInit ∈ wsL_law := ch_1 _ (List.mem_of_getElem? (i := 9) rfl)
theorem q_1_10 : Cond.instanceMethod objectInit ∈ wsL_law := ch_1 _ (List.mem_of_getElem? (i := 10) rfl)
theorem q_1_11 : Cond.code objectInit ⟨#[0xb1]⟩ 1 none ∈ wsL_law := ch_1 _ (List.mem_of_getElem? (i := 11) rfl)
theorem q_1_12 : Cond.classLink RX10 9 RX8 ∈ wsL_law := ch_1 _ (List.mem_of_getElem? (i := 12) rfl)
theorem q_1_13 : Cond.instantiable RX8 2 ∈ wsL_law := ch_1 _ (List.mem_of_getElem? (i := 13) rfl)
theorem q_1_14 : Cond.initialized RX8 ∈ wsL_law := ch_1 _ (List.mem_of_getElem? (i := 14) rfl)
theorem q_1_15 : Cond.fieldLink RX10 12 "ThinReadings" "text" "LThinReadings$Text;" ∈ wsL_law := ch_1 _ (List.mem_of_getElem? (i := 15) rfl)
theorem q_1_16 : Cond.classLink RX10 16 RX4 ∈ wsL_law := ch_1 _ (List.mem_of_getElem? (i := 16) rfl)
theorem q_1_17 : Cond.instantiable RX4 8 ∈ wsL_law := ch_1 _ (List.mem_of_getElem? (i := 17) rfl)
theorem q_1_18 : Cond.initialized RX4 ∈ wsL_law := ch_1 _ (List.mem_of_getElem? (i := 18) rfl)
theorem q_1_19 : Cond.fieldLink RX10 21 "ThinReadings" "parser" "LThinReadings$Parser;" ∈ wsL_law := ch_1 _ (List.mem_of_getElem? (i := 19) rfl)
theorem q_1_20 : Cond.classLink RX10 25 RX3 ∈ wsL_law := ch_1 _ (List.mem_of_getElem? (i := 20) rfl)
theorem q_1_21 : Cond.instantiable RX3 5 ∈ wsL_law := ch_1 _ (List.mem_of_getElem? (i := 21) rfl)
theorem q_1_22 : Cond.initialized RX3 ∈ wsL_law := ch_1 _ (List.mem_of_getElem? (i := 22) rfl)
theorem q_1_23 : Cond.fieldLink RX10 28 "ThinReadings" "log" "LThinReadings$Log;" ∈ wsL_law := ch_1 _ (List.mem_of_getElem? (i := 23) rfl)
theorem q_2_0 : Cond.classLink RX10 32 RX1 ∈ wsL_law := ch_2 _ (List.mem_of_getElem? (i := 0) rfl)
theorem q_2_1 : Cond.instantiable RX1 3 ∈ wsL_law := ch_2 _ (List.mem_of_getElem? (i := 1) rfl)
theorem q_2_2 : Cond.initialized RX1 ∈ wsL_law := ch_2 _ (List.mem_of_getElem? (i := 2) rfl)
theorem q_2_3 : Cond.fieldLink RX10 35 "ThinReadings" "history" "LThinReadings$History;" ∈ wsL_law := ch_2 _ (List.mem_of_getElem? (i := 3) rfl)
theorem q_2_4 : Cond.classLink RX10 39 RX6 ∈ wsL_law := ch_2 _ (List.mem_of_getElem? (i := 4) rfl)
theorem q_2_5 : Cond.instantiable RX6 3 ∈ wsL_law := ch_2 _ (List.mem_of_getElem? (i := 5) rfl)
theorem q_2_6 : Cond.initialized RX6 ∈ wsL_law := ch_2 _ (List.mem_of_getElem? (i := 6) rfl)
theorem q_2_7 : Cond.fieldLink RX10 44 "ThinReadings" "images" "LThinReadings$Shelf;" ∈ wsL_law := ch_2 _ (List.mem_of_getElem? (i := 7) rfl)
theorem q_2_8 : Cond.classLink RX10 48 RX2 ∈ wsL_law := ch_2 _ (List.mem_of_getElem? (i := 8) rfl)
theorem q_2_9 : Cond.instantiable RX2 4 ∈ wsL_law := ch_2 _ (List.mem_of_getElem? (i := 9) rfl)
theorem q_2_10 : Cond.initialized RX2 ∈ wsL_law := ch_2 _ (List.mem_of_getElem? (i := 10) rfl)
theorem q_2_11 : Cond.fieldLink RX10 53 "ThinReadings" "lines" "LThinReadings$Lines;" ∈ wsL_law := ch_2 _ (List.mem_of_getElem? (i := 11) rfl)
theorem q_2_12 : Cond.classLink RX10 57 RX9 ∈ wsL_law := ch_2 _ (List.mem_of_getElem? (i := 12) rfl)
theorem q_2_13 : Cond.instantiable RX9 10 ∈ wsL_law := ch_2 _ (List.mem_of_getElem? (i := 13) rfl)
theorem q_2_14 : Cond.initialized RX9 ∈ wsL_law := ch_2 _ (List.mem_of_getElem? (i := 14) rfl)
theorem q_2_15 : Cond.fieldLink RX10 62 "ThinReadings" "thinning" "LThinReadings$Thinning;" ∈ wsL_law := ch_2 _ (List.mem_of_getElem? (i := 15) rfl)
theorem q_2_16 : Cond.classLink RX10 66 RX5 ∈ wsL_law := ch_2 _ (List.mem_of_getElem? (i := 16) rfl)
theorem q_2_17 : Cond.instantiable RX5 3 ∈ wsL_law := ch_2 _ (List.mem_of_getElem? (i := 17) rfl)
theorem q_2_18 : Cond.initialized RX5 ∈ wsL_law := ch_2 _ (List.mem_of_getElem? (i := 18) rfl)
theorem q_2_19 : Cond.fieldLink RX10 69 "ThinReadings" "seen" "LThinReadings$Seen;" ∈ wsL_law := ch_2 _ (List.mem_of_getElem? (i := 19) rfl)
theorem q_2_20 : Cond.classLink RX10 73 RX7 ∈ wsL_law := ch_2 _ (List.mem_of_getElem? (i := 20) rfl)
theorem q_2_21 : Cond.instantiable RX7 8 ∈ wsL_law := ch_2 _ (List.mem_of_getElem? (i := 21) rfl)
theorem q_2_22 : Cond.initialized RX7 ∈ wsL_law := ch_2 _ (List.mem_of_getElem? (i := 22) rfl)
theorem q_2_23 : Cond.fieldLink RX10 78 "ThinReadings" "survey" "LThinReadings$Survey;" ∈ wsL_law := ch_2 _ (List.mem_of_getElem? (i := 23) rfl)
theorem q_3_0 : Cond.classLink RX10 82 RX0 ∈ wsL_law := ch_3 _ (List.mem_of_getElem? (i := 0) rfl)
theorem q_3_1 : Cond.instantiable RX0 2 ∈ wsL_law := ch_3 _ (List.mem_of_getElem? (i := 1) rfl)
theorem q_3_2 : Cond.initialized RX0 ∈ wsL_law := ch_3 _ (List.mem_of_getElem? (i := 2) rfl)
theorem q_3_3 : Cond.fieldLink RX10 85 "ThinReadings" "fraction" "LThinReadings$Fraction;" ∈ wsL_law := ch_3 _ (List.mem_of_getElem? (i := 3) rfl)
theorem q_3_4 : Cond.methodLink RX10 11 yX8_init ∈ wsL_law := ch_3 _ (List.mem_of_getElem? (i := 4) rfl)
theorem q_3_5 : Cond.instanceMethod yX8_init ∈ wsL_law := ch_3 _ (List.mem_of_getElem? (i := 5) rfl)
theorem q_3_6 : Cond.code yX8_init cX8_init 1 none ∈ wsL_law := ch_3 _ (List.mem_of_getElem? (i := 6) rfl)
theorem q_3_7 : Cond.methodLink RX8 3 objectInit ∈ wsL_law := ch_3 _ (List.mem_of_getElem? (i := 7) rfl)
theorem q_3_8 : Cond.arrayClass .char ∈ wsL_law := ch_3 _ (List.mem_of_getElem? (i := 8) rfl)
theorem q_3_9 : Cond.fieldLink RX8 9 "ThinReadings$Text" "letters" "[C" ∈ wsL_law := ch_3 _ (List.mem_of_getElem? (i := 9) rfl)
theorem q_3_10 : Cond.fieldLink RX8 15 "ThinReadings$Text" "length" "I" ∈ wsL_law := ch_3 _ (List.mem_of_getElem? (i := 10) rfl)
theorem q_3_11 : Cond.methodLink RX10 18 yX4_init ∈ wsL_law := ch_3 _ (List.mem_of_getElem? (i := 11) rfl)
theorem q_3_12 : Cond.instanceMethod yX4_init ∈ wsL_law := ch_3 _ (List.mem_of_getElem? (i := 12) rfl)
theorem q_3_13 : Cond.code yX4_init cX4_init 2 none ∈ wsL_law := ch_3 _ (List.mem_of_getElem? (i := 13) rfl)
theorem q_3_14 : Cond.methodLink RX4 3 objectInit ∈ wsL_law := ch_3 _ (List.mem_of_getElem? (i := 14) rfl)
theorem q_3_15 : Cond.fieldLink RX4 9 "ThinReadings$Parser" "text" "LThinReadings$Text;" ∈ wsL_law := ch_3 _ (List.mem_of_getElem? (i := 15) rfl)
theorem q_3_16 : Cond.classLink RX4 15 RX3 ∈ wsL_law := ch_3 _ (List.mem_of_getElem? (i := 16) rfl)
theorem q_3_17 : Cond.fieldLink RX4 18 "ThinReadings$Parser" "draft" "LThinReadings$Log;" ∈ wsL_law := ch_3 _ (List.mem_of_getElem? (i := 17) rfl)
theorem q_3_18 : Cond.methodLink RX4 17 yX3_init ∈ wsL_law := ch_3 _ (List.mem_of_getElem? (i := 18) rfl)
theorem q_3_19 : Cond.instanceMethod yX3_init ∈ wsL_law := ch_3 _ (List.mem_of_getElem? (i := 19) rfl)
theorem q_3_20 : Cond.code yX3_init cX3_init 1 none ∈ wsL_law := ch_3 _ (List.mem_of_getElem? (i := 20) rfl)
theorem q_3_21 : Cond.methodLink RX3 3 objectInit ∈ wsL_law := ch_3 _ (List.mem_of_getElem? (i := 21) rfl)
theorem q_3_22 : Cond.arrayClass .int ∈ wsL_law := ch_3 _ (List.mem_of_getElem? (i := 22) rfl)
theorem q_3_23 : Cond.fieldLink RX3 9 "ThinReadings$Log" "times" "[I" ∈ wsL_law := ch_3 _ (List.mem_of_getElem? (i := 23) rfl)
theorem q_4_0 : Cond.fieldLink RX3 15 "ThinReadings$Log" "values" "[I" ∈ wsL_law := ch_4 _ (List.mem_of_getElem? (i := 0) rfl)
theorem q_4_1 : Cond.fieldLink RX3 18 "ThinReadings$Log" "size" "I" ∈ wsL_law := ch_4 _ (List.mem_of_getElem? (i := 1) rfl)
theorem q_4_2 : Cond.fieldLink RX3 22 "ThinReadings$Log" "promise" "I" ∈ wsL_law := ch_4 _ (List.mem_of_getElem? (i := 2) rfl)
theorem q_4_3 : Cond.fieldLink RX3 25 "ThinReadings$Log" "delay" "I" ∈ wsL_law := ch_4 _ (List.mem_of_getElem? (i := 3) rfl)
theorem q_4_4 : Cond.methodLink RX10 27 yX3_init ∈ wsL_law := ch_4 _ (List.mem_of_getElem? (i := 4) rfl)
theorem q_4_5 : Cond.methodLink RX10 34 yX1_init ∈ wsL_law := ch_4 _ (List.mem_of_getElem? (i := 5) rfl)
theorem q_4_6 : Cond.instanceMethod yX1_init ∈ wsL_law := ch_4 _ (List.mem_of_getElem? (i := 6) rfl)
theorem q_4_7 : Cond.code yX1_init cX1_init 1 none ∈ wsL_law := ch_4 _ (List.mem_of_getElem? (i := 7) rfl)
theorem q_4_8 : Cond.methodLink RX1 3 objectInit ∈ wsL_law := ch_4 _ (List.mem_of_getElem? (i := 8) rfl)
theorem q_4_9 : Cond.classLink RX1 9 RX6 ∈ wsL_law := ch_4 _ (List.mem_of_getElem? (i := 9) rfl)
theorem q_4_10 : Cond.fieldLink RX1 14 "ThinReadings$History" "ring" "LThinReadings$Shelf;" ∈ wsL_law := ch_4 _ (List.mem_of_getElem? (i := 10) rfl)
theorem q_4_11 : Cond.fieldLink RX1 20 "ThinReadings$History" "next" "I" ∈ wsL_law := ch_4 _ (List.mem_of_getElem? (i := 11) rfl)
theorem q_4_12 : Cond.fieldLink RX1 24 "ThinReadings$History" "size" "I" ∈ wsL_law := ch_4 _ (List.mem_of_getElem? (i := 12) rfl)
theorem q_4_13 : Cond.methodLink RX1 11 yX6_init ∈ wsL_law := ch_4 _ (List.mem_of_getElem? (i := 13) rfl)
theorem q_4_14 : Cond.instanceMethod yX6_init ∈ wsL_law := ch_4 _ (List.mem_of_getElem? (i := 14) rfl)
theorem q_4_15 : Cond.code yX6_init cX6_init 2 none ∈ wsL_law := ch_4 _ (List.mem_of_getElem? (i := 15) rfl)
theorem q_4_16 : Cond.methodLink RX6 5 objectInit ∈ wsL_law := ch_4 _ (List.mem_of_getElem? (i := 16) rfl)
theorem q_4_17 : Cond.fieldLink RX6 11 "ThinReadings$Shelf" "places" "I" ∈ wsL_law := ch_4 _ (List.mem_of_getElem? (i := 17) rfl)
theorem q_4_18 : Cond.fieldLink RX6 15 "ThinReadings$Shelf" "cells" "[I" ∈ wsL_law := ch_4 _ (List.mem_of_getElem? (i := 18) rfl)
theorem q_4_19 : Cond.fieldLink RX6 19 "ThinReadings$Shelf" "filled" "I" ∈ wsL_law := ch_4 _ (List.mem_of_getElem? (i := 19) rfl)
theorem q_4_20 : Cond.methodLink RX10 41 yX6_init ∈ wsL_law := ch_4 _ (List.mem_of_getElem? (i := 20) rfl)
theorem q_4_21 : Cond.methodLink RX10 50 yX2_init ∈ wsL_law := ch_4 _ (List.mem_of_getElem? (i := 21) rfl)
theorem q_4_22 : Cond.instanceMethod yX2_init ∈ wsL_law := ch_4 _ (List.mem_of_getElem? (i := 22) rfl)
theorem q_4_23 : Cond.code yX2_init cX2_init 2 none ∈ wsL_law := ch_4 _ (List.mem_of_getElem? (i := 23) rfl)
theorem q_5_0 : Cond.methodLink RX2 3 objectInit ∈ wsL_law := ch_5 _ (List.mem_of_getElem? (i := 0) rfl)
theorem q_5_1 : Cond.fieldLink RX2 9 "ThinReadings$Lines" "log" "LThinReadings$Log;" ∈ wsL_law := ch_5 _ (List.mem_of_getElem? (i := 1) rfl)
theorem q_5_2 : Cond.fieldLink RX2 15 "ThinReadings$Lines" "stretch" "[I" ∈ wsL_law := ch_5 _ (List.mem_of_getElem? (i := 2) rfl)
theorem q_5_3 : Cond.fieldLink RX2 19 "ThinReadings$Lines" "needs" "[I" ∈ wsL_law := ch_5 _ (List.mem_of_getElem? (i := 3) rfl)
theorem q_5_4 : Cond.fieldLink RX2 22 "ThinReadings$Lines" "stretches" "I" ∈ wsL_law := ch_5 _ (List.mem_of_getElem? (i := 4) rfl)
theorem q_5_5 : Cond.methodLink RX10 59 yX9_init ∈ wsL_law := ch_5 _ (List.mem_of_getElem? (i := 5) rfl)
theorem q_5_6 : Cond.instanceMethod yX9_init ∈ wsL_law := ch_5 _ (List.mem_of_getElem? (i := 6) rfl)
theorem q_5_7 : Cond.code yX9_init cX9_init 3 none ∈ wsL_law := ch_5 _ (List.mem_of_getElem? (i := 7) rfl)
theorem q_5_8 : Cond.methodLink RX9 3 objectInit ∈ wsL_law := ch_5 _ (List.mem_of_getElem? (i := 8) rfl)
theorem q_5_9 : Cond.fieldLink RX9 9 "ThinReadings$Thinning" "log" "LThinReadings$Log;" ∈ wsL_law := ch_5 _ (List.mem_of_getElem? (i := 9) rfl)
theorem q_5_10 : Cond.fieldLink RX9 15 "ThinReadings$Thinning" "lines" "LThinReadings$Lines;" ∈ wsL_law := ch_5 _ (List.mem_of_getElem? (i := 10) rfl)
theorem q_5_11 : Cond.fieldLink RX9 19 "ThinReadings$Thinning" "piece" "[I" ∈ wsL_law := ch_5 _ (List.mem_of_getElem? (i := 11) rfl)
theorem q_5_12 : Cond.fieldLink RX9 23 "ThinReadings$Thinning" "sent" "[I" ∈ wsL_law := ch_5 _ (List.mem_of_getElem? (i := 12) rfl)
theorem q_5_13 : Cond.fieldLink RX9 26 "ThinReadings$Thinning" "steps" "[I" ∈ wsL_law := ch_5 _ (List.mem_of_getElem? (i := 13) rfl)
theorem q_5_14 : Cond.fieldLink RX9 29 "ThinReadings$Thinning" "next" "[I" ∈ wsL_law := ch_5 _ (List.mem_of_getElem? (i := 14) rfl)
theorem q_5_15 : Cond.fieldLink RX9 32 "ThinReadings$Thinning" "isOutdated" "Z" ∈ wsL_law := ch_5 _ (List.mem_of_getElem? (i := 15) rfl)
theorem q_5_16 : Cond.fieldLink RX9 36 "ThinReadings$Thinning" "pieces" "I" ∈ wsL_law := ch_5 _ (List.mem_of_getElem? (i := 16) rfl)
theorem q_5_17 : Cond.fieldLink RX9 40 "ThinReadings$Thinning" "doorMask" "I" ∈ wsL_law := ch_5 _ (List.mem_of_getElem? (i := 17) rfl)
theorem q_5_18 : Cond.fieldLink RX9 43 "ThinReadings$Thinning" "leastMask" "I" ∈ wsL_law := ch_5 _ (List.mem_of_getElem? (i := 18) rfl)
theorem q_5_19 : Cond.methodLink RX10 68 yX5_init ∈ wsL_law := ch_5 _ (List.mem_of_getElem? (i := 19) rfl)
theorem q_5_20 : Cond.instanceMethod yX5_init ∈ wsL_law := ch_5 _ (List.mem_of_getElem? (i := 20) rfl)
theorem q_5_21 : Cond.code yX5_init cX5_init 1 none ∈ wsL_law := ch_5 _ (List.mem_of_getElem? (i := 21) rfl)
theorem q_5_22 : Cond.methodLink RX5 3 objectInit ∈ wsL_law := ch_5 _ (List.mem_of_getElem? (i := 22) rfl)
theorem q_5_23 : Cond.fieldLink RX5 9 "ThinReadings$Seen" "size" "I" ∈ wsL_law := ch_5 _ (List.mem_of_getElem? (i := 23) rfl)
theorem q_6_0 : Cond.fieldLink RX5 15 "ThinReadings$Seen" "keptMask" "I" ∈ wsL_law := ch_6 _ (List.mem_of_getElem? (i := 0) rfl)
theorem q_6_1 : Cond.fieldLink RX5 18 "ThinReadings$Seen" "droppedMask" "I" ∈ wsL_law := ch_6 _ (List.mem_of_getElem? (i := 1) rfl)
theorem q_6_2 : Cond.methodLink RX10 75 yX7_init ∈ wsL_law := ch_6 _ (List.mem_of_getElem? (i := 2) rfl)
theorem q_6_3 : Cond.instanceMethod yX7_init ∈ wsL_law := ch_6 _ (List.mem_of_getElem? (i := 3) rfl)
theorem q_6_4 : Cond.code yX7_init cX7_init 4 none ∈ wsL_law := ch_6 _ (List.mem_of_getElem? (i := 4) rfl)
theorem q_6_5 : Cond.methodLink RX7 3 objectInit ∈ wsL_law := ch_6 _ (List.mem_of_getElem? (i := 5) rfl)
theorem q_6_6 : Cond.fieldLink RX7 9 "ThinReadings$Survey" "log" "LThinReadings$Log;" ∈ wsL_law := ch_6 _ (List.mem_of_getElem? (i := 6) rfl)
theorem q_6_7 : Cond.fieldLink RX7 15 "ThinReadings$Survey" "thinning" "LThinReadings$Thinning;" ∈ wsL_law := ch_6 _ (List.mem_of_getElem? (i := 7) rfl)
theorem q_6_8 : Cond.fieldLink RX7 19 "ThinReadings$Survey" "seen" "LThinReadings$Seen;" ∈ wsL_law := ch_6 _ (List.mem_of_getElem? (i := 8) rfl)
theorem q_6_9 : Cond.fieldLink RX7 23 "ThinReadings$Survey" "doorMasks" "[I" ∈ wsL_law := ch_6 _ (List.mem_of_getElem? (i := 9) rfl)
theorem q_6_10 : Cond.fieldLink RX7 27 "ThinReadings$Survey" "isOutdated" "Z" ∈ wsL_law := ch_6 _ (List.mem_of_getElem? (i := 10) rfl)
theorem q_6_11 : Cond.fieldLink RX7 31 "ThinReadings$Survey" "possible" "I" ∈ wsL_law := ch_6 _ (List.mem_of_getElem? (i := 11) rfl)
theorem q_6_12 : Cond.fieldLink RX7 35 "ThinReadings$Survey" "least" "I" ∈ wsL_law := ch_6 _ (List.mem_of_getElem? (i := 12) rfl)
theorem q_6_13 : Cond.fieldLink RX7 38 "ThinReadings$Survey" "greatest" "I" ∈ wsL_law := ch_6 _ (List.mem_of_getElem? (i := 13) rfl)
theorem q_6_14 : Cond.methodLink RX10 84 yX0_init ∈ wsL_law := ch_6 _ (List.mem_of_getElem? (i := 14) rfl)
theorem q_6_15 : Cond.instanceMethod yX0_init ∈ wsL_law := ch_6 _ (List.mem_of_getElem? (i := 15) rfl)
theorem q_6_16 : Cond.code yX0_init cX0_init 1 none ∈ wsL_law := ch_6 _ (List.mem_of_getElem? (i := 16) rfl)
theorem q_6_17 : Cond.methodLink RX0 1 objectInit ∈ wsL_law := ch_6 _ (List.mem_of_getElem? (i := 17) rfl)
theorem q_6_18 : Cond.fieldLink RX0 7 "ThinReadings$Fraction" "upper" "I" ∈ wsL_law := ch_6 _ (List.mem_of_getElem? (i := 18) rfl)
theorem q_6_19 : Cond.fieldLink RX0 13 "ThinReadings$Fraction" "lower" "I" ∈ wsL_law := ch_6 _ (List.mem_of_getElem? (i := 19) rfl)
theorem q_6_20 : Cond.methodLink RL 12 yX11_init ∈ wsL_law := ch_6 _ (List.mem_of_getElem? (i := 20) rfl)
theorem q_6_21 : Cond.instanceMethod yX11_init ∈ wsL_law := ch_6 _ (List.mem_of_getElem? (i := 21) rfl)
theorem q_6_22 : Cond.code yX11_init cX11_init 1 none ∈ wsL_law := ch_6 _ (List.mem_of_getElem? (i := 22) rfl)
theorem q_6_23 : Cond.methodLink RX11 1 objectInit ∈ wsL_law := ch_6 _ (List.mem_of_getElem? (i := 23) rfl)
theorem q_7_0 : Cond.fieldLink RX11 7 "ThinReadingsModel" "now" "[I" ∈ wsL_law := ch_7 _ (List.mem_of_getElem? (i := 0) rfl)
theorem q_7_1 : Cond.fieldLink RX11 13 "ThinReadingsModel" "undos" "[I" ∈ wsL_law := ch_7 _ (List.mem_of_getElem? (i := 1) rfl)
theorem q_7_2 : Cond.fieldLink RX11 16 "ThinReadingsModel" "seen" "[I" ∈ wsL_law := ch_7 _ (List.mem_of_getElem? (i := 2) rfl)
theorem q_7_3 : Cond.fieldLink RX11 19 "ThinReadingsModel" "seenAs" "[I" ∈ wsL_law := ch_7 _ (List.mem_of_getElem? (i := 3) rfl)
theorem q_7_4 : Cond.arrayClass .boolean ∈ wsL_law := ch_7 _ (List.mem_of_getElem? (i := 4) rfl)
theorem q_7_5 : Cond.fieldLink RX11 22 "ThinReadingsModel" "isKept" "[Z" ∈ wsL_law := ch_7 _ (List.mem_of_getElem? (i := 5) rfl)
theorem q_7_6 : Cond.fieldLink RX11 26 "ThinReadingsModel" "kept" "[I" ∈ wsL_law := ch_7 _ (List.mem_of_getElem? (i := 6) rfl)
theorem q_7_7 : Cond.fieldLink RX11 29 "ThinReadingsModel" "text" "[I" ∈ wsL_law := ch_7 _ (List.mem_of_getElem? (i := 7) rfl)
theorem q_7_8 : Cond.fieldLink RX11 32 "ThinReadingsModel" "read" "[I" ∈ wsL_law := ch_7 _ (List.mem_of_getElem? (i := 8) rfl)
theorem q_7_9 : Cond.fieldLink RX11 35 "ThinReadingsModel" "fewest" "[I" ∈ wsL_law := ch_7 _ (List.mem_of_getElem? (i := 9) rfl)
theorem q_7_10 : Cond.fieldLink RX11 38 "ThinReadingsModel" "doors" "[I" ∈ wsL_law := ch_7 _ (List.mem_of_getElem? (i := 10) rfl)
theorem q_7_11 : Cond.fieldLink RX11 41 "ThinReadingsModel" "isSo" "[Z" ∈ wsL_law := ch_7 _ (List.mem_of_getElem? (i := 11) rfl)
theorem q_7_12 : Cond.methodLink RX11 44 yX11_begins ∈ wsL_law := ch_7 _ (List.mem_of_getElem? (i := 12) rfl)
theorem q_7_13 : Cond.static yX11_begins ∈ wsL_law := ch_7 _ (List.mem_of_getElem? (i := 13) rfl)
theorem q_7_14 : Cond.code yX11_begins cX11_begins 2 none ∈ wsL_law := ch_7 _ (List.mem_of_getElem? (i := 14) rfl)
theorem q_7_15 : Cond.methodLink RL 13 yX10_type ∈ wsL_law := ch_7 _ (List.mem_of_getElem? (i := 15) rfl)
theorem q_7_16 : Cond.instanceMethod yX10_type ∈ wsL_law := ch_7 _ (List.mem_of_getElem? (i := 16) rfl)
theorem q_7_17 : Cond.selects RX10 yX10_type yX10_type ∈ wsL_law := ch_7 _ (List.mem_of_getElem? (i := 17) rfl)
theorem q_7_18 : Cond.code yX10_type cX10_type 2 (some .int) ∈ wsL_law := ch_7 _ (List.mem_of_getElem? (i := 18) rfl)
theorem q_7_19 : Cond.methodLink RX10 89 yX10_isWithin ∈ wsL_law := ch_7 _ (List.mem_of_getElem? (i := 19) rfl)
theorem q_7_20 : Cond.static yX10_isWithin ∈ wsL_law := ch_7 _ (List.mem_of_getElem? (i := 20) rfl)
theorem q_7_21 : Cond.code yX10_isWithin cX10_isWithin 3 (some .boolean) ∈ wsL_law := ch_7 _ (List.mem_of_getElem? (i := 21) rfl)
theorem q_7_22 : Cond.methodLink RX10 93 yX8_isFull ∈ wsL_law := ch_7 _ (List.mem_of_getElem? (i := 22) rfl)
theorem q_7_23 : Cond.instanceMethod yX8_isFull ∈ wsL_law := ch_7 _ (List.mem_of_getElem? (i := 23) rfl)
theorem q_8_0 : Cond.selects RX8 yX8_isFull yX8_isFull ∈ wsL_law := ch_8 _ (List.mem_of_getElem? (i := 0) rfl)
theorem q_8_1 : Cond.code yX8_isFull cX8_isFull 1 (some .boolean) ∈ wsL_law := ch_8 _ (List.mem_of_getElem? (i := 1) rfl)
theorem q_8_2 : Cond.methodLink RX10 97 yX8_put ∈ wsL_law := ch_8 _ (List.mem_of_getElem? (i := 2) rfl)
theorem q_8_3 : Cond.instanceMethod yX8_put ∈ wsL_law := ch_8 _ (List.mem_of_getElem? (i := 3) rfl)
theorem q_8_4 : Cond.selects RX8 yX8_put yX8_put ∈ wsL_law := ch_8 _ (List.mem_of_getElem? (i := 4) rfl)
theorem q_8_5 : Cond.code yX8_put cX8_put 2 (some .int) ∈ wsL_law := ch_8 _ (List.mem_of_getElem? (i := 5) rfl)
theorem q_8_6 : Cond.methodLink RX8 19 yX8_isFull ∈ wsL_law := ch_8 _ (List.mem_of_getElem? (i := 6) rfl)
theorem q_8_7 : Cond.methodLink RL 17 yX11_type ∈ wsL_law := ch_8 _ (List.mem_of_getElem? (i := 7) rfl)
theorem q_8_8 : Cond.instanceMethod yX11_type ∈ wsL_law := ch_8 _ (List.mem_of_getElem? (i := 8) rfl)
theorem q_8_9 : Cond.selects RX11 yX11_type yX11_type ∈ wsL_law := ch_8 _ (List.mem_of_getElem? (i := 9) rfl)
theorem q_8_10 : Cond.code yX11_type cX11_type 2 (some .int) ∈ wsL_law := ch_8 _ (List.mem_of_getElem? (i := 10) rfl)
theorem q_8_11 : Cond.fieldLink RX11 52 "ThinReadingsModel" "letterMany" "I" ∈ wsL_law := ch_8 _ (List.mem_of_getElem? (i := 11) rfl)
theorem q_8_12 : Cond.methodLink RX11 48 yX11_in ∈ wsL_law := ch_8 _ (List.mem_of_getElem? (i := 12) rfl)
theorem q_8_13 : Cond.static yX11_in ∈ wsL_law := ch_8 _ (List.mem_of_getElem? (i := 13) rfl)
theorem q_8_14 : Cond.code yX11_in cX11_in 3 (some .boolean) ∈ wsL_law := ch_8 _ (List.mem_of_getElem? (i := 14) rfl)
theorem q_8_15 : Cond.methodLink RL 18 yX10_clear ∈ wsL_law := ch_8 _ (List.mem_of_getElem? (i := 15) rfl)
theorem q_8_16 : Cond.instanceMethod yX10_clear ∈ wsL_law := ch_8 _ (List.mem_of_getElem? (i := 16) rfl)
theorem q_8_17 : Cond.selects RX10 yX10_clear yX10_clear ∈ wsL_law := ch_8 _ (List.mem_of_getElem? (i := 17) rfl)
theorem q_8_18 : Cond.code yX10_clear cX10_clear 1 (some .int) ∈ wsL_law := ch_8 _ (List.mem_of_getElem? (i := 18) rfl)
theorem q_8_19 : Cond.methodLink RX10 101 yX8_wipe ∈ wsL_law := ch_8 _ (List.mem_of_getElem? (i := 19) rfl)
theorem q_8_20 : Cond.instanceMethod yX8_wipe ∈ wsL_law := ch_8 _ (List.mem_of_getElem? (i := 20) rfl)
theorem q_8_21 : Cond.selects RX8 yX8_wipe yX8_wipe ∈ wsL_law := ch_8 _ (List.mem_of_getElem? (i := 21) rfl)
theorem q_8_22 : Cond.code yX8_wipe cX8_wipe 2 (some .int) ∈ wsL_law := ch_8 _ (List.mem_of_getElem? (i := 22) rfl)
theorem q_8_23 : Cond.methodLink RL 22 yX11_clear ∈ wsL_law := ch_8 _ (List.mem_of_getElem? (i := 23) rfl)
theorem q_9_0 : Cond.instanceMethod yX11_clear ∈ wsL_law := ch_9 _ (List.mem_of_getElem? (i := 0) rfl)
theorem q_9_1 : Cond.selects RX11 yX11_clear yX11_clear ∈ wsL_law := ch_9 _ (List.mem_of_getElem? (i := 1) rfl)
theorem q_9_2 : Cond.code yX11_clear cX11_clear 2 (some .int) ∈ wsL_law := ch_9 _ (List.mem_of_getElem? (i := 2) rfl)
theorem q_9_3 : Cond.methodLink RL 23 yX10_readings ∈ wsL_law := ch_9 _ (List.mem_of_getElem? (i := 3) rfl)
theorem q_9_4 : Cond.instanceMethod yX10_readings ∈ wsL_law := ch_9 _ (List.mem_of_getElem? (i := 4) rfl)
theorem q_9_5 : Cond.selects RX10 yX10_readings yX10_readings ∈ wsL_law := ch_9 _ (List.mem_of_getElem? (i := 5) rfl)
theorem q_9_6 : Cond.code yX10_readings cX10_readings 2 (some .int) ∈ wsL_law := ch_9 _ (List.mem_of_getElem? (i := 6) rfl)
theorem q_9_7 : Cond.methodLink RX10 105 yX4_parse ∈ wsL_law := ch_9 _ (List.mem_of_getElem? (i := 7) rfl)
theorem q_9_8 : Cond.instanceMethod yX4_parse ∈ wsL_law := ch_9 _ (List.mem_of_getElem? (i := 8) rfl)
theorem q_9_9 : Cond.selects RX4 yX4_parse yX4_parse ∈ wsL_law := ch_9 _ (List.mem_of_getElem? (i := 9) rfl)
theorem q_9_10 : Cond.code yX4_parse cX4_parse 3 (some .int) ∈ wsL_law := ch_9 _ (List.mem_of_getElem? (i := 10) rfl)
theorem q_9_11 : Cond.fieldLink RX4 25 "ThinReadings$Parser" "at" "I" ∈ wsL_law := ch_9 _ (List.mem_of_getElem? (i := 11) rfl)
theorem q_9_12 : Cond.fieldLink RX4 29 "ThinReadings$Parser" "isPromiseTold" "Z" ∈ wsL_law := ch_9 _ (List.mem_of_getElem? (i := 12) rfl)
theorem q_9_13 : Cond.fieldLink RX4 33 "ThinReadings$Parser" "isDelayTold" "Z" ∈ wsL_law := ch_9 _ (List.mem_of_getElem? (i := 13) rfl)
theorem q_9_14 : Cond.fieldLink RX4 39 "ThinReadings$Parser" "kind" "I" ∈ wsL_law := ch_9 _ (List.mem_of_getElem? (i := 14) rfl)
theorem q_9_15 : Cond.fieldLink RX4 53 "ThinReadings$Parser" "place" "I" ∈ wsL_law := ch_9 _ (List.mem_of_getElem? (i := 15) rfl)
theorem q_9_16 : Cond.methodLink RX4 22 yX3_startAnew ∈ wsL_law := ch_9 _ (List.mem_of_getElem? (i := 16) rfl)
theorem q_9_17 : Cond.instanceMethod yX3_startAnew ∈ wsL_law := ch_9 _ (List.mem_of_getElem? (i := 17) rfl)
theorem q_9_18 : Cond.selects RX3 yX3_startAnew yX3_startAnew ∈ wsL_law := ch_9 _ (List.mem_of_getElem? (i := 18) rfl)
theorem q_9_19 : Cond.code yX3_startAnew cX3_startAnew 1 none ∈ wsL_law := ch_9 _ (List.mem_of_getElem? (i := 19) rfl)
theorem q_9_20 : Cond.methodLink RX4 36 yX4_readToken ∈ wsL_law := ch_9 _ (List.mem_of_getElem? (i := 20) rfl)
theorem q_9_21 : Cond.instanceMethod yX4_readToken ∈ wsL_law := ch_9 _ (List.mem_of_getElem? (i := 21) rfl)
theorem q_9_22 : Cond.selects RX4 yX4_readToken yX4_readToken ∈ wsL_law := ch_9 _ (List.mem_of_getElem? (i := 22) rfl)
theorem q_9_23 : Cond.code yX4_readToken cX4_readToken 1 none ∈ wsL_law := ch_9 _ (List.mem_of_getElem? (i := 23) rfl)
theorem q_10_0 : Cond.methodLink RX4 87 yX8_isBlank ∈ wsL_law := ch_10 _ (List.mem_of_getElem? (i := 0) rfl)
theorem q_10_1 : Cond.instanceMethod yX8_isBlank ∈ wsL_law := ch_10 _ (List.mem_of_getElem? (i := 1) rfl)
theorem q_10_2 : Cond.selects RX8 yX8_isBlank yX8_isBlank ∈ wsL_law := ch_10 _ (List.mem_of_getElem? (i := 2) rfl)
theorem q_10_3 : Cond.code yX8_isBlank cX8_isBlank 2 (some .boolean) ∈ wsL_law := ch_10 _ (List.mem_of_getElem? (i := 3) rfl)
theorem q_10_4 : Cond.methodLink RX4 95 yX8_isDigit ∈ wsL_law := ch_10 _ (List.mem_of_getElem? (i := 4) rfl)
theorem q_10_5 : Cond.instanceMethod yX8_isDigit ∈ wsL_law := ch_10 _ (List.mem_of_getElem? (i := 5) rfl)
theorem q_10_6 : Cond.selects RX8 yX8_isDigit yX8_isDigit ∈ wsL_law := ch_10 _ (List.mem_of_getElem? (i := 6) rfl)
theorem q_10_7 : Cond.code yX8_isDigit cX8_isDigit 2 (some .boolean) ∈ wsL_law := ch_10 _ (List.mem_of_getElem? (i := 7) rfl)
theorem q_10_8 : Cond.methodLink RX4 98 yX4_readDigits ∈ wsL_law := ch_10 _ (List.mem_of_getElem? (i := 8) rfl)
theorem q_10_9 : Cond.instanceMethod yX4_readDigits ∈ wsL_law := ch_10 _ (List.mem_of_getElem? (i := 9) rfl)
theorem q_10_10 : Cond.selects RX4 yX4_readDigits yX4_readDigits ∈ wsL_law := ch_10 _ (List.mem_of_getElem? (i := 10) rfl)
theorem q_10_11 : Cond.code yX4_readDigits cX4_readDigits 2 none ∈ wsL_law := ch_10 _ (List.mem_of_getElem? (i := 11) rfl)
theorem q_10_12 : Cond.fieldLink RX4 60 "ThinReadings$Parser" "number" "I" ∈ wsL_law := ch_10 _ (List.mem_of_getElem? (i := 12) rfl)
theorem q_10_13 : Cond.methodLink RX4 101 yX8_letterAt ∈ wsL_law := ch_10 _ (List.mem_of_getElem? (i := 13) rfl)
theorem q_10_14 : Cond.instanceMethod yX8_letterAt ∈ wsL_law := ch_10 _ (List.mem_of_getElem? (i := 14) rfl)
theorem q_10_15 : Cond.selects RX8 yX8_letterAt yX8_letterAt ∈ wsL_law := ch_10 _ (List.mem_of_getElem? (i := 15) rfl)
theorem q_10_16 : Cond.code yX8_letterAt cX8_letterAt 2 (some .char) ∈ wsL_law := ch_10 _ (List.mem_of_getElem? (i := 16) rfl)
theorem q_10_17 : Cond.methodLink RX4 105 yX4_kindOf ∈ wsL_law := ch_10 _ (List.mem_of_getElem? (i := 17) rfl)
theorem q_10_18 : Cond.static yX4_kindOf ∈ wsL_law := ch_10 _ (List.mem_of_getElem? (i := 18) rfl)
theorem q_10_19 : Cond.code yX4_kindOf cX4_kindOf 1 (some .int) ∈ wsL_law := ch_10 _ (List.mem_of_getElem? (i := 19) rfl)
theorem q_10_20 : Cond.methodLink RX4 42 yX4_isPromiseItem ∈ wsL_law := ch_10 _ (List.mem_of_getElem? (i := 20) rfl)
theorem q_10_21 : Cond.instanceMethod yX4_isPromiseItem ∈ wsL_law := ch_10 _ (List.mem_of_getElem? (i := 21) rfl)
theorem q_10_22 : Cond.selects RX4 yX4_isPromiseItem yX4_isPromiseItem ∈ wsL_law := ch_10 _ (List.mem_of_getElem? (i := 22) rfl)
theorem q_10_23 : Cond.code yX4_isPromiseItem cX4_isPromiseItem 1 (some .boolean) ∈ wsL_law := ch_10 _ (List.mem_of_getElem? (i := 23) rfl)
theorem q_11_0 : Cond.methodLink RX4 56 yX4_isNumber ∈ wsL_law := ch_11 _ (List.mem_of_getElem? (i := 0) rfl)
theorem q_11_1 : Cond.instanceMethod yX4_isNumber ∈ wsL_law := ch_11 _ (List.mem_of_getElem? (i := 1) rfl)
theorem q_11_2 : Cond.selects RX4 yX4_isNumber yX4_isNumber ∈ wsL_law := ch_11 _ (List.mem_of_getElem? (i := 2) rfl)
theorem q_11_3 : Cond.code yX4_isNumber cX4_isNumber 3 (some .boolean) ∈ wsL_law := ch_11 _ (List.mem_of_getElem? (i := 3) rfl)
theorem q_11_4 : Cond.methodLink RX4 66 yX4_isEnded ∈ wsL_law := ch_11 _ (List.mem_of_getElem? (i := 4) rfl)
theorem q_11_5 : Cond.instanceMethod yX4_isEnded ∈ wsL_law := ch_11 _ (List.mem_of_getElem? (i := 5) rfl)
theorem q_11_6 : Cond.selects RX4 yX4_isEnded yX4_isEnded ∈ wsL_law := ch_11 _ (List.mem_of_getElem? (i := 6) rfl)
theorem q_11_7 : Cond.code yX4_isEnded cX4_isEnded 1 (some .boolean) ∈ wsL_law := ch_11 _ (List.mem_of_getElem? (i := 7) rfl)
theorem q_11_8 : Cond.methodLink RX4 46 yX4_isDelayItem ∈ wsL_law := ch_11 _ (List.mem_of_getElem? (i := 8) rfl)
theorem q_11_9 : Cond.instanceMethod yX4_isDelayItem ∈ wsL_law := ch_11 _ (List.mem_of_getElem? (i := 9) rfl)
theorem q_11_10 : Cond.selects RX4 yX4_isDelayItem yX4_isDelayItem ∈ wsL_law := ch_11 _ (List.mem_of_getElem? (i := 10) rfl)
theorem q_11_11 : Cond.code yX4_isDelayItem cX4_isDelayItem 1 (some .boolean) ∈ wsL_law := ch_11 _ (List.mem_of_getElem? (i := 11) rfl)
theorem q_11_12 : Cond.methodLink RX4 49 yX4_isReadingItem ∈ wsL_law := ch_11 _ (List.mem_of_getElem? (i := 12) rfl)
theorem q_11_13 : Cond.instanceMethod yX4_isReadingItem ∈ wsL_law := ch_11 _ (List.mem_of_getElem? (i := 13) rfl)
theorem q_11_14 : Cond.selects RX4 yX4_isReadingItem yX4_isReadingItem ∈ wsL_law := ch_11 _ (List.mem_of_getElem? (i := 14) rfl)
theorem q_11_15 : Cond.code yX4_isReadingItem cX4_isReadingItem 3 (some .boolean) ∈ wsL_law := ch_11 _ (List.mem_of_getElem? (i := 15) rfl)
theorem q_11_16 : Cond.methodLink RX4 72 yX3_isFull ∈ wsL_law := ch_11 _ (List.mem_of_getElem? (i := 16) rfl)
theorem q_11_17 : Cond.instanceMethod yX3_isFull ∈ wsL_law := ch_11 _ (List.mem_of_getElem? (i := 17) rfl)
theorem q_11_18 : Cond.selects RX3 yX3_isFull yX3_isFull ∈ wsL_law := ch_11 _ (List.mem_of_getElem? (i := 18) rfl)
theorem q_11_19 : Cond.code yX3_isFull cX3_isFull 1 (some .boolean) ∈ wsL_law := ch_11 _ (List.mem_of_getElem? (i := 19) rfl)
theorem q_11_20 : Cond.methodLink RX4 75 yX3_isLater ∈ wsL_law := ch_11 _ (List.mem_of_getElem? (i := 20) rfl)
theorem q_11_21 : Cond.instanceMethod yX3_isLater ∈ wsL_law := ch_11 _ (List.mem_of_getElem? (i := 21) rfl)
theorem q_11_22 : Cond.selects RX3 yX3_isLater yX3_isLater ∈ wsL_law := ch_11 _ (List.mem_of_getElem? (i := 22) rfl)
theorem q_11_23 : Cond.code yX3_isLater cX3_isLater 2 (some .boolean) ∈ wsL_law := ch_11 _ (List.mem_of_getElem? (i := 23) rfl)
theorem q_12_0 : Cond.methodLink RX3 35 yX3_timeAt ∈ wsL_law := ch_12 _ (List.mem_of_getElem? (i := 0) rfl)
theorem q_12_1 : Cond.instanceMethod yX3_timeAt ∈ wsL_law := ch_12 _ (List.mem_of_getElem? (i := 1) rfl)
theorem q_12_2 : Cond.selects RX3 yX3_timeAt yX3_timeAt ∈ wsL_law := ch_12 _ (List.mem_of_getElem? (i := 2) rfl)
theorem q_12_3 : Cond.code yX3_timeAt cX3_timeAt 2 (some .int) ∈ wsL_law := ch_12 _ (List.mem_of_getElem? (i := 3) rfl)
theorem q_12_4 : Cond.methodLink RX3 28 yX3_has ∈ wsL_law := ch_12 _ (List.mem_of_getElem? (i := 4) rfl)
theorem q_12_5 : Cond.instanceMethod yX3_has ∈ wsL_law := ch_12 _ (List.mem_of_getElem? (i := 5) rfl)
theorem q_12_6 : Cond.selects RX3 yX3_has yX3_has ∈ wsL_law := ch_12 _ (List.mem_of_getElem? (i := 6) rfl)
theorem q_12_7 : Cond.code yX3_has cX3_has 2 (some .boolean) ∈ wsL_law := ch_12 _ (List.mem_of_getElem? (i := 7) rfl)
theorem q_12_8 : Cond.methodLink RX4 79 yX3_append ∈ wsL_law := ch_12 _ (List.mem_of_getElem? (i := 8) rfl)
theorem q_12_9 : Cond.instanceMethod yX3_append ∈ wsL_law := ch_12 _ (List.mem_of_getElem? (i := 9) rfl)
theorem q_12_10 : Cond.selects RX3 yX3_append yX3_append ∈ wsL_law := ch_12 _ (List.mem_of_getElem? (i := 10) rfl)
theorem q_12_11 : Cond.code yX3_append cX3_append 3 (some .int) ∈ wsL_law := ch_12 _ (List.mem_of_getElem? (i := 11) rfl)
theorem q_12_12 : Cond.methodLink RX3 39 yX3_isFull ∈ wsL_law := ch_12 _ (List.mem_of_getElem? (i := 12) rfl)
theorem q_12_13 : Cond.methodLink RX10 111 yX3_copy ∈ wsL_law := ch_12 _ (List.mem_of_getElem? (i := 13) rfl)
theorem q_12_14 : Cond.instanceMethod yX3_copy ∈ wsL_law := ch_12 _ (List.mem_of_getElem? (i := 14) rfl)
theorem q_12_15 : Cond.selects RX3 yX3_copy yX3_copy ∈ wsL_law := ch_12 _ (List.mem_of_getElem? (i := 15) rfl)
theorem q_12_16 : Cond.code yX3_copy cX3_copy 3 none ∈ wsL_law := ch_12 _ (List.mem_of_getElem? (i := 16) rfl)
theorem q_12_17 : Cond.methodLink RX10 114 yX1_wipe ∈ wsL_law := ch_12 _ (List.mem_of_getElem? (i := 17) rfl)
theorem q_12_18 : Cond.instanceMethod yX1_wipe ∈ wsL_law := ch_12 _ (List.mem_of_getElem? (i := 18) rfl)
theorem q_12_19 : Cond.selects RX1 yX1_wipe yX1_wipe ∈ wsL_law := ch_12 _ (List.mem_of_getElem? (i := 19) rfl)
theorem q_12_20 : Cond.code yX1_wipe cX1_wipe 1 none ∈ wsL_law := ch_12 _ (List.mem_of_getElem? (i := 20) rfl)
theorem q_12_21 : Cond.methodLink RX10 116 yX6_wipe ∈ wsL_law := ch_12 _ (List.mem_of_getElem? (i := 21) rfl)
theorem q_12_22 : Cond.instanceMethod yX6_wipe ∈ wsL_law := ch_12 _ (List.mem_of_getElem? (i := 22) rfl)
theorem q_12_23 : Cond.selects RX6 yX6_wipe yX6_wipe ∈ wsL_law := ch_12 _ (List.mem_of_getElem? (i := 23) rfl)
theorem q_13_0 : Cond.code yX6_wipe cX6_wipe 1 none ∈ wsL_law := ch_13 _ (List.mem_of_getElem? (i := 0) rfl)
theorem q_13_1 : Cond.methodLink RX10 117 yX5_wipe ∈ wsL_law := ch_13 _ (List.mem_of_getElem? (i := 1) rfl)
theorem q_13_2 : Cond.instanceMethod yX5_wipe ∈ wsL_law := ch_13 _ (List.mem_of_getElem? (i := 2) rfl)
theorem q_13_3 : Cond.selects RX5 yX5_wipe yX5_wipe ∈ wsL_law := ch_13 _ (List.mem_of_getElem? (i := 3) rfl)
theorem q_13_4 : Cond.code yX5_wipe cX5_wipe 2 (some .int) ∈ wsL_law := ch_13 _ (List.mem_of_getElem? (i := 4) rfl)
theorem q_13_5 : Cond.methodLink RX10 118 yX10_outdateAll ∈ wsL_law := ch_13 _ (List.mem_of_getElem? (i := 5) rfl)
theorem q_13_6 : Cond.instanceMethod yX10_outdateAll ∈ wsL_law := ch_13 _ (List.mem_of_getElem? (i := 6) rfl)
theorem q_13_7 : Cond.selects RX10 yX10_outdateAll yX10_outdateAll ∈ wsL_law := ch_13 _ (List.mem_of_getElem? (i := 7) rfl)
theorem q_13_8 : Cond.code yX10_outdateAll cX10_outdateAll 1 none ∈ wsL_law := ch_13 _ (List.mem_of_getElem? (i := 8) rfl)
theorem q_13_9 : Cond.methodLink RX10 273 yX9_outdate ∈ wsL_law := ch_13 _ (List.mem_of_getElem? (i := 9) rfl)
theorem q_13_10 : Cond.instanceMethod yX9_outdate ∈ wsL_law := ch_13 _ (List.mem_of_getElem? (i := 10) rfl)
theorem q_13_11 : Cond.selects RX9 yX9_outdate yX9_outdate ∈ wsL_law := ch_13 _ (List.mem_of_getElem? (i := 11) rfl)
theorem q_13_12 : Cond.code yX9_outdate cX9_outdate 1 none ∈ wsL_law := ch_13 _ (List.mem_of_getElem? (i := 12) rfl)
theorem q_13_13 : Cond.methodLink RX10 276 yX7_outdate ∈ wsL_law := ch_13 _ (List.mem_of_getElem? (i := 13) rfl)
theorem q_13_14 : Cond.instanceMethod yX7_outdate ∈ wsL_law := ch_13 _ (List.mem_of_getElem? (i := 14) rfl)
theorem q_13_15 : Cond.selects RX7 yX7_outdate yX7_outdate ∈ wsL_law := ch_13 _ (List.mem_of_getElem? (i := 15) rfl)
theorem q_13_16 : Cond.code yX7_outdate cX7_outdate 1 none ∈ wsL_law := ch_13 _ (List.mem_of_getElem? (i := 16) rfl)
theorem q_13_17 : Cond.methodLink RL 26 yX11_readings ∈ wsL_law := ch_13 _ (List.mem_of_getElem? (i := 17) rfl)
theorem q_13_18 : Cond.instanceMethod yX11_readings ∈ wsL_law := ch_13 _ (List.mem_of_getElem? (i := 18) rfl)
theorem q_13_19 : Cond.selects RX11 yX11_readings yX11_readings ∈ wsL_law := ch_13 _ (List.mem_of_getElem? (i := 19) rfl)
theorem q_13_20 : Cond.code yX11_readings cX11_readings 3 (some .int) ∈ wsL_law := ch_13 _ (List.mem_of_getElem? (i := 20) rfl)
theorem q_13_21 : Cond.fieldLink RX11 84 "ThinReadingsModel" "readOnce" "I" ∈ wsL_law := ch_13 _ (List.mem_of_getElem? (i := 21) rfl)
theorem q_13_22 : Cond.fieldLink RX11 56 "ThinReadingsModel" "readAt" "I" ∈ wsL_law := ch_13 _ (List.mem_of_getElem? (i := 22) rfl)
theorem q_13_23 : Cond.fieldLink RX11 75 "ThinReadingsModel" "faultAt" "I" ∈ wsL_law := ch_13 _ (List.mem_of_getElem? (i := 23) rfl)
theorem q_14_0 : Cond.fieldLink RX11 107 "ThinReadingsModel" "undoMany" "I" ∈ wsL_law := ch_14 _ (List.mem_of_getElem? (i := 0) rfl)
theorem q_14_1 : Cond.fieldLink RX11 110 "ThinReadingsModel" "seenMany" "I" ∈ wsL_law := ch_14 _ (List.mem_of_getElem? (i := 1) rfl)
theorem q_14_2 : Cond.methodLink RX11 59 yX11_blanks ∈ wsL_law := ch_14 _ (List.mem_of_getElem? (i := 2) rfl)
theorem q_14_3 : Cond.instanceMethod yX11_blanks ∈ wsL_law := ch_14 _ (List.mem_of_getElem? (i := 3) rfl)
theorem q_14_4 : Cond.selects RX11 yX11_blanks yX11_blanks ∈ wsL_law := ch_14 _ (List.mem_of_getElem? (i := 4) rfl)
theorem q_14_5 : Cond.code yX11_blanks cX11_blanks 1 none ∈ wsL_law := ch_14 _ (List.mem_of_getElem? (i := 5) rfl)
theorem q_14_6 : Cond.methodLink RX11 104 yX11_readsItem ∈ wsL_law := ch_14 _ (List.mem_of_getElem? (i := 6) rfl)
theorem q_14_7 : Cond.instanceMethod yX11_readsItem ∈ wsL_law := ch_14 _ (List.mem_of_getElem? (i := 7) rfl)
theorem q_14_8 : Cond.selects RX11 yX11_readsItem yX11_readsItem ∈ wsL_law := ch_14 _ (List.mem_of_getElem? (i := 8) rfl)
theorem q_14_9 : Cond.code yX11_readsItem cX11_readsItem 1 (some .boolean) ∈ wsL_law := ch_14 _ (List.mem_of_getElem? (i := 9) rfl)
theorem q_14_10 : Cond.fieldLink RX11 65 "ThinReadingsModel" "token" "I" ∈ wsL_law := ch_14 _ (List.mem_of_getElem? (i := 10) rfl)
theorem q_14_11 : Cond.methodLink RX11 78 yX11_next ∈ wsL_law := ch_14 _ (List.mem_of_getElem? (i := 11) rfl)
theorem q_14_12 : Cond.instanceMethod yX11_next ∈ wsL_law := ch_14 _ (List.mem_of_getElem? (i := 12) rfl)
theorem q_14_13 : Cond.selects RX11 yX11_next yX11_next ∈ wsL_law := ch_14 _ (List.mem_of_getElem? (i := 13) rfl)
theorem q_14_14 : Cond.code yX11_next cX11_next 2 none ∈ wsL_law := ch_14 _ (List.mem_of_getElem? (i := 14) rfl)
theorem q_14_15 : Cond.fieldLink RX11 62 "ThinReadingsModel" "tokenAt" "I" ∈ wsL_law := ch_14 _ (List.mem_of_getElem? (i := 15) rfl)
theorem q_14_16 : Cond.fieldLink RX11 72 "ThinReadingsModel" "value" "I" ∈ wsL_law := ch_14 _ (List.mem_of_getElem? (i := 16) rfl)
theorem q_14_17 : Cond.methodLink RX11 68 yX11_isFigure ∈ wsL_law := ch_14 _ (List.mem_of_getElem? (i := 17) rfl)
theorem q_14_18 : Cond.instanceMethod yX11_isFigure ∈ wsL_law := ch_14 _ (List.mem_of_getElem? (i := 18) rfl)
theorem q_14_19 : Cond.selects RX11 yX11_isFigure yX11_isFigure ∈ wsL_law := ch_14 _ (List.mem_of_getElem? (i := 19) rfl)
theorem q_14_20 : Cond.code yX11_isFigure cX11_isFigure 1 (some .boolean) ∈ wsL_law := ch_14 _ (List.mem_of_getElem? (i := 20) rfl)
theorem q_14_21 : Cond.methodLink RX11 97 yX11_readsOnce ∈ wsL_law := ch_14 _ (List.mem_of_getElem? (i := 21) rfl)
theorem q_14_22 : Cond.instanceMethod yX11_readsOnce ∈ wsL_law := ch_14 _ (List.mem_of_getElem? (i := 22) rfl)
theorem q_14_23 : Cond.selects RX11 yX11_readsOnce yX11_readsOnce ∈ wsL_law := ch_14 _ (List.mem_of_getElem? (i := 23) rfl)
theorem q_15_0 : Cond.code yX11_readsOnce cX11_readsOnce 4 (some .boolean) ∈ wsL_law := ch_15 _ (List.mem_of_getElem? (i := 0) rfl)
theorem q_15_1 : Cond.methodLink RX11 87 yX11_has ∈ wsL_law := ch_15 _ (List.mem_of_getElem? (i := 1) rfl)
theorem q_15_2 : Cond.static yX11_has ∈ wsL_law := ch_15 _ (List.mem_of_getElem? (i := 2) rfl)
theorem q_15_3 : Cond.code yX11_has cX11_has 2 (some .boolean) ∈ wsL_law := ch_15 _ (List.mem_of_getElem? (i := 3) rfl)
theorem q_15_4 : Cond.methodLink RX11 81 yX11_fails ∈ wsL_law := ch_15 _ (List.mem_of_getElem? (i := 4) rfl)
theorem q_15_5 : Cond.instanceMethod yX11_fails ∈ wsL_law := ch_15 _ (List.mem_of_getElem? (i := 5) rfl)
theorem q_15_6 : Cond.selects RX11 yX11_fails yX11_fails ∈ wsL_law := ch_15 _ (List.mem_of_getElem? (i := 6) rfl)
theorem q_15_7 : Cond.code yX11_fails cX11_fails 1 (some .boolean) ∈ wsL_law := ch_15 _ (List.mem_of_getElem? (i := 7) rfl)
theorem q_15_8 : Cond.methodLink RX11 91 yX11_number ∈ wsL_law := ch_15 _ (List.mem_of_getElem? (i := 8) rfl)
theorem q_15_9 : Cond.instanceMethod yX11_number ∈ wsL_law := ch_15 _ (List.mem_of_getElem? (i := 9) rfl)
theorem q_15_10 : Cond.selects RX11 yX11_number yX11_number ∈ wsL_law := ch_15 _ (List.mem_of_getElem? (i := 10) rfl)
theorem q_15_11 : Cond.code yX11_number cX11_number 3 (some .boolean) ∈ wsL_law := ch_15 _ (List.mem_of_getElem? (i := 11) rfl)
theorem q_15_12 : Cond.methodLink RX11 94 yX11_ends ∈ wsL_law := ch_15 _ (List.mem_of_getElem? (i := 12) rfl)
theorem q_15_13 : Cond.instanceMethod yX11_ends ∈ wsL_law := ch_15 _ (List.mem_of_getElem? (i := 13) rfl)
theorem q_15_14 : Cond.selects RX11 yX11_ends yX11_ends ∈ wsL_law := ch_15 _ (List.mem_of_getElem? (i := 14) rfl)
theorem q_15_15 : Cond.code yX11_ends cX11_ends 1 (some .boolean) ∈ wsL_law := ch_15 _ (List.mem_of_getElem? (i := 15) rfl)
theorem q_15_16 : Cond.methodLink RX11 100 yX11_readsOne ∈ wsL_law := ch_15 _ (List.mem_of_getElem? (i := 16) rfl)
theorem q_15_17 : Cond.instanceMethod yX11_readsOne ∈ wsL_law := ch_15 _ (List.mem_of_getElem? (i := 17) rfl)
theorem q_15_18 : Cond.selects RX11 yX11_readsOne yX11_readsOne ∈ wsL_law := ch_15 _ (List.mem_of_getElem? (i := 18) rfl)
theorem q_15_19 : Cond.code yX11_readsOne cX11_readsOne 3 (some .boolean) ∈ wsL_law := ch_15 _ (List.mem_of_getElem? (i := 19) rfl)
theorem q_15_20 : Cond.methodLink RL 27 yX10_adds ∈ wsL_law := ch_15 _ (List.mem_of_getElem? (i := 20) rfl)
theorem q_15_21 : Cond.instanceMethod yX10_adds ∈ wsL_law := ch_15 _ (List.mem_of_getElem? (i := 21) rfl)
theorem q_15_22 : Cond.selects RX10 yX10_adds yX10_adds ∈ wsL_law := ch_15 _ (List.mem_of_getElem? (i := 22) rfl)
theorem q_15_23 : Cond.code yX10_adds cX10_adds 3 (some .int) ∈ wsL_law := ch_15 _ (List.mem_of_getElem? (i := 23) rfl)
theorem q_16_0 : Cond.methodLink RX10 121 yX10_appendReading ∈ wsL_law := ch_16 _ (List.mem_of_getElem? (i := 0) rfl)
theorem q_16_1 : Cond.instanceMethod yX10_appendReading ∈ wsL_law := ch_16 _ (List.mem_of_getElem? (i := 1) rfl)
theorem q_16_2 : Cond.selects RX10 yX10_appendReading yX10_appendReading ∈ wsL_law := ch_16 _ (List.mem_of_getElem? (i := 2) rfl)
theorem q_16_3 : Cond.code yX10_appendReading cX10_appendReading 3 (some .int) ∈ wsL_law := ch_16 _ (List.mem_of_getElem? (i := 3) rfl)
theorem q_16_4 : Cond.methodLink RX10 263 yX3_isLater ∈ wsL_law := ch_16 _ (List.mem_of_getElem? (i := 4) rfl)
theorem q_16_5 : Cond.methodLink RX10 266 yX3_isFull ∈ wsL_law := ch_16 _ (List.mem_of_getElem? (i := 5) rfl)
theorem q_16_6 : Cond.methodLink RX10 129 yX10_rememberForUndo ∈ wsL_law := ch_16 _ (List.mem_of_getElem? (i := 6) rfl)
theorem q_16_7 : Cond.instanceMethod yX10_rememberForUndo ∈ wsL_law := ch_16 _ (List.mem_of_getElem? (i := 7) rfl)
theorem q_16_8 : Cond.selects RX10 yX10_rememberForUndo yX10_rememberForUndo ∈ wsL_law := ch_16 _ (List.mem_of_getElem? (i := 8) rfl)
theorem q_16_9 : Cond.code yX10_rememberForUndo cX10_rememberForUndo 1 none ∈ wsL_law := ch_16 _ (List.mem_of_getElem? (i := 9) rfl)
theorem q_16_10 : Cond.methodLink RX10 270 yX1_push ∈ wsL_law := ch_16 _ (List.mem_of_getElem? (i := 10) rfl)
theorem q_16_11 : Cond.instanceMethod yX1_push ∈ wsL_law := ch_16 _ (List.mem_of_getElem? (i := 11) rfl)
theorem q_16_12 : Cond.selects RX1 yX1_push yX1_push ∈ wsL_law := ch_16 _ (List.mem_of_getElem? (i := 12) rfl)
theorem q_16_13 : Cond.code yX1_push cX1_push 2 none ∈ wsL_law := ch_16 _ (List.mem_of_getElem? (i := 13) rfl)
theorem q_16_14 : Cond.methodLink RX1 31 Lib.Math.min.name ∈ wsL_law := ch_16 _ (List.mem_of_getElem? (i := 14) rfl)
theorem q_16_15 : Cond.static Lib.Math.min.name ∈ wsL_law := ch_16 _ (List.mem_of_getElem? (i := 15) rfl)
theorem q_16_16 : Cond.initialized "java/lang/Math" ∈ wsL_law := ch_16 _ (List.mem_of_getElem? (i := 16) rfl)
theorem q_16_17 : Cond.code Lib.Math.min.name Lib.Math.min.code 2 (some .int) ∈ wsL_law := ch_16 _ (List.mem_of_getElem? (i := 17) rfl)
theorem q_16_18 : Cond.methodLink RX1 27 yX6_put ∈ wsL_law := ch_16 _ (List.mem_of_getElem? (i := 18) rfl)
theorem q_16_19 : Cond.instanceMethod yX6_put ∈ wsL_law := ch_16 _ (List.mem_of_getElem? (i := 19) rfl)
theorem q_16_20 : Cond.selects RX6 yX6_put yX6_put ∈ wsL_law := ch_16 _ (List.mem_of_getElem? (i := 20) rfl)
theorem q_16_21 : Cond.code yX6_put cX6_put 5 none ∈ wsL_law := ch_16 _ (List.mem_of_getElem? (i := 21) rfl)
theorem q_16_22 : Cond.methodLink RX10 267 yX3_append ∈ wsL_law := ch_16 _ (List.mem_of_getElem? (i := 22) rfl)
theorem q_16_23 : Cond.methodLink RL 31 yX11_adds ∈ wsL_law := ch_16 _ (List.mem_of_getElem? (i := 23) rfl)
theorem q_17_0 : Cond.instanceMethod yX11_adds ∈ wsL_law := ch_17 _ (List.mem_of_getElem? (i := 0) rfl)
theorem q_17_1 : Cond.selects RX11 yX11_adds yX11_adds ∈ wsL_law := ch_17 _ (List.mem_of_getElem? (i := 1) rfl)
theorem q_17_2 : Cond.code yX11_adds cX11_adds 3 (some .int) ∈ wsL_law := ch_17 _ (List.mem_of_getElem? (i := 2) rfl)
theorem q_17_3 : Cond.methodLink RX11 123 yX11_comes ∈ wsL_law := ch_17 _ (List.mem_of_getElem? (i := 3) rfl)
theorem q_17_4 : Cond.instanceMethod yX11_comes ∈ wsL_law := ch_17 _ (List.mem_of_getElem? (i := 4) rfl)
theorem q_17_5 : Cond.selects RX11 yX11_comes yX11_comes ∈ wsL_law := ch_17 _ (List.mem_of_getElem? (i := 5) rfl)
theorem q_17_6 : Cond.code yX11_comes cX11_comes 4 (some .int) ∈ wsL_law := ch_17 _ (List.mem_of_getElem? (i := 6) rfl)
theorem q_17_7 : Cond.methodLink RX11 120 yX11_remember ∈ wsL_law := ch_17 _ (List.mem_of_getElem? (i := 7) rfl)
theorem q_17_8 : Cond.instanceMethod yX11_remember ∈ wsL_law := ch_17 _ (List.mem_of_getElem? (i := 8) rfl)
theorem q_17_9 : Cond.selects RX11 yX11_remember yX11_remember ∈ wsL_law := ch_17 _ (List.mem_of_getElem? (i := 9) rfl)
theorem q_17_10 : Cond.code yX11_remember cX11_remember 2 none ∈ wsL_law := ch_17 _ (List.mem_of_getElem? (i := 10) rfl)
theorem q_17_11 : Cond.fieldLink RX11 117 "ThinReadingsModel" "undoAt" "I" ∈ wsL_law := ch_17 _ (List.mem_of_getElem? (i := 11) rfl)
theorem q_17_12 : Cond.methodLink RL 32 yX10_misses ∈ wsL_law := ch_17 _ (List.mem_of_getElem? (i := 12) rfl)
theorem q_17_13 : Cond.instanceMethod yX10_misses ∈ wsL_law := ch_17 _ (List.mem_of_getElem? (i := 13) rfl)
theorem q_17_14 : Cond.selects RX10 yX10_misses yX10_misses ∈ wsL_law := ch_17 _ (List.mem_of_getElem? (i := 14) rfl)
theorem q_17_15 : Cond.code yX10_misses cX10_misses 2 (some .int) ∈ wsL_law := ch_17 _ (List.mem_of_getElem? (i := 15) rfl)
theorem q_17_16 : Cond.methodLink RL 35 yX11_misses ∈ wsL_law := ch_17 _ (List.mem_of_getElem? (i := 16) rfl)
theorem q_17_17 : Cond.instanceMethod yX11_misses ∈ wsL_law := ch_17 _ (List.mem_of_getElem? (i := 17) rfl)
theorem q_17_18 : Cond.selects RX11 yX11_misses yX11_misses ∈ wsL_law := ch_17 _ (List.mem_of_getElem? (i := 18) rfl)
theorem q_17_19 : Cond.code yX11_misses cX11_misses 2 (some .int) ∈ wsL_law := ch_17 _ (List.mem_of_getElem? (i := 19) rfl)
theorem q_17_20 : Cond.methodLink RL 36 yX10_strikes ∈ wsL_law := ch_17 _ (List.mem_of_getElem? (i := 20) rfl)
theorem q_17_21 : Cond.instanceMethod yX10_strikes ∈ wsL_law := ch_17 _ (List.mem_of_getElem? (i := 21) rfl)
theorem q_17_22 : Cond.selects RX10 yX10_strikes yX10_strikes ∈ wsL_law := ch_17 _ (List.mem_of_getElem? (i := 22) rfl)
theorem q_17_23 : Cond.code yX10_strikes cX10_strikes 2 (some .int) ∈ wsL_law := ch_17 _ (List.mem_of_getElem? (i := 23) rfl)
theorem q_18_0 : Cond.methodLink RX10 125 yX3_has ∈ wsL_law := ch_18 _ (List.mem_of_getElem? (i := 0) rfl)
theorem q_18_1 : Cond.methodLink RX10 132 yX3_remove ∈ wsL_law := ch_18 _ (List.mem_of_getElem? (i := 1) rfl)
theorem q_18_2 : Cond.instanceMethod yX3_remove ∈ wsL_law := ch_18 _ (List.mem_of_getElem? (i := 2) rfl)
theorem q_18_3 : Cond.selects RX3 yX3_remove yX3_remove ∈ wsL_law := ch_18 _ (List.mem_of_getElem? (i := 3) rfl)
theorem q_18_4 : Cond.code yX3_remove cX3_remove 3 none ∈ wsL_law := ch_18 _ (List.mem_of_getElem? (i := 4) rfl)
theorem q_18_5 : Cond.methodLink RL 39 yX11_strikes ∈ wsL_law := ch_18 _ (List.mem_of_getElem? (i := 5) rfl)
theorem q_18_6 : Cond.instanceMethod yX11_strikes ∈ wsL_law := ch_18 _ (List.mem_of_getElem? (i := 6) rfl)
theorem q_18_7 : Cond.selects RX11 yX11_strikes yX11_strikes ∈ wsL_law := ch_18 _ (List.mem_of_getElem? (i := 7) rfl)
theorem q_18_8 : Cond.code yX11_strikes cX11_strikes 3 (some .int) ∈ wsL_law := ch_18 _ (List.mem_of_getElem? (i := 8) rfl)
theorem q_18_9 : Cond.methodLink RX11 113 yX11_isReading ∈ wsL_law := ch_18 _ (List.mem_of_getElem? (i := 9) rfl)
theorem q_18_10 : Cond.instanceMethod yX11_isReading ∈ wsL_law := ch_18 _ (List.mem_of_getElem? (i := 10) rfl)
theorem q_18_11 : Cond.selects RX11 yX11_isReading yX11_isReading ∈ wsL_law := ch_18 _ (List.mem_of_getElem? (i := 11) rfl)
theorem q_18_12 : Cond.code yX11_isReading cX11_isReading 2 (some .boolean) ∈ wsL_law := ch_18 _ (List.mem_of_getElem? (i := 12) rfl)
theorem q_18_13 : Cond.methodLink RL 40 yX10_promises ∈ wsL_law := ch_18 _ (List.mem_of_getElem? (i := 13) rfl)
theorem q_18_14 : Cond.instanceMethod yX10_promises ∈ wsL_law := ch_18 _ (List.mem_of_getElem? (i := 14) rfl)
theorem q_18_15 : Cond.selects RX10 yX10_promises yX10_promises ∈ wsL_law := ch_18 _ (List.mem_of_getElem? (i := 15) rfl)
theorem q_18_16 : Cond.code yX10_promises cX10_promises 3 (some .int) ∈ wsL_law := ch_18 _ (List.mem_of_getElem? (i := 16) rfl)
theorem q_18_17 : Cond.methodLink RL 43 yX11_promises ∈ wsL_law := ch_18 _ (List.mem_of_getElem? (i := 17) rfl)
theorem q_18_18 : Cond.instanceMethod yX11_promises ∈ wsL_law := ch_18 _ (List.mem_of_getElem? (i := 18) rfl)
theorem q_18_19 : Cond.selects RX11 yX11_promises yX11_promises ∈ wsL_law := ch_18 _ (List.mem_of_getElem? (i := 19) rfl)
theorem q_18_20 : Cond.code yX11_promises cX11_promises 2 (some .int) ∈ wsL_law := ch_18 _ (List.mem_of_getElem? (i := 20) rfl)
theorem q_18_21 : Cond.methodLink RX11 127 yX11_becomes ∈ wsL_law := ch_18 _ (List.mem_of_getElem? (i := 21) rfl)
theorem q_18_22 : Cond.instanceMethod yX11_becomes ∈ wsL_law := ch_18 _ (List.mem_of_getElem? (i := 22) rfl)
theorem q_18_23 : Cond.selects RX11 yX11_becomes yX11_becomes ∈ wsL_law := ch_18 _ (List.mem_of_getElem? (i := 23) rfl)
theorem q_19_0 : Cond.code yX11_becomes cX11_becomes 4 (some .int) ∈ wsL_law := ch_19 _ (List.mem_of_getElem? (i := 0) rfl)
theorem q_19_1 : Cond.methodLink RL 44 yX10_delays ∈ wsL_law := ch_19 _ (List.mem_of_getElem? (i := 1) rfl)
theorem q_19_2 : Cond.instanceMethod yX10_delays ∈ wsL_law := ch_19 _ (List.mem_of_getElem? (i := 2) rfl)
theorem q_19_3 : Cond.selects RX10 yX10_delays yX10_delays ∈ wsL_law := ch_19 _ (List.mem_of_getElem? (i := 3) rfl)
theorem q_19_4 : Cond.code yX10_delays cX10_delays 3 (some .int) ∈ wsL_law := ch_19 _ (List.mem_of_getElem? (i := 4) rfl)
theorem q_19_5 : Cond.methodLink RL 47 yX11_delays ∈ wsL_law := ch_19 _ (List.mem_of_getElem? (i := 5) rfl)
theorem q_19_6 : Cond.instanceMethod yX11_delays ∈ wsL_law := ch_19 _ (List.mem_of_getElem? (i := 6) rfl)
theorem q_19_7 : Cond.selects RX11 yX11_delays yX11_delays ∈ wsL_law := ch_19 _ (List.mem_of_getElem? (i := 7) rfl)
theorem q_19_8 : Cond.code yX11_delays cX11_delays 2 (some .int) ∈ wsL_law := ch_19 _ (List.mem_of_getElem? (i := 8) rfl)
theorem q_19_9 : Cond.methodLink RL 48 yX10_undo ∈ wsL_law := ch_19 _ (List.mem_of_getElem? (i := 9) rfl)
theorem q_19_10 : Cond.instanceMethod yX10_undo ∈ wsL_law := ch_19 _ (List.mem_of_getElem? (i := 10) rfl)
theorem q_19_11 : Cond.selects RX10 yX10_undo yX10_undo ∈ wsL_law := ch_19 _ (List.mem_of_getElem? (i := 11) rfl)
theorem q_19_12 : Cond.code yX10_undo cX10_undo 1 (some .int) ∈ wsL_law := ch_19 _ (List.mem_of_getElem? (i := 12) rfl)
theorem q_19_13 : Cond.methodLink RX10 146 yX1_pop ∈ wsL_law := ch_19 _ (List.mem_of_getElem? (i := 13) rfl)
theorem q_19_14 : Cond.instanceMethod yX1_pop ∈ wsL_law := ch_19 _ (List.mem_of_getElem? (i := 14) rfl)
theorem q_19_15 : Cond.selects RX1 yX1_pop yX1_pop ∈ wsL_law := ch_19 _ (List.mem_of_getElem? (i := 15) rfl)
theorem q_19_16 : Cond.code yX1_pop cX1_pop 2 none ∈ wsL_law := ch_19 _ (List.mem_of_getElem? (i := 16) rfl)
theorem q_19_17 : Cond.methodLink RX1 37 yX6_take ∈ wsL_law := ch_19 _ (List.mem_of_getElem? (i := 17) rfl)
theorem q_19_18 : Cond.instanceMethod yX6_take ∈ wsL_law := ch_19 _ (List.mem_of_getElem? (i := 18) rfl)
theorem q_19_19 : Cond.selects RX6 yX6_take yX6_take ∈ wsL_law := ch_19 _ (List.mem_of_getElem? (i := 19) rfl)
theorem q_19_20 : Cond.code yX6_take cX6_take 5 none ∈ wsL_law := ch_19 _ (List.mem_of_getElem? (i := 20) rfl)
theorem q_19_21 : Cond.methodLink RX6 43 yX6_holds ∈ wsL_law := ch_19 _ (List.mem_of_getElem? (i := 21) rfl)
theorem q_19_22 : Cond.instanceMethod yX6_holds ∈ wsL_law := ch_19 _ (List.mem_of_getElem? (i := 22) rfl)
theorem q_19_23 : Cond.selects RX6 yX6_holds yX6_holds ∈ wsL_law := ch_19 _ (List.mem_of_getElem? (i := 23) rfl)
theorem q_20_0 : Cond.code yX6_holds cX6_holds 2 (some .boolean) ∈ wsL_law := ch_20 _ (List.mem_of_getElem? (i := 0) rfl)
theorem q_20_1 : Cond.static yX10_bitAt ∈ wsL_law := ch_20 _ (List.mem_of_getElem? (i := 1) rfl)
theorem q_20_2 : Cond.code yX10_bitAt cX10_bitAt 2 (some .int) ∈ wsL_law := ch_20 _ (List.mem_of_getElem? (i := 2) rfl)
theorem q_20_3 : Cond.methodLink RL 51 yX11_undo ∈ wsL_law := ch_20 _ (List.mem_of_getElem? (i := 3) rfl)
theorem q_20_4 : Cond.instanceMethod yX11_undo ∈ wsL_law := ch_20 _ (List.mem_of_getElem? (i := 4) rfl)
theorem q_20_5 : Cond.selects RX11 yX11_undo yX11_undo ∈ wsL_law := ch_20 _ (List.mem_of_getElem? (i := 5) rfl)
theorem q_20_6 : Cond.code yX11_undo cX11_undo 2 (some .int) ∈ wsL_law := ch_20 _ (List.mem_of_getElem? (i := 6) rfl)
theorem q_20_7 : Cond.methodLink RL 52 yX10_reading ∈ wsL_law := ch_20 _ (List.mem_of_getElem? (i := 7) rfl)
theorem q_20_8 : Cond.instanceMethod yX10_reading ∈ wsL_law := ch_20 _ (List.mem_of_getElem? (i := 8) rfl)
theorem q_20_9 : Cond.selects RX10 yX10_reading yX10_reading ∈ wsL_law := ch_20 _ (List.mem_of_getElem? (i := 9) rfl)
theorem q_20_10 : Cond.code yX10_reading cX10_reading 3 (some .int) ∈ wsL_law := ch_20 _ (List.mem_of_getElem? (i := 10) rfl)
theorem q_20_11 : Cond.methodLink RX10 149 yX9_refresh ∈ wsL_law := ch_20 _ (List.mem_of_getElem? (i := 11) rfl)
theorem q_20_12 : Cond.instanceMethod yX9_refresh ∈ wsL_law := ch_20 _ (List.mem_of_getElem? (i := 12) rfl)
theorem q_20_13 : Cond.selects RX9 yX9_refresh yX9_refresh ∈ wsL_law := ch_20 _ (List.mem_of_getElem? (i := 13) rfl)
theorem q_20_14 : Cond.code yX9_refresh cX9_refresh 1 none ∈ wsL_law := ch_20 _ (List.mem_of_getElem? (i := 14) rfl)
theorem q_20_15 : Cond.methodLink RX9 46 yX2_measureAll ∈ wsL_law := ch_20 _ (List.mem_of_getElem? (i := 15) rfl)
theorem q_20_16 : Cond.instanceMethod yX2_measureAll ∈ wsL_law := ch_20 _ (List.mem_of_getElem? (i := 16) rfl)
theorem q_20_17 : Cond.selects RX2 yX2_measureAll yX2_measureAll ∈ wsL_law := ch_20 _ (List.mem_of_getElem? (i := 17) rfl)
theorem q_20_18 : Cond.code yX2_measureAll cX2_measureAll 2 none ∈ wsL_law := ch_20 _ (List.mem_of_getElem? (i := 18) rfl)
theorem q_20_19 : Cond.methodLink RX2 31 yX3_isFirst ∈ wsL_law := ch_20 _ (List.mem_of_getElem? (i := 19) rfl)
theorem q_20_20 : Cond.instanceMethod yX3_isFirst ∈ wsL_law := ch_20 _ (List.mem_of_getElem? (i := 20) rfl)
theorem q_20_21 : Cond.selects RX3 yX3_isFirst yX3_isFirst ∈ wsL_law := ch_20 _ (List.mem_of_getElem? (i := 21) rfl)
theorem q_20_22 : Cond.code yX3_isFirst cX3_isFirst 2 (some .boolean) ∈ wsL_law := ch_20 _ (List.mem_of_getElem? (i := 22) rfl)
theorem q_20_23 : Cond.methodLink RX3 32 yX3_isKnown ∈ wsL_law := ch_20 _ (List.mem_of_getElem? (i := 23) rfl)
theorem q_21_0 : Cond.instanceMethod yX3_isKnown ∈ wsL_law := ch_21 _ (List.mem_of_getElem? (i := 0) rfl)
theorem q_21_1 : Cond.selects RX3 yX3_isKnown yX3_isKnown ∈ wsL_law := ch_21 _ (List.mem_of_getElem? (i := 1) rfl)
theorem q_21_2 : Cond.code yX3_isKnown cX3_isKnown 2 (some .boolean) ∈ wsL_law := ch_21 _ (List.mem_of_getElem? (i := 2) rfl)
theorem q_21_3 : Cond.methodLink RX2 35 yX3_isKnown ∈ wsL_law := ch_21 _ (List.mem_of_getElem? (i := 3) rfl)
theorem q_21_4 : Cond.methodLink RX2 38 yX2_measureNeedsFrom ∈ wsL_law := ch_21 _ (List.mem_of_getElem? (i := 4) rfl)
theorem q_21_5 : Cond.instanceMethod yX2_measureNeedsFrom ∈ wsL_law := ch_21 _ (List.mem_of_getElem? (i := 5) rfl)
theorem q_21_6 : Cond.selects RX2 yX2_measureNeedsFrom yX2_measureNeedsFrom ∈ wsL_law := ch_21 _ (List.mem_of_getElem? (i := 6) rfl)
theorem q_21_7 : Cond.code yX2_measureNeedsFrom cX2_measureNeedsFrom 6 none ∈ wsL_law := ch_21 _ (List.mem_of_getElem? (i := 7) rfl)
theorem q_21_8 : Cond.methodLink RX2 42 yX2_farthest ∈ wsL_law := ch_21 _ (List.mem_of_getElem? (i := 8) rfl)
theorem q_21_9 : Cond.instanceMethod yX2_farthest ∈ wsL_law := ch_21 _ (List.mem_of_getElem? (i := 9) rfl)
theorem q_21_10 : Cond.selects RX2 yX2_farthest yX2_farthest ∈ wsL_law := ch_21 _ (List.mem_of_getElem? (i := 10) rfl)
theorem q_21_11 : Cond.code yX2_farthest cX2_farthest 7 (some .int) ∈ wsL_law := ch_21 _ (List.mem_of_getElem? (i := 11) rfl)
theorem q_21_12 : Cond.methodLink RX2 49 yX2_offset ∈ wsL_law := ch_21 _ (List.mem_of_getElem? (i := 12) rfl)
theorem q_21_13 : Cond.instanceMethod yX2_offset ∈ wsL_law := ch_21 _ (List.mem_of_getElem? (i := 13) rfl)
theorem q_21_14 : Cond.selects RX2 yX2_offset yX2_offset ∈ wsL_law := ch_21 _ (List.mem_of_getElem? (i := 14) rfl)
theorem q_21_15 : Cond.code yX2_offset cX2_offset 6 (some .int) ∈ wsL_law := ch_21 _ (List.mem_of_getElem? (i := 15) rfl)
theorem q_21_16 : Cond.methodLink RX2 66 Lib.Math.abs.name ∈ wsL_law := ch_21 _ (List.mem_of_getElem? (i := 16) rfl)
theorem q_21_17 : Cond.static Lib.Math.abs.name ∈ wsL_law := ch_21 _ (List.mem_of_getElem? (i := 17) rfl)
theorem q_21_18 : Cond.code Lib.Math.abs.name Lib.Math.abs.code 1 (some .int) ∈ wsL_law := ch_21 _ (List.mem_of_getElem? (i := 18) rfl)
theorem q_21_19 : Cond.methodLink RX2 53 yX3_has ∈ wsL_law := ch_21 _ (List.mem_of_getElem? (i := 19) rfl)
theorem q_21_20 : Cond.methodLink RX2 46 yX2_span ∈ wsL_law := ch_21 _ (List.mem_of_getElem? (i := 20) rfl)
theorem q_21_21 : Cond.instanceMethod yX2_span ∈ wsL_law := ch_21 _ (List.mem_of_getElem? (i := 21) rfl)
theorem q_21_22 : Cond.selects RX2 yX2_span yX2_span ∈ wsL_law := ch_21 _ (List.mem_of_getElem? (i := 22) rfl)
theorem q_21_23 : Cond.code yX2_span cX2_span 3 (some .int) ∈ wsL_law := ch_21 _ (List.mem_of_getElem? (i := 23) rfl)
theorem q_22_0 : Cond.methodLink RX2 56 yX3_timeAt ∈ wsL_law := ch_22 _ (List.mem_of_getElem? (i := 0) rfl)
theorem q_22_1 : Cond.methodLink RX9 51 yX9_cutPieces ∈ wsL_law := ch_22 _ (List.mem_of_getElem? (i := 1) rfl)
theorem q_22_2 : Cond.instanceMethod yX9_cutPieces ∈ wsL_law := ch_22 _ (List.mem_of_getElem? (i := 2) rfl)
theorem q_22_3 : Cond.selects RX9 yX9_cutPieces yX9_cutPieces ∈ wsL_law := ch_22 _ (List.mem_of_getElem? (i := 3) rfl)
theorem q_22_4 : Cond.code yX9_cutPieces cX9_cutPieces 3 none ∈ wsL_law := ch_22 _ (List.mem_of_getElem? (i := 4) rfl)
theorem q_22_5 : Cond.methodLink RX9 77 yX3_isFirst ∈ wsL_law := ch_22 _ (List.mem_of_getElem? (i := 5) rfl)
theorem q_22_6 : Cond.methodLink RX9 80 yX3_isKnown ∈ wsL_law := ch_22 _ (List.mem_of_getElem? (i := 6) rfl)
theorem q_22_7 : Cond.methodLink RX9 83 yX9_fitsStrip ∈ wsL_law := ch_22 _ (List.mem_of_getElem? (i := 7) rfl)
theorem q_22_8 : Cond.instanceMethod yX9_fitsStrip ∈ wsL_law := ch_22 _ (List.mem_of_getElem? (i := 8) rfl)
theorem q_22_9 : Cond.selects RX9 yX9_fitsStrip yX9_fitsStrip ∈ wsL_law := ch_22 _ (List.mem_of_getElem? (i := 9) rfl)
theorem q_22_10 : Cond.code yX9_fitsStrip cX9_fitsStrip 4 (some .boolean) ∈ wsL_law := ch_22 _ (List.mem_of_getElem? (i := 10) rfl)
theorem q_22_11 : Cond.methodLink RX9 87 yX2_needOf ∈ wsL_law := ch_22 _ (List.mem_of_getElem? (i := 11) rfl)
theorem q_22_12 : Cond.instanceMethod yX2_needOf ∈ wsL_law := ch_22 _ (List.mem_of_getElem? (i := 12) rfl)
theorem q_22_13 : Cond.selects RX2 yX2_needOf yX2_needOf ∈ wsL_law := ch_22 _ (List.mem_of_getElem? (i := 13) rfl)
theorem q_22_14 : Cond.code yX2_needOf cX2_needOf 4 (some .int) ∈ wsL_law := ch_22 _ (List.mem_of_getElem? (i := 14) rfl)
theorem q_22_15 : Cond.methodLink RX9 59 yX9_swingDoor ∈ wsL_law := ch_22 _ (List.mem_of_getElem? (i := 15) rfl)
theorem q_22_16 : Cond.instanceMethod yX9_swingDoor ∈ wsL_law := ch_22 _ (List.mem_of_getElem? (i := 16) rfl)
theorem q_22_17 : Cond.selects RX9 yX9_swingDoor yX9_swingDoor ∈ wsL_law := ch_22 _ (List.mem_of_getElem? (i := 17) rfl)
theorem q_22_18 : Cond.code yX9_swingDoor cX9_swingDoor 5 (some .int) ∈ wsL_law := ch_22 _ (List.mem_of_getElem? (i := 18) rfl)
theorem q_22_19 : Cond.methodLink RX9 94 yX3_isLast ∈ wsL_law := ch_22 _ (List.mem_of_getElem? (i := 19) rfl)
theorem q_22_20 : Cond.instanceMethod yX3_isLast ∈ wsL_law := ch_22 _ (List.mem_of_getElem? (i := 20) rfl)
theorem q_22_21 : Cond.selects RX3 yX3_isLast yX3_isLast ∈ wsL_law := ch_22 _ (List.mem_of_getElem? (i := 21) rfl)
theorem q_22_22 : Cond.code yX3_isLast cX3_isLast 2 (some .boolean) ∈ wsL_law := ch_22 _ (List.mem_of_getElem? (i := 22) rfl)
theorem q_22_23 : Cond.methodLink RX9 63 yX9_sendKept ∈ wsL_law := ch_22 _ (List.mem_of_getElem? (i := 23) rfl)
theorem q_23_0 : Cond.instanceMethod yX9_sendKept ∈ wsL_law := ch_23 _ (List.mem_of_getElem? (i := 0) rfl)
theorem q_23_1 : Cond.selects RX9 yX9_sendKept yX9_sendKept ∈ wsL_law := ch_23 _ (List.mem_of_getElem? (i := 1) rfl)
theorem q_23_2 : Cond.code yX9_sendKept cX9_sendKept 4 none ∈ wsL_law := ch_23 _ (List.mem_of_getElem? (i := 2) rfl)
theorem q_23_3 : Cond.methodLink RX9 100 yX3_timeAt ∈ wsL_law := ch_23 _ (List.mem_of_getElem? (i := 3) rfl)
theorem q_23_4 : Cond.methodLink RX9 66 yX9_chooseLeast ∈ wsL_law := ch_23 _ (List.mem_of_getElem? (i := 4) rfl)
theorem q_23_5 : Cond.instanceMethod yX9_chooseLeast ∈ wsL_law := ch_23 _ (List.mem_of_getElem? (i := 5) rfl)
theorem q_23_6 : Cond.selects RX9 yX9_chooseLeast yX9_chooseLeast ∈ wsL_law := ch_23 _ (List.mem_of_getElem? (i := 6) rfl)
theorem q_23_7 : Cond.code yX9_chooseLeast cX9_chooseLeast 4 (some .int) ∈ wsL_law := ch_23 _ (List.mem_of_getElem? (i := 7) rfl)
theorem q_23_8 : Cond.methodLink RX9 111 Lib.Math.min.name ∈ wsL_law := ch_23 _ (List.mem_of_getElem? (i := 8) rfl)
theorem q_23_9 : Cond.methodLink RX9 114 yX9_chooseNext ∈ wsL_law := ch_23 _ (List.mem_of_getElem? (i := 9) rfl)
theorem q_23_10 : Cond.instanceMethod yX9_chooseNext ∈ wsL_law := ch_23 _ (List.mem_of_getElem? (i := 10) rfl)
theorem q_23_11 : Cond.selects RX9 yX9_chooseNext yX9_chooseNext ∈ wsL_law := ch_23 _ (List.mem_of_getElem? (i := 11) rfl)
theorem q_23_12 : Cond.code yX9_chooseNext cX9_chooseNext 4 none ∈ wsL_law := ch_23 _ (List.mem_of_getElem? (i := 12) rfl)
theorem q_23_13 : Cond.methodLink RX10 152 yX3_timeAt ∈ wsL_law := ch_23 _ (List.mem_of_getElem? (i := 13) rfl)
theorem q_23_14 : Cond.methodLink RX10 156 yX3_valueAt ∈ wsL_law := ch_23 _ (List.mem_of_getElem? (i := 14) rfl)
theorem q_23_15 : Cond.instanceMethod yX3_valueAt ∈ wsL_law := ch_23 _ (List.mem_of_getElem? (i := 15) rfl)
theorem q_23_16 : Cond.selects RX3 yX3_valueAt yX3_valueAt ∈ wsL_law := ch_23 _ (List.mem_of_getElem? (i := 16) rfl)
theorem q_23_17 : Cond.code yX3_valueAt cX3_valueAt 2 (some .int) ∈ wsL_law := ch_23 _ (List.mem_of_getElem? (i := 17) rfl)
theorem q_23_18 : Cond.methodLink RX10 159 yX2_stretchAt ∈ wsL_law := ch_23 _ (List.mem_of_getElem? (i := 18) rfl)
theorem q_23_19 : Cond.instanceMethod yX2_stretchAt ∈ wsL_law := ch_23 _ (List.mem_of_getElem? (i := 19) rfl)
theorem q_23_20 : Cond.selects RX2 yX2_stretchAt yX2_stretchAt ∈ wsL_law := ch_23 _ (List.mem_of_getElem? (i := 20) rfl)
theorem q_23_21 : Cond.code yX2_stretchAt cX2_stretchAt 2 (some .int) ∈ wsL_law := ch_23 _ (List.mem_of_getElem? (i := 21) rfl)
theorem q_23_22 : Cond.methodLink RX10 162 yX9_pieceAt ∈ wsL_law := ch_23 _ (List.mem_of_getElem? (i := 22) rfl)
theorem q_23_23 : Cond.instanceMethod yX9_pieceAt ∈ wsL_law := ch_23 _ (List.mem_of_getElem? (i := 23) rfl)
theorem q_24_0 : Cond.selects RX9 yX9_pieceAt yX9_pieceAt ∈ wsL_law := ch_24 _ (List.mem_of_getElem? (i := 0) rfl)
theorem q_24_1 : Cond.code yX9_pieceAt cX9_pieceAt 2 (some .int) ∈ wsL_law := ch_24 _ (List.mem_of_getElem? (i := 1) rfl)
theorem q_24_2 : Cond.methodLink RX9 70 yX3_has ∈ wsL_law := ch_24 _ (List.mem_of_getElem? (i := 2) rfl)
theorem q_24_3 : Cond.methodLink RX10 168 yX10_bitAt ∈ wsL_law := ch_24 _ (List.mem_of_getElem? (i := 3) rfl)
theorem q_24_4 : Cond.methodLink RX10 171 yX9_sentAt ∈ wsL_law := ch_24 _ (List.mem_of_getElem? (i := 4) rfl)
theorem q_24_5 : Cond.instanceMethod yX9_sentAt ∈ wsL_law := ch_24 _ (List.mem_of_getElem? (i := 5) rfl)
theorem q_24_6 : Cond.selects RX9 yX9_sentAt yX9_sentAt ∈ wsL_law := ch_24 _ (List.mem_of_getElem? (i := 6) rfl)
theorem q_24_7 : Cond.code yX9_sentAt cX9_sentAt 2 (some .int) ∈ wsL_law := ch_24 _ (List.mem_of_getElem? (i := 7) rfl)
theorem q_24_8 : Cond.methodLink RL 55 yX11_reading ∈ wsL_law := ch_24 _ (List.mem_of_getElem? (i := 8) rfl)
theorem q_24_9 : Cond.instanceMethod yX11_reading ∈ wsL_law := ch_24 _ (List.mem_of_getElem? (i := 9) rfl)
theorem q_24_10 : Cond.selects RX11 yX11_reading yX11_reading ∈ wsL_law := ch_24 _ (List.mem_of_getElem? (i := 10) rfl)
theorem q_24_11 : Cond.code yX11_reading cX11_reading 5 (some .int) ∈ wsL_law := ch_24 _ (List.mem_of_getElem? (i := 11) rfl)
theorem q_24_12 : Cond.methodLink RX11 130 yX11_isKnown ∈ wsL_law := ch_24 _ (List.mem_of_getElem? (i := 12) rfl)
theorem q_24_13 : Cond.instanceMethod yX11_isKnown ∈ wsL_law := ch_24 _ (List.mem_of_getElem? (i := 13) rfl)
theorem q_24_14 : Cond.selects RX11 yX11_isKnown yX11_isKnown ∈ wsL_law := ch_24 _ (List.mem_of_getElem? (i := 14) rfl)
theorem q_24_15 : Cond.code yX11_isKnown cX11_isKnown 2 (some .boolean) ∈ wsL_law := ch_24 _ (List.mem_of_getElem? (i := 15) rfl)
theorem q_24_16 : Cond.methodLink RX11 172 yX11_door ∈ wsL_law := ch_24 _ (List.mem_of_getElem? (i := 16) rfl)
theorem q_24_17 : Cond.instanceMethod yX11_door ∈ wsL_law := ch_24 _ (List.mem_of_getElem? (i := 17) rfl)
theorem q_24_18 : Cond.selects RX11 yX11_door yX11_door ∈ wsL_law := ch_24 _ (List.mem_of_getElem? (i := 18) rfl)
theorem q_24_19 : Cond.code yX11_door cX11_door 5 (some .int) ∈ wsL_law := ch_24 _ (List.mem_of_getElem? (i := 19) rfl)
theorem q_24_20 : Cond.methodLink RX11 133 yX11_isFirst ∈ wsL_law := ch_24 _ (List.mem_of_getElem? (i := 20) rfl)
theorem q_24_21 : Cond.instanceMethod yX11_isFirst ∈ wsL_law := ch_24 _ (List.mem_of_getElem? (i := 21) rfl)
theorem q_24_22 : Cond.selects RX11 yX11_isFirst yX11_isFirst ∈ wsL_law := ch_24 _ (List.mem_of_getElem? (i := 22) rfl)
theorem q_24_23 : Cond.code yX11_isFirst cX11_isFirst 2 (some .boolean) ∈ wsL_law := ch_24 _ (List.mem_of_getElem? (i := 23) rfl)
theorem q_25_0 : Cond.methodLink RX11 140 yX11_isLast ∈ wsL_law := ch_25 _ (List.mem_of_getElem? (i := 0) rfl)
theorem q_25_1 : Cond.instanceMethod yX11_isLast ∈ wsL_law := ch_25 _ (List.mem_of_getElem? (i := 1) rfl)
theorem q_25_2 : Cond.selects RX11 yX11_isLast yX11_isLast ∈ wsL_law := ch_25 _ (List.mem_of_getElem? (i := 2) rfl)
theorem q_25_3 : Cond.code yX11_isLast cX11_isLast 2 (some .boolean) ∈ wsL_law := ch_25 _ (List.mem_of_getElem? (i := 3) rfl)
theorem q_25_4 : Cond.methodLink RX11 146 yX11_doorFrom ∈ wsL_law := ch_25 _ (List.mem_of_getElem? (i := 4) rfl)
theorem q_25_5 : Cond.instanceMethod yX11_doorFrom ∈ wsL_law := ch_25 _ (List.mem_of_getElem? (i := 5) rfl)
theorem q_25_6 : Cond.selects RX11 yX11_doorFrom yX11_doorFrom ∈ wsL_law := ch_25 _ (List.mem_of_getElem? (i := 6) rfl)
theorem q_25_7 : Cond.code yX11_doorFrom cX11_doorFrom 4 (some .int) ∈ wsL_law := ch_25 _ (List.mem_of_getElem? (i := 7) rfl)
theorem q_25_8 : Cond.methodLink RX11 143 yX11_whyNot ∈ wsL_law := ch_25 _ (List.mem_of_getElem? (i := 8) rfl)
theorem q_25_9 : Cond.instanceMethod yX11_whyNot ∈ wsL_law := ch_25 _ (List.mem_of_getElem? (i := 9) rfl)
theorem q_25_10 : Cond.selects RX11 yX11_whyNot yX11_whyNot ∈ wsL_law := ch_25 _ (List.mem_of_getElem? (i := 10) rfl)
theorem q_25_11 : Cond.code yX11_whyNot cX11_whyNot 5 (some .int) ∈ wsL_law := ch_25 _ (List.mem_of_getElem? (i := 11) rfl)
theorem q_25_12 : Cond.methodLink RX11 136 yX11_apartBy ∈ wsL_law := ch_25 _ (List.mem_of_getElem? (i := 12) rfl)
theorem q_25_13 : Cond.instanceMethod yX11_apartBy ∈ wsL_law := ch_25 _ (List.mem_of_getElem? (i := 13) rfl)
theorem q_25_14 : Cond.selects RX11 yX11_apartBy yX11_apartBy ∈ wsL_law := ch_25 _ (List.mem_of_getElem? (i := 14) rfl)
theorem q_25_15 : Cond.code yX11_apartBy cX11_apartBy 6 (some .int) ∈ wsL_law := ch_25 _ (List.mem_of_getElem? (i := 15) rfl)
theorem q_25_16 : Cond.methodLink RX11 176 yX11_least ∈ wsL_law := ch_25 _ (List.mem_of_getElem? (i := 16) rfl)
theorem q_25_17 : Cond.instanceMethod yX11_least ∈ wsL_law := ch_25 _ (List.mem_of_getElem? (i := 17) rfl)
theorem q_25_18 : Cond.selects RX11 yX11_least yX11_least ∈ wsL_law := ch_25 _ (List.mem_of_getElem? (i := 18) rfl)
theorem q_25_19 : Cond.code yX11_least cX11_least 5 (some .int) ∈ wsL_law := ch_25 _ (List.mem_of_getElem? (i := 19) rfl)
theorem q_25_20 : Cond.methodLink RX11 180 yX11_pieces ∈ wsL_law := ch_25 _ (List.mem_of_getElem? (i := 20) rfl)
theorem q_25_21 : Cond.instanceMethod yX11_pieces ∈ wsL_law := ch_25 _ (List.mem_of_getElem? (i := 21) rfl)
theorem q_25_22 : Cond.selects RX11 yX11_pieces yX11_pieces ∈ wsL_law := ch_25 _ (List.mem_of_getElem? (i := 22) rfl)
theorem q_25_23 : Cond.code yX11_pieces cX11_pieces 5 (some .int) ∈ wsL_law := ch_25 _ (List.mem_of_getElem? (i := 23) rfl)
theorem q_26_0 : Cond.methodLink RX11 169 yX11_isStrip ∈ wsL_law := ch_26 _ (List.mem_of_getElem? (i := 0) rfl)
theorem q_26_1 : Cond.instanceMethod yX11_isStrip ∈ wsL_law := ch_26 _ (List.mem_of_getElem? (i := 1) rfl)
theorem q_26_2 : Cond.selects RX11 yX11_isStrip yX11_isStrip ∈ wsL_law := ch_26 _ (List.mem_of_getElem? (i := 2) rfl)
theorem q_26_3 : Cond.code yX11_isStrip cX11_isStrip 3 (some .boolean) ∈ wsL_law := ch_26 _ (List.mem_of_getElem? (i := 3) rfl)
theorem q_26_4 : Cond.fieldLink RX11 156 "ThinReadingsModel" "greatUpper" "J" ∈ wsL_law := ch_26 _ (List.mem_of_getElem? (i := 4) rfl)
theorem q_26_5 : Cond.fieldLink RX11 152 "ThinReadingsModel" "greatLower" "J" ∈ wsL_law := ch_26 _ (List.mem_of_getElem? (i := 5) rfl)
theorem q_26_6 : Cond.methodLink RX11 165 yX11_layStrip ∈ wsL_law := ch_26 _ (List.mem_of_getElem? (i := 6) rfl)
theorem q_26_7 : Cond.instanceMethod yX11_layStrip ∈ wsL_law := ch_26 _ (List.mem_of_getElem? (i := 7) rfl)
theorem q_26_8 : Cond.selects RX11 yX11_layStrip yX11_layStrip ∈ wsL_law := ch_26 _ (List.mem_of_getElem? (i := 8) rfl)
theorem q_26_9 : Cond.code yX11_layStrip cX11_layStrip 6 none ∈ wsL_law := ch_26 _ (List.mem_of_getElem? (i := 9) rfl)
theorem q_26_10 : Cond.constantLong RX11 159 (2) ∈ wsL_law := ch_26 _ (List.mem_of_getElem? (i := 10) rfl)
theorem q_26_11 : Cond.methodLink RX11 161 yX11_greater ∈ wsL_law := ch_26 _ (List.mem_of_getElem? (i := 11) rfl)
theorem q_26_12 : Cond.instanceMethod yX11_greater ∈ wsL_law := ch_26 _ (List.mem_of_getElem? (i := 12) rfl)
theorem q_26_13 : Cond.selects RX11 yX11_greater yX11_greater ∈ wsL_law := ch_26 _ (List.mem_of_getElem? (i := 13) rfl)
theorem q_26_14 : Cond.code yX11_greater cX11_greater 5 none ∈ wsL_law := ch_26 _ (List.mem_of_getElem? (i := 14) rfl)
theorem q_26_15 : Cond.methodLink RX11 183 yX11_stretchOf ∈ wsL_law := ch_26 _ (List.mem_of_getElem? (i := 15) rfl)
theorem q_26_16 : Cond.instanceMethod yX11_stretchOf ∈ wsL_law := ch_26 _ (List.mem_of_getElem? (i := 16) rfl)
theorem q_26_17 : Cond.selects RX11 yX11_stretchOf yX11_stretchOf ∈ wsL_law := ch_26 _ (List.mem_of_getElem? (i := 17) rfl)
theorem q_26_18 : Cond.code yX11_stretchOf cX11_stretchOf 4 (some .int) ∈ wsL_law := ch_26 _ (List.mem_of_getElem? (i := 18) rfl)
theorem q_26_19 : Cond.methodLink RX11 186 yX11_bits ∈ wsL_law := ch_26 _ (List.mem_of_getElem? (i := 19) rfl)
theorem q_26_20 : Cond.static yX11_bits ∈ wsL_law := ch_26 _ (List.mem_of_getElem? (i := 20) rfl)
theorem q_26_21 : Cond.code yX11_bits cX11_bits 3 (some .int) ∈ wsL_law := ch_26 _ (List.mem_of_getElem? (i := 21) rfl)
theorem q_26_22 : Cond.methodLink RX11 189 yX11_sentAt ∈ wsL_law := ch_26 _ (List.mem_of_getElem? (i := 22) rfl)
theorem q_26_23 : Cond.instanceMethod yX11_sentAt ∈ wsL_law := ch_26 _ (List.mem_of_getElem? (i := 23) rfl)
theorem q_27_0 : Cond.selects RX11 yX11_sentAt yX11_sentAt ∈ wsL_law := ch_27 _ (List.mem_of_getElem? (i := 0) rfl)
theorem q_27_1 : Cond.code yX11_sentAt cX11_sentAt 4 (some .int) ∈ wsL_law := ch_27 _ (List.mem_of_getElem? (i := 1) rfl)
theorem q_27_2 : Cond.methodLink RX11 149 yX11_keptAhead ∈ wsL_law := ch_27 _ (List.mem_of_getElem? (i := 2) rfl)
theorem q_27_3 : Cond.instanceMethod yX11_keptAhead ∈ wsL_law := ch_27 _ (List.mem_of_getElem? (i := 3) rfl)
theorem q_27_4 : Cond.selects RX11 yX11_keptAhead yX11_keptAhead ∈ wsL_law := ch_27 _ (List.mem_of_getElem? (i := 4) rfl)
theorem q_27_5 : Cond.code yX11_keptAhead cX11_keptAhead 4 (some .int) ∈ wsL_law := ch_27 _ (List.mem_of_getElem? (i := 5) rfl)
theorem q_27_6 : Cond.methodLink RL 56 yX10_apart ∈ wsL_law := ch_27 _ (List.mem_of_getElem? (i := 6) rfl)
theorem q_27_7 : Cond.instanceMethod yX10_apart ∈ wsL_law := ch_27 _ (List.mem_of_getElem? (i := 7) rfl)
theorem q_27_8 : Cond.selects RX10 yX10_apart yX10_apart ∈ wsL_law := ch_27 _ (List.mem_of_getElem? (i := 8) rfl)
theorem q_27_9 : Cond.code yX10_apart cX10_apart 5 (some .int) ∈ wsL_law := ch_27 _ (List.mem_of_getElem? (i := 9) rfl)
theorem q_27_10 : Cond.methodLink RX10 177 yX10_isLine ∈ wsL_law := ch_27 _ (List.mem_of_getElem? (i := 10) rfl)
theorem q_27_11 : Cond.instanceMethod yX10_isLine ∈ wsL_law := ch_27 _ (List.mem_of_getElem? (i := 11) rfl)
theorem q_27_12 : Cond.selects RX10 yX10_isLine yX10_isLine ∈ wsL_law := ch_27 _ (List.mem_of_getElem? (i := 12) rfl)
theorem q_27_13 : Cond.code yX10_isLine cX10_isLine 3 (some .boolean) ∈ wsL_law := ch_27 _ (List.mem_of_getElem? (i := 13) rfl)
theorem q_27_14 : Cond.methodLink RX10 201 yX3_isKnown ∈ wsL_law := ch_27 _ (List.mem_of_getElem? (i := 14) rfl)
theorem q_27_15 : Cond.methodLink RX10 181 yX2_farthest ∈ wsL_law := ch_27 _ (List.mem_of_getElem? (i := 15) rfl)
theorem q_27_16 : Cond.methodLink RX10 184 yX2_offset ∈ wsL_law := ch_27 _ (List.mem_of_getElem? (i := 16) rfl)
theorem q_27_17 : Cond.methodLink RX10 188 yX2_span ∈ wsL_law := ch_27 _ (List.mem_of_getElem? (i := 17) rfl)
theorem q_27_18 : Cond.methodLink RX10 191 yX0_assign ∈ wsL_law := ch_27 _ (List.mem_of_getElem? (i := 18) rfl)
theorem q_27_19 : Cond.instanceMethod yX0_assign ∈ wsL_law := ch_27 _ (List.mem_of_getElem? (i := 19) rfl)
theorem q_27_20 : Cond.selects RX0 yX0_assign yX0_assign ∈ wsL_law := ch_27 _ (List.mem_of_getElem? (i := 20) rfl)
theorem q_27_21 : Cond.code yX0_assign cX0_assign 4 none ∈ wsL_law := ch_27 _ (List.mem_of_getElem? (i := 21) rfl)
theorem q_27_22 : Cond.methodLink RX0 16 yX0_commonDivisor ∈ wsL_law := ch_27 _ (List.mem_of_getElem? (i := 22) rfl)
theorem q_27_23 : Cond.static yX0_commonDivisor ∈ wsL_law := ch_27 _ (List.mem_of_getElem? (i := 23) rfl)
theorem q_28_0 : Cond.code yX0_commonDivisor cX0_commonDivisor 6 (some .int) ∈ wsL_law := ch_28 _ (List.mem_of_getElem? (i := 0) rfl)
theorem q_28_1 : Cond.methodLink RX10 195 yX0_part ∈ wsL_law := ch_28 _ (List.mem_of_getElem? (i := 1) rfl)
theorem q_28_2 : Cond.instanceMethod yX0_part ∈ wsL_law := ch_28 _ (List.mem_of_getElem? (i := 2) rfl)
theorem q_28_3 : Cond.selects RX0 yX0_part yX0_part ∈ wsL_law := ch_28 _ (List.mem_of_getElem? (i := 3) rfl)
theorem q_28_4 : Cond.code yX0_part cX0_part 2 (some .int) ∈ wsL_law := ch_28 _ (List.mem_of_getElem? (i := 4) rfl)
theorem q_28_5 : Cond.methodLink RL 60 yX11_apart ∈ wsL_law := ch_28 _ (List.mem_of_getElem? (i := 5) rfl)
theorem q_28_6 : Cond.instanceMethod yX11_apart ∈ wsL_law := ch_28 _ (List.mem_of_getElem? (i := 6) rfl)
theorem q_28_7 : Cond.selects RX11 yX11_apart yX11_apart ∈ wsL_law := ch_28 _ (List.mem_of_getElem? (i := 7) rfl)
theorem q_28_8 : Cond.code yX11_apart cX11_apart 8 (some .int) ∈ wsL_law := ch_28 _ (List.mem_of_getElem? (i := 8) rfl)
theorem q_28_9 : Cond.methodLink RX11 192 yX11_isSide ∈ wsL_law := ch_28 _ (List.mem_of_getElem? (i := 9) rfl)
theorem q_28_10 : Cond.instanceMethod yX11_isSide ∈ wsL_law := ch_28 _ (List.mem_of_getElem? (i := 10) rfl)
theorem q_28_11 : Cond.selects RX11 yX11_isSide yX11_isSide ∈ wsL_law := ch_28 _ (List.mem_of_getElem? (i := 11) rfl)
theorem q_28_12 : Cond.code yX11_isSide cX11_isSide 3 (some .boolean) ∈ wsL_law := ch_28 _ (List.mem_of_getElem? (i := 12) rfl)
theorem q_28_13 : Cond.methodLink RX11 195 yX11_lowest ∈ wsL_law := ch_28 _ (List.mem_of_getElem? (i := 13) rfl)
theorem q_28_14 : Cond.static yX11_lowest ∈ wsL_law := ch_28 _ (List.mem_of_getElem? (i := 14) rfl)
theorem q_28_15 : Cond.code yX11_lowest cX11_lowest 11 (some .int) ∈ wsL_law := ch_28 _ (List.mem_of_getElem? (i := 15) rfl)
theorem q_28_16 : Cond.methodLink RL 61 yX10_why ∈ wsL_law := ch_28 _ (List.mem_of_getElem? (i := 16) rfl)
theorem q_28_17 : Cond.instanceMethod yX10_why ∈ wsL_law := ch_28 _ (List.mem_of_getElem? (i := 17) rfl)
theorem q_28_18 : Cond.selects RX10 yX10_why yX10_why ∈ wsL_law := ch_28 _ (List.mem_of_getElem? (i := 18) rfl)
theorem q_28_19 : Cond.code yX10_why cX10_why 3 (some .int) ∈ wsL_law := ch_28 _ (List.mem_of_getElem? (i := 19) rfl)
theorem q_28_20 : Cond.methodLink RX10 198 yX2_firstBeyond ∈ wsL_law := ch_28 _ (List.mem_of_getElem? (i := 20) rfl)
theorem q_28_21 : Cond.instanceMethod yX2_firstBeyond ∈ wsL_law := ch_28 _ (List.mem_of_getElem? (i := 21) rfl)
theorem q_28_22 : Cond.selects RX2 yX2_firstBeyond yX2_firstBeyond ∈ wsL_law := ch_28 _ (List.mem_of_getElem? (i := 22) rfl)
theorem q_28_23 : Cond.code yX2_firstBeyond cX2_firstBeyond 6 (some .int) ∈ wsL_law := ch_28 _ (List.mem_of_getElem? (i := 23) rfl)
theorem q_29_0 : Cond.methodLink RL 64 yX11_why ∈ wsL_law := ch_29 _ (List.mem_of_getElem? (i := 0) rfl)
theorem q_29_1 : Cond.instanceMethod yX11_why ∈ wsL_law := ch_29 _ (List.mem_of_getElem? (i := 1) rfl)
theorem q_29_2 : Cond.selects RX11 yX11_why yX11_why ∈ wsL_law := ch_29 _ (List.mem_of_getElem? (i := 2) rfl)
theorem q_29_3 : Cond.code yX11_why cX11_why 3 (some .int) ∈ wsL_law := ch_29 _ (List.mem_of_getElem? (i := 3) rfl)
theorem q_29_4 : Cond.methodLink RL 65 yX10_strip ∈ wsL_law := ch_29 _ (List.mem_of_getElem? (i := 4) rfl)
theorem q_29_5 : Cond.instanceMethod yX10_strip ∈ wsL_law := ch_29 _ (List.mem_of_getElem? (i := 5) rfl)
theorem q_29_6 : Cond.selects RX10 yX10_strip yX10_strip ∈ wsL_law := ch_29 _ (List.mem_of_getElem? (i := 6) rfl)
theorem q_29_7 : Cond.code yX10_strip cX10_strip 5 (some .int) ∈ wsL_law := ch_29 _ (List.mem_of_getElem? (i := 7) rfl)
theorem q_29_8 : Cond.methodLink RX10 204 yX2_measureStrip ∈ wsL_law := ch_29 _ (List.mem_of_getElem? (i := 8) rfl)
theorem q_29_9 : Cond.instanceMethod yX2_measureStrip ∈ wsL_law := ch_29 _ (List.mem_of_getElem? (i := 9) rfl)
theorem q_29_10 : Cond.selects RX2 yX2_measureStrip yX2_measureStrip ∈ wsL_law := ch_29 _ (List.mem_of_getElem? (i := 10) rfl)
theorem q_29_11 : Cond.code yX2_measureStrip cX2_measureStrip 8 none ∈ wsL_law := ch_29 _ (List.mem_of_getElem? (i := 11) rfl)
theorem q_29_12 : Cond.methodLink RX2 71 yX0_assign ∈ wsL_law := ch_29 _ (List.mem_of_getElem? (i := 12) rfl)
theorem q_29_13 : Cond.methodLink RX2 77 yX0_isBelow ∈ wsL_law := ch_29 _ (List.mem_of_getElem? (i := 13) rfl)
theorem q_29_14 : Cond.instanceMethod yX0_isBelow ∈ wsL_law := ch_29 _ (List.mem_of_getElem? (i := 14) rfl)
theorem q_29_15 : Cond.selects RX0 yX0_isBelow yX0_isBelow ∈ wsL_law := ch_29 _ (List.mem_of_getElem? (i := 15) rfl)
theorem q_29_16 : Cond.code yX0_isBelow cX0_isBelow 3 (some .boolean) ∈ wsL_law := ch_29 _ (List.mem_of_getElem? (i := 16) rfl)
theorem q_29_17 : Cond.methodLink RL 68 yX11_strip ∈ wsL_law := ch_29 _ (List.mem_of_getElem? (i := 17) rfl)
theorem q_29_18 : Cond.instanceMethod yX11_strip ∈ wsL_law := ch_29 _ (List.mem_of_getElem? (i := 18) rfl)
theorem q_29_19 : Cond.selects RX11 yX11_strip yX11_strip ∈ wsL_law := ch_29 _ (List.mem_of_getElem? (i := 19) rfl)
theorem q_29_20 : Cond.code yX11_strip cX11_strip 4 (some .int) ∈ wsL_law := ch_29 _ (List.mem_of_getElem? (i := 20) rfl)
theorem q_29_21 : Cond.methodLink RL 69 yX10_told ∈ wsL_law := ch_29 _ (List.mem_of_getElem? (i := 21) rfl)
theorem q_29_22 : Cond.instanceMethod yX10_told ∈ wsL_law := ch_29 _ (List.mem_of_getElem? (i := 22) rfl)
theorem q_29_23 : Cond.selects RX10 yX10_told yX10_told ∈ wsL_law := ch_29 _ (List.mem_of_getElem? (i := 23) rfl)
theorem q_30_0 : Cond.code yX10_told cX10_told 7 (some .int) ∈ wsL_law := ch_30 _ (List.mem_of_getElem? (i := 0) rfl)
theorem q_30_1 : Cond.methodLink RX10 208 yX3_lastUpTo ∈ wsL_law := ch_30 _ (List.mem_of_getElem? (i := 1) rfl)
theorem q_30_2 : Cond.instanceMethod yX3_lastUpTo ∈ wsL_law := ch_30 _ (List.mem_of_getElem? (i := 2) rfl)
theorem q_30_3 : Cond.selects RX3 yX3_lastUpTo yX3_lastUpTo ∈ wsL_law := ch_30 _ (List.mem_of_getElem? (i := 3) rfl)
theorem q_30_4 : Cond.code yX3_lastUpTo cX3_lastUpTo 5 (some .int) ∈ wsL_law := ch_30 _ (List.mem_of_getElem? (i := 4) rfl)
theorem q_30_5 : Cond.methodLink RX10 211 yX3_firstFrom ∈ wsL_law := ch_30 _ (List.mem_of_getElem? (i := 5) rfl)
theorem q_30_6 : Cond.instanceMethod yX3_firstFrom ∈ wsL_law := ch_30 _ (List.mem_of_getElem? (i := 6) rfl)
theorem q_30_7 : Cond.selects RX3 yX3_firstFrom yX3_firstFrom ∈ wsL_law := ch_30 _ (List.mem_of_getElem? (i := 7) rfl)
theorem q_30_8 : Cond.code yX3_firstFrom cX3_firstFrom 4 (some .int) ∈ wsL_law := ch_30 _ (List.mem_of_getElem? (i := 8) rfl)
theorem q_30_9 : Cond.methodLink RX10 214 yX2_measureValue ∈ wsL_law := ch_30 _ (List.mem_of_getElem? (i := 9) rfl)
theorem q_30_10 : Cond.instanceMethod yX2_measureValue ∈ wsL_law := ch_30 _ (List.mem_of_getElem? (i := 10) rfl)
theorem q_30_11 : Cond.selects RX2 yX2_measureValue yX2_measureValue ∈ wsL_law := ch_30 _ (List.mem_of_getElem? (i := 11) rfl)
theorem q_30_12 : Cond.code yX2_measureValue cX2_measureValue 8 none ∈ wsL_law := ch_30 _ (List.mem_of_getElem? (i := 12) rfl)
theorem q_30_13 : Cond.methodLink RX2 81 yX3_valueAt ∈ wsL_law := ch_30 _ (List.mem_of_getElem? (i := 13) rfl)
theorem q_30_14 : Cond.methodLink RL 72 yX11_told ∈ wsL_law := ch_30 _ (List.mem_of_getElem? (i := 14) rfl)
theorem q_30_15 : Cond.instanceMethod yX11_told ∈ wsL_law := ch_30 _ (List.mem_of_getElem? (i := 15) rfl)
theorem q_30_16 : Cond.selects RX11 yX11_told yX11_told ∈ wsL_law := ch_30 _ (List.mem_of_getElem? (i := 16) rfl)
theorem q_30_17 : Cond.code yX11_told cX11_told 9 (some .int) ∈ wsL_law := ch_30 _ (List.mem_of_getElem? (i := 17) rfl)
theorem q_30_18 : Cond.methodLink RL 73 yX10_sees ∈ wsL_law := ch_30 _ (List.mem_of_getElem? (i := 18) rfl)
theorem q_30_19 : Cond.instanceMethod yX10_sees ∈ wsL_law := ch_30 _ (List.mem_of_getElem? (i := 19) rfl)
theorem q_30_20 : Cond.selects RX10 yX10_sees yX10_sees ∈ wsL_law := ch_30 _ (List.mem_of_getElem? (i := 20) rfl)
theorem q_30_21 : Cond.code yX10_sees cX10_sees 3 (some .int) ∈ wsL_law := ch_30 _ (List.mem_of_getElem? (i := 21) rfl)
theorem q_30_22 : Cond.methodLink RX10 218 yX5_isFull ∈ wsL_law := ch_30 _ (List.mem_of_getElem? (i := 22) rfl)
theorem q_30_23 : Cond.instanceMethod yX5_isFull ∈ wsL_law := ch_30 _ (List.mem_of_getElem? (i := 23) rfl)
theorem q_31_0 : Cond.selects RX5 yX5_isFull yX5_isFull ∈ wsL_law := ch_31 _ (List.mem_of_getElem? (i := 0) rfl)
theorem q_31_1 : Cond.code yX5_isFull cX5_isFull 1 (some .boolean) ∈ wsL_law := ch_31 _ (List.mem_of_getElem? (i := 1) rfl)
theorem q_31_2 : Cond.methodLink RX10 219 yX5_put ∈ wsL_law := ch_31 _ (List.mem_of_getElem? (i := 2) rfl)
theorem q_31_3 : Cond.instanceMethod yX5_put ∈ wsL_law := ch_31 _ (List.mem_of_getElem? (i := 3) rfl)
theorem q_31_4 : Cond.selects RX5 yX5_put yX5_put ∈ wsL_law := ch_31 _ (List.mem_of_getElem? (i := 4) rfl)
theorem q_31_5 : Cond.code yX5_put cX5_put 3 (some .int) ∈ wsL_law := ch_31 _ (List.mem_of_getElem? (i := 5) rfl)
theorem q_31_6 : Cond.methodLink RL 76 yX11_sees ∈ wsL_law := ch_31 _ (List.mem_of_getElem? (i := 6) rfl)
theorem q_31_7 : Cond.instanceMethod yX11_sees ∈ wsL_law := ch_31 _ (List.mem_of_getElem? (i := 7) rfl)
theorem q_31_8 : Cond.selects RX11 yX11_sees yX11_sees ∈ wsL_law := ch_31 _ (List.mem_of_getElem? (i := 8) rfl)
theorem q_31_9 : Cond.code yX11_sees cX11_sees 3 (some .int) ∈ wsL_law := ch_31 _ (List.mem_of_getElem? (i := 9) rfl)
theorem q_31_10 : Cond.methodLink RL 77 yX10_forget ∈ wsL_law := ch_31 _ (List.mem_of_getElem? (i := 10) rfl)
theorem q_31_11 : Cond.instanceMethod yX10_forget ∈ wsL_law := ch_31 _ (List.mem_of_getElem? (i := 11) rfl)
theorem q_31_12 : Cond.selects RX10 yX10_forget yX10_forget ∈ wsL_law := ch_31 _ (List.mem_of_getElem? (i := 12) rfl)
theorem q_31_13 : Cond.code yX10_forget cX10_forget 1 (some .int) ∈ wsL_law := ch_31 _ (List.mem_of_getElem? (i := 13) rfl)
theorem q_31_14 : Cond.methodLink RL 80 yX11_forget ∈ wsL_law := ch_31 _ (List.mem_of_getElem? (i := 14) rfl)
theorem q_31_15 : Cond.instanceMethod yX11_forget ∈ wsL_law := ch_31 _ (List.mem_of_getElem? (i := 15) rfl)
theorem q_31_16 : Cond.selects RX11 yX11_forget yX11_forget ∈ wsL_law := ch_31 _ (List.mem_of_getElem? (i := 16) rfl)
theorem q_31_17 : Cond.code yX11_forget cX11_forget 2 (some .int) ∈ wsL_law := ch_31 _ (List.mem_of_getElem? (i := 17) rfl)
theorem q_31_18 : Cond.methodLink RL 81 yX10_unseen ∈ wsL_law := ch_31 _ (List.mem_of_getElem? (i := 18) rfl)
theorem q_31_19 : Cond.instanceMethod yX10_unseen ∈ wsL_law := ch_31 _ (List.mem_of_getElem? (i := 19) rfl)
theorem q_31_20 : Cond.selects RX10 yX10_unseen yX10_unseen ∈ wsL_law := ch_31 _ (List.mem_of_getElem? (i := 20) rfl)
theorem q_31_21 : Cond.code yX10_unseen cX10_unseen 2 (some .int) ∈ wsL_law := ch_31 _ (List.mem_of_getElem? (i := 21) rfl)
theorem q_31_22 : Cond.methodLink RX10 221 yX7_run ∈ wsL_law := ch_31 _ (List.mem_of_getElem? (i := 22) rfl)
theorem q_31_23 : Cond.instanceMethod yX7_run ∈ wsL_law := ch_31 _ (List.mem_of_getElem? (i := 23) rfl)
theorem q_32_0 : Cond.selects RX7 yX7_run yX7_run ∈ wsL_law := ch_32 _ (List.mem_of_getElem? (i := 0) rfl)
theorem q_32_1 : Cond.code yX7_run cX7_run 2 none ∈ wsL_law := ch_32 _ (List.mem_of_getElem? (i := 1) rfl)
theorem q_32_2 : Cond.methodLink RX7 41 yX7_swingAllDoors ∈ wsL_law := ch_32 _ (List.mem_of_getElem? (i := 2) rfl)
theorem q_32_3 : Cond.instanceMethod yX7_swingAllDoors ∈ wsL_law := ch_32 _ (List.mem_of_getElem? (i := 3) rfl)
theorem q_32_4 : Cond.selects RX7 yX7_swingAllDoors yX7_swingAllDoors ∈ wsL_law := ch_32 _ (List.mem_of_getElem? (i := 4) rfl)
theorem q_32_5 : Cond.code yX7_swingAllDoors cX7_swingAllDoors 2 none ∈ wsL_law := ch_32 _ (List.mem_of_getElem? (i := 5) rfl)
theorem q_32_6 : Cond.methodLink RX7 50 yX9_swingDoor ∈ wsL_law := ch_32 _ (List.mem_of_getElem? (i := 6) rfl)
theorem q_32_7 : Cond.methodLink RX7 44 yX5_agreesWith ∈ wsL_law := ch_32 _ (List.mem_of_getElem? (i := 7) rfl)
theorem q_32_8 : Cond.instanceMethod yX5_agreesWith ∈ wsL_law := ch_32 _ (List.mem_of_getElem? (i := 8) rfl)
theorem q_32_9 : Cond.selects RX5 yX5_agreesWith yX5_agreesWith ∈ wsL_law := ch_32 _ (List.mem_of_getElem? (i := 9) rfl)
theorem q_32_10 : Cond.code yX5_agreesWith cX5_agreesWith 2 (some .boolean) ∈ wsL_law := ch_32 _ (List.mem_of_getElem? (i := 10) rfl)
theorem q_32_11 : Cond.methodLink RL 84 yX11_unseen ∈ wsL_law := ch_32 _ (List.mem_of_getElem? (i := 11) rfl)
theorem q_32_12 : Cond.instanceMethod yX11_unseen ∈ wsL_law := ch_32 _ (List.mem_of_getElem? (i := 12) rfl)
theorem q_32_13 : Cond.selects RX11 yX11_unseen yX11_unseen ∈ wsL_law := ch_32 _ (List.mem_of_getElem? (i := 13) rfl)
theorem q_32_14 : Cond.code yX11_unseen cX11_unseen 6 (some .int) ∈ wsL_law := ch_32 _ (List.mem_of_getElem? (i := 14) rfl)
theorem q_32_15 : Cond.methodLink RX11 199 yX11_layUnseen ∈ wsL_law := ch_32 _ (List.mem_of_getElem? (i := 15) rfl)
theorem q_32_16 : Cond.instanceMethod yX11_layUnseen ∈ wsL_law := ch_32 _ (List.mem_of_getElem? (i := 16) rfl)
theorem q_32_17 : Cond.selects RX11 yX11_layUnseen yX11_layUnseen ∈ wsL_law := ch_32 _ (List.mem_of_getElem? (i := 17) rfl)
theorem q_32_18 : Cond.code yX11_layUnseen cX11_layUnseen 5 (some .int) ∈ wsL_law := ch_32 _ (List.mem_of_getElem? (i := 18) rfl)
theorem q_32_19 : Cond.methodLink RL 85 yX10_ask ∈ wsL_law := ch_32 _ (List.mem_of_getElem? (i := 19) rfl)
theorem q_32_20 : Cond.instanceMethod yX10_ask ∈ wsL_law := ch_32 _ (List.mem_of_getElem? (i := 20) rfl)
theorem q_32_21 : Cond.selects RX10 yX10_ask yX10_ask ∈ wsL_law := ch_32 _ (List.mem_of_getElem? (i := 21) rfl)
theorem q_32_22 : Cond.code yX10_ask cX10_ask 1 (some .int) ∈ wsL_law := ch_32 _ (List.mem_of_getElem? (i := 22) rfl)
theorem q_32_23 : Cond.methodLink RX10 233 yX7_bestReading ∈ wsL_law := ch_32 _ (List.mem_of_getElem? (i := 23) rfl)
theorem q_33_0 : Cond.instanceMethod yX7_bestReading ∈ wsL_law := ch_33 _ (List.mem_of_getElem? (i := 0) rfl)
theorem q_33_1 : Cond.selects RX7 yX7_bestReading yX7_bestReading ∈ wsL_law := ch_33 _ (List.mem_of_getElem? (i := 1) rfl)
theorem q_33_2 : Cond.code yX7_bestReading cX7_bestReading 6 (some .int) ∈ wsL_law := ch_33 _ (List.mem_of_getElem? (i := 2) rfl)
theorem q_33_3 : Cond.methodLink RX7 64 Lib.Math.max.name ∈ wsL_law := ch_33 _ (List.mem_of_getElem? (i := 3) rfl)
theorem q_33_4 : Cond.static Lib.Math.max.name ∈ wsL_law := ch_33 _ (List.mem_of_getElem? (i := 4) rfl)
theorem q_33_5 : Cond.code Lib.Math.max.name Lib.Math.max.code 2 (some .int) ∈ wsL_law := ch_33 _ (List.mem_of_getElem? (i := 5) rfl)
theorem q_33_6 : Cond.methodLink RX7 61 yX7_countKept ∈ wsL_law := ch_33 _ (List.mem_of_getElem? (i := 6) rfl)
theorem q_33_7 : Cond.instanceMethod yX7_countKept ∈ wsL_law := ch_33 _ (List.mem_of_getElem? (i := 7) rfl)
theorem q_33_8 : Cond.selects RX7 yX7_countKept yX7_countKept ∈ wsL_law := ch_33 _ (List.mem_of_getElem? (i := 8) rfl)
theorem q_33_9 : Cond.code yX7_countKept cX7_countKept 4 (some .int) ∈ wsL_law := ch_33 _ (List.mem_of_getElem? (i := 9) rfl)
theorem q_33_10 : Cond.methodLink RX7 70 yX3_isKnown ∈ wsL_law := ch_33 _ (List.mem_of_getElem? (i := 10) rfl)
theorem q_33_11 : Cond.methodLink RL 88 yX11_ask ∈ wsL_law := ch_33 _ (List.mem_of_getElem? (i := 11) rfl)
theorem q_33_12 : Cond.instanceMethod yX11_ask ∈ wsL_law := ch_33 _ (List.mem_of_getElem? (i := 12) rfl)
theorem q_33_13 : Cond.selects RX11 yX11_ask yX11_ask ∈ wsL_law := ch_33 _ (List.mem_of_getElem? (i := 13) rfl)
theorem q_33_14 : Cond.code yX11_ask cX11_ask 8 (some .int) ∈ wsL_law := ch_33 _ (List.mem_of_getElem? (i := 14) rfl)
theorem q_33_15 : Cond.methodLink RL 89 yX10_keep ∈ wsL_law := ch_33 _ (List.mem_of_getElem? (i := 15) rfl)
theorem q_33_16 : Cond.instanceMethod yX10_keep ∈ wsL_law := ch_33 _ (List.mem_of_getElem? (i := 16) rfl)
theorem q_33_17 : Cond.selects RX10 yX10_keep yX10_keep ∈ wsL_law := ch_33 _ (List.mem_of_getElem? (i := 17) rfl)
theorem q_33_18 : Cond.code yX10_keep cX10_keep 2 (some .int) ∈ wsL_law := ch_33 _ (List.mem_of_getElem? (i := 18) rfl)
theorem q_33_19 : Cond.methodLink RX10 236 yX6_put ∈ wsL_law := ch_33 _ (List.mem_of_getElem? (i := 19) rfl)
theorem q_33_20 : Cond.methodLink RL 92 yX11_keep ∈ wsL_law := ch_33 _ (List.mem_of_getElem? (i := 20) rfl)
theorem q_33_21 : Cond.instanceMethod yX11_keep ∈ wsL_law := ch_33 _ (List.mem_of_getElem? (i := 21) rfl)
theorem q_33_22 : Cond.selects RX11 yX11_keep yX11_keep ∈ wsL_law := ch_33 _ (List.mem_of_getElem? (i := 22) rfl)
theorem q_33_23 : Cond.code yX11_keep cX11_keep 3 (some .int) ∈ wsL_law := ch_33 _ (List.mem_of_getElem? (i := 23) rfl)
theorem q_34_0 : Cond.methodLink RL 93 yX10_back ∈ wsL_law := ch_34 _ (List.mem_of_getElem? (i := 0) rfl)
theorem q_34_1 : Cond.instanceMethod yX10_back ∈ wsL_law := ch_34 _ (List.mem_of_getElem? (i := 1) rfl)
theorem q_34_2 : Cond.selects RX10 yX10_back yX10_back ∈ wsL_law := ch_34 _ (List.mem_of_getElem? (i := 2) rfl)
theorem q_34_3 : Cond.code yX10_back cX10_back 2 (some .int) ∈ wsL_law := ch_34 _ (List.mem_of_getElem? (i := 3) rfl)
theorem q_34_4 : Cond.methodLink RX10 239 yX6_holds ∈ wsL_law := ch_34 _ (List.mem_of_getElem? (i := 4) rfl)
theorem q_34_5 : Cond.methodLink RX10 242 yX6_take ∈ wsL_law := ch_34 _ (List.mem_of_getElem? (i := 5) rfl)
theorem q_34_6 : Cond.methodLink RL 96 yX11_back ∈ wsL_law := ch_34 _ (List.mem_of_getElem? (i := 6) rfl)
theorem q_34_7 : Cond.instanceMethod yX11_back ∈ wsL_law := ch_34 _ (List.mem_of_getElem? (i := 7) rfl)
theorem q_34_8 : Cond.selects RX11 yX11_back yX11_back ∈ wsL_law := ch_34 _ (List.mem_of_getElem? (i := 8) rfl)
theorem q_34_9 : Cond.code yX11_back cX11_back 3 (some .int) ∈ wsL_law := ch_34 _ (List.mem_of_getElem? (i := 9) rfl)
theorem q_34_10 : Cond.methodLink RL 97 yX10_count ∈ wsL_law := ch_34 _ (List.mem_of_getElem? (i := 10) rfl)
theorem q_34_11 : Cond.instanceMethod yX10_count ∈ wsL_law := ch_34 _ (List.mem_of_getElem? (i := 11) rfl)
theorem q_34_12 : Cond.selects RX10 yX10_count yX10_count ∈ wsL_law := ch_34 _ (List.mem_of_getElem? (i := 12) rfl)
theorem q_34_13 : Cond.code yX10_count cX10_count 2 (some .int) ∈ wsL_law := ch_34 _ (List.mem_of_getElem? (i := 13) rfl)
theorem q_34_14 : Cond.methodLink RX10 248 yJ6_bitCount_0f7a4 ∈ wsL_law := ch_34 _ (List.mem_of_getElem? (i := 14) rfl)
theorem q_34_15 : Cond.static yJ6_bitCount_0f7a4 ∈ wsL_law := ch_34 _ (List.mem_of_getElem? (i := 15) rfl)
theorem q_34_16 : Cond.initialized RJ6 ∈ wsL_law := ch_34 _ (List.mem_of_getElem? (i := 16) rfl)
theorem q_34_17 : Cond.code yJ6_bitCount_0f7a4 cJ6_bitCount_0f7a4 1 (some .int) ∈ wsL_law := ch_34 _ (List.mem_of_getElem? (i := 17) rfl)
theorem q_34_18 : Cond.constant RJ6 265 (1431655765) ∈ wsL_law := ch_34 _ (List.mem_of_getElem? (i := 18) rfl)
theorem q_34_19 : Cond.constant RJ6 266 (858993459) ∈ wsL_law := ch_34 _ (List.mem_of_getElem? (i := 19) rfl)
theorem q_34_20 : Cond.constant RJ6 267 (252645135) ∈ wsL_law := ch_34 _ (List.mem_of_getElem? (i := 20) rfl)
theorem q_34_21 : Cond.methodLink RX10 256 yX9_longestWait ∈ wsL_law := ch_34 _ (List.mem_of_getElem? (i := 21) rfl)
theorem q_34_22 : Cond.instanceMethod yX9_longestWait ∈ wsL_law := ch_34 _ (List.mem_of_getElem? (i := 22) rfl)
theorem q_34_23 : Cond.selects RX9 yX9_longestWait yX9_longestWait ∈ wsL_law := ch_34 _ (List.mem_of_getElem? (i := 23) rfl)
theorem q_35_0 : Cond.code yX9_longestWait cX9_longestWait 4 (some .int) ∈ wsL_law := ch_35 _ (List.mem_of_getElem? (i := 0) rfl)
theorem q_35_1 : Cond.methodLink RX9 106 Lib.Math.max.name ∈ wsL_law := ch_35 _ (List.mem_of_getElem? (i := 1) rfl)
theorem q_35_2 : Cond.methodLink RX9 103 yX9_sentAt ∈ wsL_law := ch_35 _ (List.mem_of_getElem? (i := 2) rfl)
theorem q_35_3 : Cond.methodLink RL 100 yX11_count ∈ wsL_law := ch_35 _ (List.mem_of_getElem? (i := 3) rfl)
theorem q_35_4 : Cond.instanceMethod yX11_count ∈ wsL_law := ch_35 _ (List.mem_of_getElem? (i := 4) rfl)
theorem q_35_5 : Cond.selects RX11 yX11_count yX11_count ∈ wsL_law := ch_35 _ (List.mem_of_getElem? (i := 5) rfl)
theorem q_35_6 : Cond.code yX11_count cX11_count 2 (some .int) ∈ wsL_law := ch_35 _ (List.mem_of_getElem? (i := 6) rfl)
theorem q_35_7 : Cond.methodLink RX11 202 yX11_stretches ∈ wsL_law := ch_35 _ (List.mem_of_getElem? (i := 7) rfl)
theorem q_35_8 : Cond.instanceMethod yX11_stretches ∈ wsL_law := ch_35 _ (List.mem_of_getElem? (i := 8) rfl)
theorem q_35_9 : Cond.selects RX11 yX11_stretches yX11_stretches ∈ wsL_law := ch_35 _ (List.mem_of_getElem? (i := 9) rfl)
theorem q_35_10 : Cond.code yX11_stretches cX11_stretches 3 (some .int) ∈ wsL_law := ch_35 _ (List.mem_of_getElem? (i := 10) rfl)
theorem q_35_11 : Cond.methodLink RX11 205 yX11_late ∈ wsL_law := ch_35 _ (List.mem_of_getElem? (i := 11) rfl)
theorem q_35_12 : Cond.instanceMethod yX11_late ∈ wsL_law := ch_35 _ (List.mem_of_getElem? (i := 12) rfl)
theorem q_35_13 : Cond.selects RX11 yX11_late yX11_late ∈ wsL_law := ch_35 _ (List.mem_of_getElem? (i := 13) rfl)
theorem q_35_14 : Cond.code yX11_late cX11_late 6 (some .int) ∈ wsL_law := ch_35 _ (List.mem_of_getElem? (i := 14) rfl)
def nestWs_0 : List Cond := [Cond.fieldLinkNest RX4 92 "ThinReadings$Text" "length" "I" "ThinReadings", Cond.fieldLinkNest RX10 260 "ThinReadings$Text" "length" "I" "ThinReadings", Cond.fieldLinkNest RX6 37 "ThinReadings$Log" "times" "[I" "ThinReadings", Cond.fieldLinkNest RX2 63 "ThinReadings$Log" "times" "[I" "ThinReadings", Cond.fieldLinkNest RX6 40 "ThinReadings$Log" "values" "[I" "ThinReadings", Cond.fieldLinkNest RX2 60 "ThinReadings$Log" "values" "[I" "ThinReadings", Cond.fieldLinkNest RX2 26 "ThinReadings$Log" "size" "I" "ThinReadings", Cond.fieldLinkNest RX6 26 "ThinReadings$Log" "size" "I" "ThinReadings", Cond.fieldLinkNest RX7 56 "ThinReadings$Log" "size" "I" "ThinReadings", Cond.fieldLinkNest RX9 74 "ThinReadings$Log" "size" "I" "ThinReadings", Cond.fieldLinkNest RX10 135 "ThinReadings$Log" "size" "I" "ThinReadings", Cond.fieldLinkNest RX9 54 "ThinReadings$Log" "promise" "I" "ThinReadings"]
def nestWs_1 : List Cond := [Cond.fieldLinkNest RX4 63 "ThinReadings$Log" "promise" "I" "ThinReadings", Cond.fieldLinkNest RX6 31 "ThinReadings$Log" "promise" "I" "ThinReadings", Cond.fieldLinkNest RX10 139 "ThinReadings$Log" "promise" "I" "ThinReadings", Cond.fieldLinkNest RX4 69 "ThinReadings$Log" "delay" "I" "ThinReadings", Cond.fieldLinkNest RX6 34 "ThinReadings$Log" "delay" "I" "ThinReadings", Cond.fieldLinkNest RX9 91 "ThinReadings$Log" "delay" "I" "ThinReadings", Cond.fieldLinkNest RX10 142 "ThinReadings$Log" "delay" "I" "ThinReadings", Cond.fieldLinkNest RX10 108 "ThinReadings$Parser" "draft" "LThinReadings$Log;" "ThinReadings", Cond.fieldLinkNest RX10 145 "ThinReadings$History" "size" "I" "ThinReadings", Cond.fieldLinkNest RX10 245 "ThinReadings$Lines" "stretches" "I" "ThinReadings", Cond.fieldLinkNest RX10 253 "ThinReadings$Thinning" "pieces" "I" "ThinReadings", Cond.fieldLinkNest RX10 165 "ThinReadings$Thinning" "doorMask" "I" "ThinReadings"]
def nestWs_2 : List Cond := [Cond.fieldLinkNest RX10 174 "ThinReadings$Thinning" "leastMask" "I" "ThinReadings", Cond.fieldLinkNest RX10 259 "ThinReadings$Seen" "size" "I" "ThinReadings", Cond.fieldLinkNest RX10 224 "ThinReadings$Survey" "possible" "I" "ThinReadings", Cond.fieldLinkNest RX10 227 "ThinReadings$Survey" "least" "I" "ThinReadings", Cond.fieldLinkNest RX10 230 "ThinReadings$Survey" "greatest" "I" "ThinReadings", Cond.methodLinkNest RX4 83 yX10_isWithin "ThinReadings", Cond.methodLinkNest RX6 22 yX10_bitAt "ThinReadings", Cond.methodLinkNest RX9 97 yX10_bitAt "ThinReadings", Cond.methodLinkNest RX3 43 yX10_bitAt "ThinReadings", Cond.methodLinkNest RX7 73 yX10_bitAt "ThinReadings"]
def nestWs : List Cond := nestWs_0 ++ (nestWs_1 ++ (nestWs_2))
theorem nch_0 : ∀ w ∈ nestWs_0, w ∈ nestWs := fun _ h => List.mem_append_left _ h
theorem nch_1 : ∀ w ∈ nestWs_1, w ∈ nestWs := fun _ h => List.mem_append_right _ (List.mem_append_left _ h)
theorem nch_2 : ∀ w ∈ nestWs_2, w ∈ nestWs := fun _ h => List.mem_append_right _ (List.mem_append_right _ (h))
theorem qn_0 : Cond.fieldLinkNest RX4 92 "ThinReadings$Text" "length" "I" "ThinReadings" ∈ nestWs := nch_0 _ (List.mem_of_getElem? (i := 0) rfl)
theorem qn_1 : Cond.fieldLinkNest RX10 260 "ThinReadings$Text" "length" "I" "ThinReadings" ∈ nestWs := nch_0 _ (List.mem_of_getElem? (i := 1) rfl)
theorem qn_2 : Cond.fieldLinkNest RX6 37 "ThinReadings$Log" "times" "[I" "ThinReadings" ∈ nestWs := nch_0 _ (List.mem_of_getElem? (i := 2) rfl)
theorem qn_3 : Cond.fieldLinkNest RX2 63 "ThinReadings$Log" "times" "[I" "ThinReadings" ∈ nestWs := nch_0 _ (List.mem_of_getElem? (i := 3) rfl)
theorem qn_4 : Cond.fieldLinkNest RX6 40 "ThinReadings$Log" "values" "[I" "ThinReadings" ∈ nestWs := nch_0 _ (List.mem_of_getElem? (i := 4) rfl)
theorem qn_5 : Cond.fieldLinkNest RX2 60 "ThinReadings$Log" "values" "[I" "ThinReadings" ∈ nestWs := nch_0 _ (List.mem_of_getElem? (i := 5) rfl)
theorem qn_6 : Cond.fieldLinkNest RX2 26 "ThinReadings$Log" "size" "I" "ThinReadings" ∈ nestWs := nch_0 _ (List.mem_of_getElem? (i := 6) rfl)
theorem qn_7 : Cond.fieldLinkNest RX6 26 "ThinReadings$Log" "size" "I" "ThinReadings" ∈ nestWs := nch_0 _ (List.mem_of_getElem? (i := 7) rfl)
theorem qn_8 : Cond.fieldLinkNest RX7 56 "ThinReadings$Log" "size" "I" "ThinReadings" ∈ nestWs := nch_0 _ (List.mem_of_getElem? (i := 8) rfl)
theorem qn_9 : Cond.fieldLinkNest RX9 74 "ThinReadings$Log" "size" "I" "ThinReadings" ∈ nestWs := nch_0 _ (List.mem_of_getElem? (i := 9) rfl)
theorem qn_10 : Cond.fieldLinkNest RX10 135 "ThinReadings$Log" "size" "I" "ThinReadings" ∈ nestWs := nch_0 _ (List.mem_of_getElem? (i := 10) rfl)
theorem qn_11 : Cond.fieldLinkNest RX9 54 "ThinReadings$Log" "promise" "I" "ThinReadings" ∈ nestWs := nch_0 _ (List.mem_of_getElem? (i := 11) rfl)
theorem qn_12 : Cond.fieldLinkNest RX4 63 "ThinReadings$Log" "promise" "I" "ThinReadings" ∈ nestWs := nch_1 _ (List.mem_of_getElem? (i := 0) rfl)
theorem qn_13 : Cond.fieldLinkNest RX6 31 "ThinReadings$Log" "promise" "I" "ThinReadings" ∈ nestWs := nch_1 _ (List.mem_of_getElem? (i := 1) rfl)
theorem qn_14 : Cond.fieldLinkNest RX10 139 "ThinReadings$Log" "promise" "I" "ThinReadings" ∈ nestWs := nch_1 _ (List.mem_of_getElem? (i := 2) rfl)
theorem qn_15 : Cond.fieldLinkNest RX4 69 "ThinReadings$Log" "delay" "I" "ThinReadings" ∈ nestWs := nch_1 _ (List.mem_of_getElem? (i := 3) rfl)
theorem qn_16 : Cond.fieldLinkNest RX6 34 "ThinReadings$Log" "delay" "I" "ThinReadings" ∈ nestWs := nch_1 _ (List.mem_of_getElem? (i := 4) rfl)
theorem qn_17 : Cond.fieldLinkNest RX9 91 "ThinReadings$Log" "delay" "I" "ThinReadings" ∈ nestWs := nch_1 _ (List.mem_of_getElem? (i := 5) rfl)
theorem qn_18 : Cond.fieldLinkNest RX10 142 "ThinReadings$Log" "delay" "I" "ThinReadings" ∈ nestWs := nch_1 _ (List.mem_of_getElem? (i := 6) rfl)
theorem qn_19 : Cond.fieldLinkNest RX10 108 "ThinReadings$Parser" "draft" "LThinReadings$Log;" "ThinReadings" ∈ nestWs := nch_1 _ (List.mem_of_getElem? (i := 7) rfl)
theorem qn_20 : Cond.fieldLinkNest RX10 145 "ThinReadings$History" "size" "I" "ThinReadings" ∈ nestWs := nch_1 _ (List.mem_of_getElem? (i := 8) rfl)
theorem qn_21 : Cond.fieldLinkNest RX10 245 "ThinReadings$Lines" "stretches" "I" "ThinReadings" ∈ nestWs := nch_1 _ (List.mem_of_getElem? (i := 9) rfl)
theorem qn_22 : Cond.fieldLinkNest RX10 253 "ThinReadings$Thinning" "pieces" "I" "ThinReadings" ∈ nestWs := nch_1 _ (List.mem_of_getElem? (i := 10) rfl)
theorem qn_23 : Cond.fieldLinkNest RX10 165 "ThinReadings$Thinning" "doorMask" "I" "ThinReadings" ∈ nestWs := nch_1 _ (List.mem_of_getElem? (i := 11) rfl)
theorem qn_24 : Cond.fieldLinkNest RX10 174 "ThinReadings$Thinning" "leastMask" "I" "ThinReadings" ∈ nestWs := nch_2 _ (List.mem_of_getElem? (i := 0) rfl)
theorem qn_25 : Cond.fieldLinkNest RX10 259 "ThinReadings$Seen" "size" "I" "ThinReadings" ∈ nestWs := nch_2 _ (List.mem_of_getElem? (i := 1) rfl)
theorem qn_26 : Cond.fieldLinkNest RX10 224 "ThinReadings$Survey" "possible" "I" "ThinReadings" ∈ nestWs := nch_2 _ (List.mem_of_getElem? (i := 2) rfl)
theorem qn_27 : Cond.fieldLinkNest RX10 227 "ThinReadings$Survey" "least" "I" "ThinReadings" ∈ nestWs := nch_2 _ (List.mem_of_getElem? (i := 3) rfl)
theorem qn_28 : Cond.fieldLinkNest RX10 230 "ThinReadings$Survey" "greatest" "I" "ThinReadings" ∈ nestWs := nch_2 _ (List.mem_of_getElem? (i := 4) rfl)
theorem qn_29 : Cond.methodLinkNest RX4 83 yX10_isWithin "ThinReadings" ∈ nestWs := nch_2 _ (List.mem_of_getElem? (i := 5) rfl)
theorem qn_30 : Cond.methodLinkNest RX6 22 yX10_bitAt "ThinReadings" ∈ nestWs := nch_2 _ (List.mem_of_getElem? (i := 6) rfl)
theorem qn_31 : Cond.methodLinkNest RX9 97 yX10_bitAt "ThinReadings" ∈ nestWs := nch_2 _ (List.mem_of_getElem? (i := 7) rfl)
theorem qn_32 : Cond.methodLinkNest RX3 43 yX10_bitAt "ThinReadings" ∈ nestWs := nch_2 _ (List.mem_of_getElem? (i := 8) rfl)
theorem qn_33 : Cond.methodLinkNest RX7 73 yX10_bitAt "ThinReadings" ∈ nestWs := nch_2 _ (List.mem_of_getElem? (i := 9) rfl)
end
section
/-! ===== the words that every contract carries; the worlds' shapes; contracts of two kinds (reading, changing); calls ===== -/
abbrev TBL : List Cond := wsL_law
theorem TBL_good : ∀ w ∈ TBL, (w.onTables && w.keeps) = true ∨ ∃ ty, w = .arrayClass ty := by
  have h : TBL.all goodWord = true := by decide +kernel
  exact fun w hw => good_of_word (List.all_eq_true.mp h w hw)
def isNest : Cond → Bool
  | .fieldLinkNest .. => true
  | .methodLinkNest .. => true
  | _ => false
def NW (U : State) : Prop := ∀ w ∈ nestWs, va_Nw w U
theorem NW.warm {s U : State} (hW : s.WarmedH U.vm) (h : NW s) : NW U := by
  have hn : nestWs.all isNest = true := by decide +kernel
  intro w hw
  have h1 := h w hw
  have h2 := List.all_eq_true.mp hn w hw
  cases w <;> first | exact va_Nw.warmF hW h1 | exact va_Nw.warmM hW h1 | (simp [isNest] at h2)
theorem NW.vm {u U : State} (e : u.vm = U.vm) (h : NW u) : NW U := by
  have hn : nestWs.all isNest = true := by decide +kernel
  intro w hw
  have h1 := h w hw
  have h2 := List.all_eq_true.mp hn w hw
  cases w <;> first | exact va_Nw.same rfl e h1 | (simp [isNest] at h2)
abbrev TY (cC cI cZ : ClassId) : List (ClassId × FieldType) := [(cC, .char), (cI, .int), (cZ, .boolean)]
def PcR (av : List Value) (D : va_G) (tys : List (ClassId × FieldType)) (ws : va_W) : Array Value → State → Prop := va_Pc av (fun U => va_P D vwCl ws U.heap ∧ va_K D vwCl tys U ∧ NW U)
def PO (ret : FieldType) (R : Int32) : Int32 → Prop := fun r => r = R ∧ narrow ret (.int r) = .int r
def PcM (av : List Value) (sz : Nat) (D : va_G) (tys : List (ClassId × FieldType)) (ws : va_W) : Array Value → State → Prop := va_Pc av (fun U => U.heap.size = sz ∧ va_P D vwCl ws U.heap ∧ va_K D vwCl tys U ∧ NW U ∧ va_D (fun _ => True) ws)
def QM (ov : Option Value) (D : va_G) (ws' : va_W) (A : Nat → Prop) : Array Value → State → Outcome → State → Prop := fun _ st o t => o = .returned ov ∧ va_P D vwCl ws' t.heap ∧ va_F A st t
theorem PcR_blind {av : List Value} {D : va_G} {tys : List (ClassId × FieldType)} {ws : va_W} : FrameBlind (PcR av D tys ws) := fun a U g mk q => by
  obtain ⟨q0, qP, qK, qN⟩ := q
  exact ⟨q0, qP, va_K.moved (u := U) (U := U.calling g mk a) (Vm.Alike.refl U.vm) qK, NW.vm (u := U) rfl qN⟩
theorem PcM_blind {av : List Value} {sz : Nat} {D : va_G} {tys : List (ClassId × FieldType)} {ws : va_W} : FrameBlind (PcM av sz D tys ws) := fun a U g mk q => by
  obtain ⟨q0, qz, qP, qK, qN, qD⟩ := q
  exact ⟨q0, qz, qP, va_K.moved (u := U) (U := U.calling g mk a) (Vm.Alike.refl U.vm) qK, NW.vm (u := U) rfl qN, qD⟩
/-- what a body may use: the machine, its code, its class, the words, the classes, the nest's words -/
def Ctx (p : Program) (s : State) (m : MethodId) (args : Array Value) (c : Code) (cc : ByteArray) (nL : Nat) (own : String) (D : va_G) (tys : List (ClassId × FieldType)) : Prop :=
  p.tables.exec = Jvm.exec ∧ c.code = cc ∧ c.maxLocals = nL ∧ s.vm.findClass own = some m.cls ∧ (∀ w ∈ TBL, w.before args s = true) ∧ va_K D vwCl tys s ∧ NW s
theorem roOf {l : Launch} {y : MethodName} {cc : ByteArray} {nL : Nat} {ret : FieldType} {rm : Room} {av : List Value} {D : va_G} {tys : List (ClassId × FieldType)} {ws : va_W} {R : Int32} {lv0 : List (Nat × Value)}
    (hy : plainName y.cls = true) (hav : (lg_sl av).length ≤ nL) (hlv : lv_args 0 av = lv0)
    (body : ∀ (p : Program) (e : Env) (s : State) (m : MethodId) (below : List Frame) (meth : Method) (c : Code) (Q : State → Prop) (ls : Array Slot), Ctx p s m av.toArray c cc nL y.cls D tys → va_P D vwCl ws s.heap → lv_has ls nL lv0 →
      (∀ (pc : Nat) (ls : Array Slot) (v : Int32), decode cc pc = .ok (.ireturn, 1) → v = R → narrow ret (.int v) = .int v → W p l e rm s m av.toArray below meth c s.heap [] 0 0 Q (F0 m pc ls [.int v])) →
      W p l e rm s m av.toArray below meth c s.heap [] 0 0 Q (F0 m 0 ls [])) :
    Met l y (.code y cc nL (some ret) :: TBL) rm (PcR av D tys ws) (vp_Si (PO ret R)) 0 0 (fun _ => False) := by
  refine Met.ofW (cc := cc) (maxL := nL) (ret := some ret) hy rfl ?_
  intro p e s m args below meth c s₁ B hml hv
  obtain ⟨rfl, hP, hK, hN⟩ := hv
  have hts := atoms_spec (ws := .code y cc nL (some ret) :: TBL) B.pre
  rw [lg_entry_eq]
  have hl := lv_entry av (n := nL) hav
  rw [hlv] at hl
  exact body p e s m below meth c _ _ ⟨B.exec, B.bytes, hml, findClass_of_methodNamed B.named, fun w hw => hts w (List.mem_cons_of_mem _ hw), hK, hN⟩ hP hl
    (fun pc ls v hd hp hn => W.zret B.exec B.bytes B.returns hn (fun t ht _ => ⟨v, rfl, ⟨hp, hn⟩, ht⟩) (fun q h => by cases h) hd B.notSynchronized)
theorem muOf {l : Launch} {y : MethodName} {cc : ByteArray} {nL : Nat} {ret : FieldType} {rm : Room} {av : List Value} {sz : Nat} {D : va_G} {tys : List (ClassId × FieldType)} {ws ws' : va_W} {R : Int32} {lv0 : List (Nat × Value)}
    (hy : plainName y.cls = true) (hav : (lg_sl av).length ≤ nL) (hlv : lv_args 0 av = lv0)
    (body : ∀ (p : Program) (e : Env) (s : State) (m : MethodId) (below : List Frame) (meth : Method) (c : Code) (Q : State → Prop) (ls : Array Slot) (A : Nat → Prop), Ctx p s m av.toArray c cc nL y.cls D tys → va_P D vwCl ws s.heap → va_D A ws → va_S A s.heap s.heap [] → (∀ q : Nat, s.heap.size ≤ q → A q) → lv_has ls nL lv0 →
      (∀ (H : Heap) (locs : List Loc) (pc : Nat) (ls : Array Slot) (v : Int32), va_P D vwCl ws' H → va_S A s.heap H locs → decode cc pc = .ok (.ireturn, 1) → v = R → narrow ret (.int v) = .int v → W p l e rm s m av.toArray below meth c H locs 0 0 Q (F0 m pc ls [.int v])) →
      W p l e rm s m av.toArray below meth c s.heap [] 0 0 Q (F0 m 0 ls [])) :
    Met l y (.code y cc nL (some ret) :: TBL) rm (PcM av sz D tys ws) (fun a st o t => QM (some (.int R)) D ws' (va_A ws sz) a st o t ∧ narrow ret (.int R) = .int R) 0 0 (va_A ws sz) := by
  refine Met.ofW (cc := cc) (maxL := nL) (ret := some ret) hy rfl ?_
  intro p e s m args below meth c s₁ B hml hv
  obtain ⟨rfl, hsz, hP, hK, hN, hD⟩ := hv
  subst hsz
  have hts := atoms_spec (ws := .code y cc nL (some ret) :: TBL) B.pre
  rw [lg_entry_eq]
  have hl := lv_entry av (n := nL) hav
  rw [hlv] at hl
  refine body p e s m below meth c _ _ (va_A ws s.heap.size) ⟨B.exec, B.bytes, hml, findClass_of_methodNamed B.named, fun w hw => hts w (List.mem_cons_of_mem _ hw), hK, hN⟩ hP (hD.self (sz := s.heap.size)) va_S.rf (fun q h => Or.inr h) hl ?_
  intro H locs pc ls v hP' hS hd hv hn
  subst hv
  exact W.zret B.exec B.bytes B.returns hn (fun t ht _ => ⟨⟨rfl, by rw [ht]; exact hP', hS.F ht⟩, hn⟩) hS.2.2 hd B.notSynchronized
theorem muOfV {l : Launch} {y : MethodName} {cc : ByteArray} {nL : Nat} {rm : Room} {av : List Value} {sz : Nat} {D : va_G} {tys : List (ClassId × FieldType)} {ws ws' : va_W} {lv0 : List (Nat × Value)}
    (hy : plainName y.cls = true) (hav : (lg_sl av).length ≤ nL) (hlv : lv_args 0 av = lv0)
    (body : ∀ (p : Program) (e : Env) (s : State) (m : MethodId) (below : List Frame) (meth : Method) (c : Code) (Q : State → Prop) (ls : Array Slot) (A : Nat → Prop), Ctx p s m av.toArray c cc nL y.cls D tys → va_P D vwCl ws s.heap → va_D A ws → va_S A s.heap s.heap [] → (∀ q : Nat, s.heap.size ≤ q → A q) → lv_has ls nL lv0 →
      (∀ (H : Heap) (locs : List Loc) (pc : Nat) (ls : Array Slot), va_P D vwCl ws' H → va_S A s.heap H locs → decode cc pc = .ok (.return_, 1) → W p l e rm s m av.toArray below meth c H locs 0 0 Q (F0 m pc ls [])) →
      W p l e rm s m av.toArray below meth c s.heap [] 0 0 Q (F0 m 0 ls [])) :
    Met l y (.code y cc nL none :: TBL) rm (PcM av sz D tys ws) (QM none D ws' (va_A ws sz)) 0 0 (va_A ws sz) := by
  refine Met.ofW (cc := cc) (maxL := nL) (ret := none) hy rfl ?_
  intro p e s m args below meth c s₁ B hml hv
  obtain ⟨rfl, hsz, hP, hK, hN, hD⟩ := hv
  subst hsz
  have hts := atoms_spec (ws := .code y cc nL none :: TBL) B.pre
  rw [lg_entry_eq]
  have hl := lv_entry av (n := nL) hav
  rw [hlv] at hl
  refine body p e s m below meth c _ _ (va_A ws s.heap.size) ⟨B.exec, B.bytes, hml, findClass_of_methodNamed B.named, fun w hw => hts w (List.mem_cons_of_mem _ hw), hK, hN⟩ hP (hD.self (sz := s.heap.size)) va_S.rf (fun q h => Or.inr h) hl ?_
  intro H locs pc ls hP' hS hd
  exact W.vret B.exec B.bytes B.returns (fun t ht _ => ⟨rfl, by rw [ht]; exact hP', hS.F ht⟩) hS.2.2 hd B.notSynchronized
/-! words of calls -/
theorem gI {y : MethodName} {bytes : ByteArray} {maxL : Nat} {ret : Option FieldType} (h5 : Cond.code y bytes maxL ret ∈ TBL) : GoodIn TBL (.code y bytes maxL ret :: TBL) := by
  intro w hw
  rcases List.mem_cons.mp hw with h | h
  · subst h; exact ⟨h5, TBL_good _ h5⟩
  · exact ⟨h, TBL_good _ h⟩
theorem gV {own C : String} {idx : Nat} {y : MethodName} {bytes : ByteArray} {maxL : Nat} {ret : Option FieldType} (h1 : Cond.methodLink own idx y ∈ TBL) (h2 : Cond.instanceMethod y ∈ TBL) (h3 : Cond.selects C y y ∈ TBL) (h4 : Cond.initialized C ∈ TBL) (h5 : Cond.code y bytes maxL ret ∈ TBL) : GoodIn TBL (wsV own idx C y (.code y bytes maxL ret :: TBL)) := by
  intro w hw
  rcases List.mem_append.mp hw with h | h
  · simp only [List.mem_cons, List.not_mem_nil, or_false] at h
    rcases h with h | h | h | h <;> subst h
    · exact ⟨h1, TBL_good _ h1⟩
    · exact ⟨h2, TBL_good _ h2⟩
    · exact ⟨h3, TBL_good _ h3⟩
    · exact ⟨h4, TBL_good _ h4⟩
  · exact gI h5 w h
theorem gS {own : String} {idx : Nat} {y : MethodName} {bytes : ByteArray} {maxL : Nat} {ret : Option FieldType} (h1 : Cond.methodLink own idx y ∈ TBL) (h2 : Cond.static y ∈ TBL) (h4 : Cond.initialized own ∈ TBL) (h5 : Cond.code y bytes maxL ret ∈ TBL) : GoodIn TBL (wsS own idx y (.code y bytes maxL ret :: TBL)) := by
  intro w hw
  rcases List.mem_append.mp hw with h | h
  · simp only [List.mem_cons, List.not_mem_nil, or_false] at h
    rcases h with h | h | h <;> subst h
    · exact ⟨h1, TBL_good _ h1⟩
    · exact ⟨h2, TBL_good _ h2⟩
    · exact ⟨h4, TBL_good _ h4⟩
  · exact gI h5 w h
/-! pure rows that go with the denotations -/
theorem ip {α : Type} {c : Prop} {inst : Decidable c} {a b y : α} (hc : c) (h : (if c then a else b) = y) : a = y := (if_pos hc).symm.trans h
theorem im {α : Type} {c : Prop} {inst : Decidable c} {a b y : α} (hc : ¬ c) (h : (if c then a else b) = y) : b = y := (if_neg hc).symm.trans h
theorem gd {α : Type} {b : Bool} {x : Option α} {y : α} (h : (if b = true then x else none) = some y) : b = true ∧ x = some y := by
  cases b
  · simp at h
  · exact ⟨rfl, h⟩
theorem bd {α β : Type} {x : Option α} {k : α → Option β} {y : β} (h : x.bind k = some y) : ∃ z, x = some z ∧ k z = some y := by
  cases x with
  | none => cases h
  | some z => exact ⟨z, rfl, h⟩
def inB (i : Int32) (n : Nat) : Bool := decide (¬ (i < 0 ∨ n ≤ i.toNatClampNeg))
theorem inB_in {i : Int32} {n : Nat} (h : inB i n = true) : vp_in i n := (of_decide_eq_true h : ¬ (i < 0 ∨ n ≤ i.toNatClampNeg))
def nz (y : Int32) : Bool := decide (¬ y = 0)
theorem nz_ne {y : Int32} (h : nz y = true) : ¬ y = 0 := of_decide_eq_true h
def nzL (y : Int64) : Bool := decide (¬ y = 0)
theorem nzL_ne {y : Int64} (h : nzL y = true) : ¬ y = 0 := of_decide_eq_true h
def okC (v : Int32) : Bool := decide (v.toUInt32.toUInt16.toUInt32.toInt32 = v)
theorem okC_n {v : Int32} (h : okC v = true) : narrow .char (.int v) = .int v := by
  have h1 : v.toUInt32.toUInt16.toUInt32.toInt32 = v := of_decide_eq_true h
  have h2 := vp_nar_char v
  rw [h1] at h2
  unfold vp_nar at h2
  cases hq : narrow .char (.int v) with
  | int z => rw [hq] at h2; simp only at h2; rw [h2]
  | _ => simp [narrow] at hq
def fu : Nat := 256
theorem va_D.cong {A : Nat → Prop} {ws ws' : va_W} (h : ws.map Prod.fst = ws'.map Prod.fst) (hD : va_D A ws) : va_D A ws' := by
  have key : ∀ (k : Nat) (q : Nat × va_E), ws'[k]? = some q → ∃ q0, ws[k]? = some q0 ∧ q0.1 = q.1 := by
    intro k q hk
    have h1 : (ws'.map Prod.fst)[k]? = some q.1 := by rw [List.getElem?_map, hk]; rfl
    rw [← h, List.getElem?_map] at h1
    cases hq : ws[k]? with
    | none => rw [hq] at h1; cases h1
    | some q0 => rw [hq] at h1; exact ⟨q0, rfl, Option.some.inj h1⟩
  refine ⟨fun i j x y hi hj hxy => ?_, fun k q hk => ?_⟩
  · obtain ⟨x0, a1, a2⟩ := key i x hi
    obtain ⟨y0, b1, b2⟩ := key j y hj
    exact hD.1 i j x0 y0 a1 b1 (a2.trans (hxy.trans b2.symm))
  · obtain ⟨q0, a1, a2⟩ := key k q hk
    rw [← a2]; exact hD.2 k q0 a1
def pickL (ws : va_W) (is : List Nat) : va_W := is.filterMap (fun i => ws[i]?)
theorem pickL_map {ws : va_W} : ∀ {is : List Nat}, (is.all fun i => decide (i < ws.length)) = true → is.map (fun i => ws[i]?) = (pickL ws is).map some
  | [], _ => rfl
  | i :: is, h => by
    simp only [List.all_cons, Bool.and_eq_true, decide_eq_true_eq] at h
    have ih := pickL_map (ws := ws) (is := is) h.2
    simp only [pickL, List.map_cons, List.filterMap_cons, List.getElem?_eq_getElem h.1] at ih ⊢
    rw [ih]
section CALLS
variable {p : Program} {l : Launch} {e : Env} {R : Room} {s : State} {m : MethodId} {args : Array Value} {below : List Frame} {meth : Method} {c : Code} {H : Heap} {locs : List Loc} {cells slots : Nat} {Q : State → Prop}
variable {cc bytes : ByteArray} {nL maxL idx n pc : Nat} {own C : String} {y : MethodName} {ret : FieldType} {rm : Room} {D : va_G} {tys : List (ClassId × FieldType)} {ws wc wc' ws' : va_W} {ls : Array Slot} {st0 : List Value} {b : Nat} {r : Int32}
theorem rcS {post : Int32 → Prop} {a : Array Value} {rest : List Value} (hr : va_Run p l e R s m args below meth c H locs cells slots 0 0 (F0 m pc ls st0) rest (vp_Si post a) (fun _ => False))
    (kk : ∀ r : Int32, post r → W p l e R s m args below meth c H locs cells slots Q (F0 m (pc + 3) ls (.int r :: rest))) : W p l e R s m args below meth c H locs cells slots Q (F0 m pc ls st0) := by
  intro T hT X
  obtain ⟨v, st₀, t, T', L, h0, X', hL, e1, e2, ⟨r, hv, hp, hh⟩, st⟩ := hr T hT X
  cases hv
  obtain ⟨t2, a1, b1⟩ := kk r hp T' (by rw [e1, hh, h0]) (Stand.forget X' (fun q h => (hL q h).elim))
  exact ⟨t2, st t2 a1, b1⟩
/-- a reading method of an object -/
theorem roV (X : Ctx p s m args c cc nL own D tys) (As rest : List Value) (hM : Met l y (.code y bytes maxL (some ret) :: TBL) rm (PcR (.ref b :: As) D tys wc) (vp_Si (PO ret r)) 0 0 (fun _ => False))
    (hg : GoodIn TBL (wsV own idx C y (.code y bytes maxL (some ret) :: TBL))) (hd : y.cls = C ∧ y.cls ≠ "java/lang/invoke/MethodHandle" ∧ y.cls ≠ "java/lang/invoke/VarHandle" ∧ (parseMethodDescriptor y.desc).map (fun d => d.parameters.length) = some As.length)
    (hR : rm.cells = 0 ∧ rm.slots = 0 ∧ rm.frames + 1 ≤ R.frames ∧ 8 + (maxL + 11) + rm.locals ≤ R.locals) (hc0 : cells ≤ R.cells ∧ slots ≤ R.slots) (hP : va_P D vwCl ws H) (is : List Nat) (hs : is.filterMap (fun i => ws[i]?) = wc) {ci : Nat} {fs : List Value} {q : vw_C} (h0 : wc[0]? = some (b, .inr (ci, fs))) (hcl : vwCl[ci]? = some q) (hqC : q.1 = C)
    (hls : ls.size = nL) (hst : st0 = As.reverse ++ .ref b :: rest) (hW : (rest.map fun v => v.category).sum ≤ 8) (hdg : decode cc pc = .ok (.invokevirtual idx, 3))
    (kk : narrow ret (.int r) = .int r → W p l e R s m args below meth c H locs cells slots Q (F0 m (pc + 3) ls (.int r :: rest))) : W p l e R s m args below meth c H locs cells slots Q (F0 m pc ls st0) := by
  obtain ⟨hx, hb, hml, hown, hts, hK, hN⟩ := X
  have hPc := hP.sub is hs
  subst hqC
  refine rcS (va_runV (As := As) (rest := rest) (cc := cc) ⟨hx, hb, hml, hown, hts⟩ hM (cwV As.length hts hg rfl hR.1 hR.2.1 hd ⟨hR.2.2.1, hR.2.2.2⟩) ⟨PcR_blind, va_recv hK hPc hcl h0, fun U hU hW => ⟨rfl, by rw [hU]; exact hPc, va_K.moved hW.alike hK, NW.warm hW hN⟩⟩ rfl rfl hls hst (lv_room (rest := st0) hW) hdg hc0) (fun r' hr' => ?_)
  obtain ⟨e1, e2⟩ := hr'
  subst e1
  exact kk e2
/-- a reading static method of the own class -/
theorem roS (X : Ctx p s m args c cc nL own D tys) (As rest : List Value) (hM : Met l y (.code y bytes maxL (some ret) :: TBL) rm (PcR As D tys wc) (vp_Si (PO ret r)) 0 0 (fun _ => False))
    (hg : GoodIn TBL (wsS own idx y (.code y bytes maxL (some ret) :: TBL))) (hd : y.cls = own ∧ y.cls ≠ "java/lang/invoke/MethodHandle" ∧ y.cls ≠ "java/lang/invoke/VarHandle" ∧ (parseMethodDescriptor y.desc).map (fun d => d.parameters.length) = some As.length)
    (hR : rm.cells = 0 ∧ rm.slots = 0 ∧ rm.frames + 1 ≤ R.frames ∧ 8 + (maxL + 11) + rm.locals ≤ R.locals) (hc0 : cells ≤ R.cells ∧ slots ≤ R.slots) (hP : va_P D vwCl ws H) (is : List Nat) (hs : is.filterMap (fun i => ws[i]?) = wc)
    (hls : ls.size = nL) (hst : st0 = As.reverse ++ rest) (hW : (rest.map fun v => v.category).sum ≤ 8) (hdg : decode cc pc = .ok (.invokestatic idx, 3))
    (kk : narrow ret (.int r) = .int r → W p l e R s m args below meth c H locs cells slots Q (F0 m (pc + 3) ls (.int r :: rest))) : W p l e R s m args below meth c H locs cells slots Q (F0 m pc ls st0) := by
  obtain ⟨hx, hb, hml, hown, hts, hK, hN⟩ := X
  have hPc := hP.sub is hs
  refine rcS (va_runS (As := As) (rest := rest) (cc := cc) ⟨hx, hb, hml, hown, hts⟩ hM (cwS As.length hts hg rfl hR.1 hR.2.1 hd ⟨hR.2.2.1, hR.2.2.2⟩) ⟨PcR_blind, fun U hU hW => ⟨rfl, by rw [hU]; exact hPc, va_K.moved hW.alike hK, NW.warm hW hN⟩⟩ rfl rfl hls hst (lv_room (rest := st0) hW) hdg hc0) (fun r' hr' => ?_)
  obtain ⟨e1, e2⟩ := hr'
  subst e1
  exact kk e2
/-- a reading static method of a nest mate, or of the JDK (see roS): the link's word is a nest's word -/
theorem roSN {host : String} (X : Ctx p s m args c cc nL own D tys) (As rest : List Value) (hM : Met l y (.code y bytes maxL (some ret) :: TBL) rm (PcR As D tys wc) (vp_Si (PO ret r)) 0 0 (fun _ => False))
    (hg : Cond.code y bytes maxL (some ret) ∈ TBL) (hl : Cond.methodLinkNest own idx y host ∈ nestWs) (hi : Cond.initialized y.cls ∈ TBL) (hst' : Cond.static y ∈ TBL) (hd : y.cls ≠ "java/lang/invoke/MethodHandle" ∧ y.cls ≠ "java/lang/invoke/VarHandle" ∧ (parseMethodDescriptor y.desc).map (fun d => d.parameters.length) = some As.length)
    (hR : rm.cells = 0 ∧ rm.slots = 0 ∧ rm.frames + 1 ≤ R.frames ∧ 8 + (maxL + 11) + rm.locals ≤ R.locals) (hc0 : cells ≤ R.cells ∧ slots ≤ R.slots) (hP : va_P D vwCl ws H) (is : List Nat) (hs : is.filterMap (fun i => ws[i]?) = wc)
    (hls : ls.size = nL) (hst : st0 = As.reverse ++ rest) (hW : (rest.map fun v => v.category).sum ≤ 8) (hdg : decode cc pc = .ok (.invokestatic idx, 3))
    (kk : narrow ret (.int r) = .int r → W p l e R s m args below meth c H locs cells slots Q (F0 m (pc + 3) ls (.int r :: rest))) : W p l e R s m args below meth c H locs cells slots Q (F0 m pc ls st0) := by
  obtain ⟨hx, hb, hml, hown, hts, hK, hN⟩ := X
  have hPc := hP.sub is hs
  refine rcS (va_runSN (As := As) (rest := rest) (cc := cc) ⟨hx, hb, hml, hown, hts⟩ hM ⟨va_cnB As.length hts (gI hg) rfl hR.1 hR.2.1 (hN _ hl) (hts _ hi) hd ⟨hR.2.2.1, hR.2.2.2⟩, hts _ hst', trivial⟩ ⟨PcR_blind, fun U hU hW => ⟨rfl, by rw [hU]; exact hPc, va_K.moved hW.alike hK, NW.warm hW hN⟩⟩ rfl rfl hls hst (lv_room (rest := st0) hW) hdg hc0) (fun r' hr' => ?_)
  obtain ⟨e1, e2⟩ := hr'
  subst e1
  exact kk e2
/-- behind a changing call: the callee's cells as they became, the rest as it was -/
theorem mcJ {A0 : Nat → Prop} {ov : Option Value} {a : Array Value} {rest : List Value} {H0 : Heap} {E : Prop} (hr : va_Run p l e R s m args below meth c H locs cells slots 0 0 (F0 m pc ls st0) rest (fun st o t => QM ov D wc' (va_A wc H.size) a st o t ∧ E) (va_A wc H.size))
    (hP : va_P D vwCl ws H) (hD : va_D A0 ws) (hS : va_S A0 H0 H locs) (hA : ∀ q : Nat, H0.size ≤ q → A0 q) (isC isR perm : List Nat) (hC : isC.map (fun i => ws[i]?) = wc.map some) (hRl : (isR.all fun i => decide (i < ws.length)) = true) (hn : va_nd isR = true) (hnC : va_nd isC = true) (hdis : ∀ i ∈ isR, i ∉ isC)
    (hwa : wc.map Prod.fst = wc'.map Prod.fst) (hs : perm.map (fun i => (pickL ws isR ++ wc')[i]?) = ws'.map some) (hnp : va_nd perm = true)
    (kk : ∀ (H1 : Heap) (locs1 : List Loc), va_P D vwCl ws' H1 → va_D A0 ws' → va_S A0 H0 H1 locs1 → E → W p l e R s m args below meth c H1 locs1 cells slots Q (F0 m (pc + 3) ls (ov.toList ++ rest))) : W p l e R s m args below meth c H locs cells slots Q (F0 m pc ls st0) := by
  have hFc := va_free (wc := wc) hD hS hA isC hC
  intro T hT X
  obtain ⟨v, st₀, t, T', L, h0, X', hL, e1, e2, ⟨⟨hv, hP1, hz, hk⟩, hE⟩, st⟩ := hr T hT X
  cases hv
  rw [h0] at hz hk
  have hDc : va_D A0 wc := hD.sub isC hnC hC
  have hD1 : va_D (va_A wc H.size) wc' := va_D.cong hwa (hDc.self (sz := H.size))
  obtain ⟨hPj, hDj⟩ := va_join (wr := pickL ws isR) (w1 := wc') hP hD isC isR hC (pickL_map hRl) hn hdis (H1 := t.heap) hk hFc hP1 hD1
  have hs2 : perm.filterMap (fun i => (pickL ws isR ++ wc')[i]?) = ws' := by
    have h9 : ∀ (l1 : List Nat) (l2 : va_W), l1.map (fun i => (pickL ws isR ++ wc')[i]?) = l2.map some → l1.filterMap (fun i => (pickL ws isR ++ wc')[i]?) = l2 := by
      intro l1
      induction l1 with
      | nil => intro l2 h; cases l2 with
        | nil => rfl
        | cons x l => simp at h
      | cons i l1 ih => intro l2 h; cases l2 with
        | nil => simp at h
        | cons x l =>
          simp only [List.map_cons, List.cons.injEq] at h
          simp only [List.filterMap_cons, h.1]
          rw [ih l h.2]
    exact h9 _ _ hs
  have hPw := hPj.sub perm hs2
  have hDw := hDj.sub perm hnp hs
  obtain ⟨t2, a1, b1⟩ := kk T'.heap (locs ++ L) (by rw [e1]; exact hPw) hDw
    ⟨Nat.le_trans hS.1 (by rw [e1]; exact hz), fun q h1 h2 => by rw [e1, hk q (Nat.lt_of_lt_of_le h1 hS.1) (fun z => h2 (hFc q z))]; exact hS.2.1 q h1 h2, fun q hq => by
      rcases List.mem_append.mp hq with h | h
      · exact hS.2.2 q h
      · exact hFc _ (hL q h)⟩ hE T' rfl X'
  exact ⟨t2, st t2 a1, b1⟩
theorem QM_and {ov : Option Value} {A : Nat → Prop} {a : Array Value} {g : JFrame} {rest : List Value} {free : Addr → Prop} {mc ms : Nat} (hr : va_Run p l e R s m args below meth c H locs cells slots mc ms g rest (QM ov D wc' A a) free) : va_Run p l e R s m args below meth c H locs cells slots mc ms g rest (fun st o t => QM ov D wc' A a st o t ∧ True) free := by
  intro T hT X
  obtain ⟨v, st₀, t, T', L, h0, X', hL, e1, e2, hq, st⟩ := hr T hT X
  exact ⟨v, st₀, t, T', L, h0, X', hL, e1, e2, ⟨hq, trivial⟩, st⟩
/-- a changing method of an object, with an int answer -/
theorem muV {A0 : Nat → Prop} {H0 : Heap} (X : Ctx p s m args c cc nL own D tys) (As rest : List Value) (hM : Met l y (.code y bytes maxL (some ret) :: TBL) rm (PcM (.ref b :: As) H.size D tys wc) (fun a st o t => QM (some (.int r)) D wc' (va_A wc H.size) a st o t ∧ narrow ret (.int r) = .int r) 0 0 (va_A wc H.size))
    (hg : GoodIn TBL (wsV own idx C y (.code y bytes maxL (some ret) :: TBL))) (hd : y.cls = C ∧ y.cls ≠ "java/lang/invoke/MethodHandle" ∧ y.cls ≠ "java/lang/invoke/VarHandle" ∧ (parseMethodDescriptor y.desc).map (fun d => d.parameters.length) = some As.length)
    (hR : rm.cells = 0 ∧ rm.slots = 0 ∧ rm.frames + 1 ≤ R.frames ∧ 8 + (maxL + 11) + rm.locals ≤ R.locals) (hc0 : cells ≤ R.cells ∧ slots ≤ R.slots) (hP : va_P D vwCl ws H) (hD : va_D A0 ws) (hS : va_S A0 H0 H locs) (hA : ∀ q : Nat, H0.size ≤ q → A0 q) (isC isR perm : List Nat) (hC : isC.map (fun i => ws[i]?) = wc.map some) (hRl : (isR.all fun i => decide (i < ws.length)) = true) (hn : (va_nd isR && va_nd isC && va_nd perm) = true) (hdis : ∀ i ∈ isR, i ∉ isC)
    (hwa : wc.map Prod.fst = wc'.map Prod.fst) (hs : perm.map (fun i => (pickL ws isR ++ wc')[i]?) = ws'.map some) {ci : Nat} {fs : List Value} {q : vw_C} (h0 : wc[0]? = some (b, .inr (ci, fs))) (hcl : vwCl[ci]? = some q) (hqC : q.1 = C)
    (hls : ls.size = nL) (hst : st0 = As.reverse ++ .ref b :: rest) (hW : (rest.map fun v => v.category).sum ≤ 8) (hdg : decode cc pc = .ok (.invokevirtual idx, 3))
    (kk : ∀ (H1 : Heap) (locs1 : List Loc), va_P D vwCl ws' H1 → va_D A0 ws' → va_S A0 H0 H1 locs1 → narrow ret (.int r) = .int r → W p l e R s m args below meth c H1 locs1 cells slots Q (F0 m (pc + 3) ls (.int r :: rest))) : W p l e R s m args below meth c H locs cells slots Q (F0 m pc ls st0) := by
  obtain ⟨hx, hb, hml, hown, hts, hK, hN⟩ := X
  simp only [Bool.and_eq_true] at hn
  have hDc : va_D A0 wc := hD.sub isC hn.1.2 hC
  have hPc : va_P D vwCl wc H := fun k q hk => by
    have h1 : (isC.map (fun i => ws[i]?))[k]? = some (some q) := by rw [hC, List.getElem?_map, hk]; rfl
    rw [List.getElem?_map] at h1
    cases hi : isC[k]? with
    | none => rw [hi] at h1; cases h1
    | some i => rw [hi] at h1; exact hP i q (Option.some.inj h1)
  subst hqC
  exact mcJ (va_runV (As := As) (rest := rest) (cc := cc) ⟨hx, hb, hml, hown, hts⟩ hM (cwV As.length hts hg rfl hR.1 hR.2.1 hd ⟨hR.2.2.1, hR.2.2.2⟩) ⟨PcM_blind, va_recv hK hPc hcl h0, fun U hU hW => ⟨rfl, by rw [hU], by rw [hU]; exact hPc, va_K.moved hW.alike hK, NW.warm hW hN, hDc.weaken (fun _ _ _ _ => trivial)⟩⟩ rfl rfl hls hst (lv_room (rest := st0) hW) hdg hc0) hP hD hS hA isC isR perm hC hRl hn.1.1 hn.1.2 hdis hwa hs hn.2 kk
/-- a changing method of an object, without an answer -/
theorem muVV {A0 : Nat → Prop} {H0 : Heap} (X : Ctx p s m args c cc nL own D tys) (As rest : List Value) (hM : Met l y (.code y bytes maxL none :: TBL) rm (PcM (.ref b :: As) H.size D tys wc) (QM none D wc' (va_A wc H.size)) 0 0 (va_A wc H.size))
    (hg : GoodIn TBL (wsV own idx C y (.code y bytes maxL none :: TBL))) (hd : y.cls = C ∧ y.cls ≠ "java/lang/invoke/MethodHandle" ∧ y.cls ≠ "java/lang/invoke/VarHandle" ∧ (parseMethodDescriptor y.desc).map (fun d => d.parameters.length) = some As.length)
    (hR : rm.cells = 0 ∧ rm.slots = 0 ∧ rm.frames + 1 ≤ R.frames ∧ 8 + (maxL + 11) + rm.locals ≤ R.locals) (hc0 : cells ≤ R.cells ∧ slots ≤ R.slots) (hP : va_P D vwCl ws H) (hD : va_D A0 ws) (hS : va_S A0 H0 H locs) (hA : ∀ q : Nat, H0.size ≤ q → A0 q) (isC isR perm : List Nat) (hC : isC.map (fun i => ws[i]?) = wc.map some) (hRl : (isR.all fun i => decide (i < ws.length)) = true) (hn : (va_nd isR && va_nd isC && va_nd perm) = true) (hdis : ∀ i ∈ isR, i ∉ isC)
    (hwa : wc.map Prod.fst = wc'.map Prod.fst) (hs : perm.map (fun i => (pickL ws isR ++ wc')[i]?) = ws'.map some) {ci : Nat} {fs : List Value} {q : vw_C} (h0 : wc[0]? = some (b, .inr (ci, fs))) (hcl : vwCl[ci]? = some q) (hqC : q.1 = C)
    (hls : ls.size = nL) (hst : st0 = As.reverse ++ .ref b :: rest) (hW : (rest.map fun v => v.category).sum ≤ 8) (hdg : decode cc pc = .ok (.invokevirtual idx, 3))
    (kk : ∀ (H1 : Heap) (locs1 : List Loc), va_P D vwCl ws' H1 → va_D A0 ws' → va_S A0 H0 H1 locs1 → W p l e R s m args below meth c H1 locs1 cells slots Q (F0 m (pc + 3) ls rest)) : W p l e R s m args below meth c H locs cells slots Q (F0 m pc ls st0) := by
  obtain ⟨hx, hb, hml, hown, hts, hK, hN⟩ := X
  simp only [Bool.and_eq_true] at hn
  have hDc : va_D A0 wc := hD.sub isC hn.1.2 hC
  have hPc : va_P D vwCl wc H := fun k q hk => by
    have h1 : (isC.map (fun i => ws[i]?))[k]? = some (some q) := by rw [hC, List.getElem?_map, hk]; rfl
    rw [List.getElem?_map] at h1
    cases hi : isC[k]? with
    | none => rw [hi] at h1; cases h1
    | some i => rw [hi] at h1; exact hP i q (Option.some.inj h1)
  subst hqC
  exact mcJ (QM_and (va_runV (As := As) (rest := rest) (cc := cc) ⟨hx, hb, hml, hown, hts⟩ hM (cwV As.length hts hg rfl hR.1 hR.2.1 hd ⟨hR.2.2.1, hR.2.2.2⟩) ⟨PcM_blind, va_recv hK hPc hcl h0, fun U hU hW => ⟨rfl, by rw [hU], by rw [hU]; exact hPc, va_K.moved hW.alike hK, NW.warm hW hN, hDc.weaken (fun _ _ _ _ => trivial)⟩⟩ rfl rfl hls hst (lv_room (rest := st0) hW) hdg hc0)) hP hD hS hA isC isR perm hC hRl hn.1.1 hn.1.2 hdis hwa hs hn.2 (fun H1 locs1 a b c _ => kk H1 locs1 a b c)
/-- a changing static method of the own class, without an answer -/
theorem muSV {A0 : Nat → Prop} {H0 : Heap} (X : Ctx p s m args c cc nL own D tys) (As rest : List Value) (hM : Met l y (.code y bytes maxL none :: TBL) rm (PcM As H.size D tys wc) (QM none D wc' (va_A wc H.size)) 0 0 (va_A wc H.size))
    (hg : GoodIn TBL (wsS own idx y (.code y bytes maxL none :: TBL))) (hd : y.cls = own ∧ y.cls ≠ "java/lang/invoke/MethodHandle" ∧ y.cls ≠ "java/lang/invoke/VarHandle" ∧ (parseMethodDescriptor y.desc).map (fun d => d.parameters.length) = some As.length)
    (hR : rm.cells = 0 ∧ rm.slots = 0 ∧ rm.frames + 1 ≤ R.frames ∧ 8 + (maxL + 11) + rm.locals ≤ R.locals) (hc0 : cells ≤ R.cells ∧ slots ≤ R.slots) (hP : va_P D vwCl ws H) (hD : va_D A0 ws) (hS : va_S A0 H0 H locs) (hA : ∀ q : Nat, H0.size ≤ q → A0 q) (isC isR perm : List Nat) (hC : isC.map (fun i => ws[i]?) = wc.map some) (hRl : (isR.all fun i => decide (i < ws.length)) = true) (hn : (va_nd isR && va_nd isC && va_nd perm) = true) (hdis : ∀ i ∈ isR, i ∉ isC)
    (hwa : wc.map Prod.fst = wc'.map Prod.fst) (hs : perm.map (fun i => (pickL ws isR ++ wc')[i]?) = ws'.map some)
    (hls : ls.size = nL) (hst : st0 = As.reverse ++ rest) (hW : (rest.map fun v => v.category).sum ≤ 8) (hdg : decode cc pc = .ok (.invokestatic idx, 3))
    (kk : ∀ (H1 : Heap) (locs1 : List Loc), va_P D vwCl ws' H1 → va_D A0 ws' → va_S A0 H0 H1 locs1 → W p l e R s m args below meth c H1 locs1 cells slots Q (F0 m (pc + 3) ls rest)) : W p l e R s m args below meth c H locs cells slots Q (F0 m pc ls st0) := by
  obtain ⟨hx, hb, hml, hown, hts, hK, hN⟩ := X
  simp only [Bool.and_eq_true] at hn
  have hDc : va_D A0 wc := hD.sub isC hn.1.2 hC
  have hPc : va_P D vwCl wc H := fun k q hk => by
    have h1 : (isC.map (fun i => ws[i]?))[k]? = some (some q) := by rw [hC, List.getElem?_map, hk]; rfl
    rw [List.getElem?_map] at h1
    cases hi : isC[k]? with
    | none => rw [hi] at h1; cases h1
    | some i => rw [hi] at h1; exact hP i q (Option.some.inj h1)
  exact mcJ (QM_and (va_runS (As := As) (rest := rest) (cc := cc) ⟨hx, hb, hml, hown, hts⟩ hM (cwS As.length hts hg rfl hR.1 hR.2.1 hd ⟨hR.2.2.1, hR.2.2.2⟩) ⟨PcM_blind, fun U hU hW => ⟨rfl, by rw [hU], by rw [hU]; exact hPc, va_K.moved hW.alike hK, NW.warm hW hN, hDc.weaken (fun _ _ _ _ => trivial)⟩⟩ rfl rfl hls hst (lv_room (rest := st0) hW) hdg hc0)) hP hD hS hA isC isR perm hC hRl hn.1.1 hn.1.2 hdis hwa hs hn.2 (fun H1 locs1 a b c _ => kk H1 locs1 a b c)
end CALLS
end
