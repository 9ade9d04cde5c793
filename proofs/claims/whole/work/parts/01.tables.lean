-- ===== PART A: goes FIRST, ahead of the names: the tables' words, and 'selects' of the private methods out of them =====
/-- a private method of a class that the tables say can be made, by its rows of tables_1 -/
def lw_okq (q : MethodName × Nat) : Prop := (q.1.cls ≠ "java/lang/invoke/MethodHandle" ∧ q.1.cls ≠ "java/lang/invoke/VarHandle") ∧ Cond.instantiable q.1.cls q.2 ∈ tables_1 ∧ Cond.privateMethod q.1 ∈ tables_1 ∧ Cond.instanceMethod q.1 ∈ tables_1
theorem lw_p0 : lw_okq (⟨"AgeLetters", "takePeople", "()V"⟩, 8) := ⟨⟨by decide +kernel, by decide +kernel⟩, List.mem_of_getElem? (i := 14) (by decide +kernel), List.mem_of_getElem? (i := 232) (by decide +kernel), List.mem_of_getElem? (i := 233) (by decide +kernel)⟩
theorem lw_p1 : lw_okq (⟨"AgeLetters$Text", "goesOn", "(I)Z"⟩, 2) := ⟨⟨by decide +kernel, by decide +kernel⟩, List.mem_of_getElem? (i := 22) (by decide +kernel), List.mem_of_getElem? (i := 244) (by decide +kernel), List.mem_of_getElem? (i := 245) (by decide +kernel)⟩
theorem lw_p2 : lw_okq (⟨"AgeLetters$Text", "twoFigures", "(I)I"⟩, 2) := ⟨⟨by decide +kernel, by decide +kernel⟩, List.mem_of_getElem? (i := 22) (by decide +kernel), List.mem_of_getElem? (i := 251) (by decide +kernel), List.mem_of_getElem? (i := 252) (by decide +kernel)⟩
theorem lw_p3 : lw_okq (⟨"AgeLetters$Years", "writeThoseOf", "(I)V"⟩, 10) := ⟨⟨by decide +kernel, by decide +kernel⟩, List.mem_of_getElem? (i := 38) (by decide +kernel), List.mem_of_getElem? (i := 262) (by decide +kernel), List.mem_of_getElem? (i := 263) (by decide +kernel)⟩
theorem lw_p4 : lw_okq (⟨"AgeLetters$Years", "openThoseDue", "(I)V"⟩, 10) := ⟨⟨by decide +kernel, by decide +kernel⟩, List.mem_of_getElem? (i := 38) (by decide +kernel), List.mem_of_getElem? (i := 285) (by decide +kernel), List.mem_of_getElem? (i := 286) (by decide +kernel)⟩
theorem lw_p5 : lw_okq (⟨"AgeLetters$Years", "isWaiting", "(I)Z"⟩, 10) := ⟨⟨by decide +kernel, by decide +kernel⟩, List.mem_of_getElem? (i := 38) (by decide +kernel), List.mem_of_getElem? (i := 289) (by decide +kernel), List.mem_of_getElem? (i := 290) (by decide +kernel)⟩
theorem lw_p6 : lw_okq (⟨"AgeLetters$Years", "hasNeeded", "(I)Z"⟩, 10) := ⟨⟨by decide +kernel, by decide +kernel⟩, List.mem_of_getElem? (i := 38) (by decide +kernel), List.mem_of_getElem? (i := 293) (by decide +kernel), List.mem_of_getElem? (i := 294) (by decide +kernel)⟩
theorem lw_p7 : lw_okq (⟨"AgeLetters$Years", "openOne", "(II)V"⟩, 10) := ⟨⟨by decide +kernel, by decide +kernel⟩, List.mem_of_getElem? (i := 38) (by decide +kernel), List.mem_of_getElem? (i := 297) (by decide +kernel), List.mem_of_getElem? (i := 298) (by decide +kernel)⟩
theorem lw_p8 : lw_okq (⟨"AgeLetters$Years", "grant", "(III)V"⟩, 10) := ⟨⟨by decide +kernel, by decide +kernel⟩, List.mem_of_getElem? (i := 38) (by decide +kernel), List.mem_of_getElem? (i := 301) (by decide +kernel), List.mem_of_getElem? (i := 302) (by decide +kernel)⟩
theorem lw_p9 : lw_okq (⟨"AgeLetters$Years", "nextStir", "(I)I"⟩, 10) := ⟨⟨by decide +kernel, by decide +kernel⟩, List.mem_of_getElem? (i := 38) (by decide +kernel), List.mem_of_getElem? (i := 305) (by decide +kernel), List.mem_of_getElem? (i := 306) (by decide +kernel)⟩
theorem lw_p10 : lw_okq (⟨"AgeLetters", "takeLetter", "(IIIII)I"⟩, 8) := ⟨⟨by decide +kernel, by decide +kernel⟩, List.mem_of_getElem? (i := 14) (by decide +kernel), List.mem_of_getElem? (i := 341) (by decide +kernel), List.mem_of_getElem? (i := 342) (by decide +kernel)⟩
theorem lw_p11 : lw_okq (⟨"AgeLetters", "find", "(I)I"⟩, 8) := ⟨⟨by decide +kernel, by decide +kernel⟩, List.mem_of_getElem? (i := 14) (by decide +kernel), List.mem_of_getElem? (i := 357) (by decide +kernel), List.mem_of_getElem? (i := 358) (by decide +kernel)⟩
theorem lw_p12 : lw_okq (⟨"AgeLetters", "opensWithGrace", "(I)Z"⟩, 8) := ⟨⟨by decide +kernel, by decide +kernel⟩, List.mem_of_getElem? (i := 14) (by decide +kernel), List.mem_of_getElem? (i := 453) (by decide +kernel), List.mem_of_getElem? (i := 454) (by decide +kernel)⟩
theorem lw_p13 : lw_okq (⟨"AgeLetters", "bestSend", "(II)I"⟩, 8) := ⟨⟨by decide +kernel, by decide +kernel⟩, List.mem_of_getElem? (i := 14) (by decide +kernel), List.mem_of_getElem? (i := 461) (by decide +kernel), List.mem_of_getElem? (i := 462) (by decide +kernel)⟩
theorem lw_p14 : lw_okq (⟨"AgeLetters", "learnedBySend", "(IIIII)I"⟩, 8) := ⟨⟨by decide +kernel, by decide +kernel⟩, List.mem_of_getElem? (i := 14) (by decide +kernel), List.mem_of_getElem? (i := 469) (by decide +kernel), List.mem_of_getElem? (i := 470) (by decide +kernel)⟩
theorem lw_p15 : lw_okq (⟨"AgeLetters", "knowsByTrust", "(III)Z"⟩, 8) := ⟨⟨by decide +kernel, by decide +kernel⟩, List.mem_of_getElem? (i := 14) (by decide +kernel), List.mem_of_getElem? (i := 485) (by decide +kernel), List.mem_of_getElem? (i := 486) (by decide +kernel)⟩
def lw_privs_1 : List (MethodName × Nat) := [(⟨"AgeLetters", "takePeople", "()V"⟩, 8), (⟨"AgeLetters$Text", "goesOn", "(I)Z"⟩, 2), (⟨"AgeLetters$Text", "twoFigures", "(I)I"⟩, 2), (⟨"AgeLetters$Years", "writeThoseOf", "(I)V"⟩, 10), (⟨"AgeLetters$Years", "openThoseDue", "(I)V"⟩, 10), (⟨"AgeLetters$Years", "isWaiting", "(I)Z"⟩, 10), (⟨"AgeLetters$Years", "hasNeeded", "(I)Z"⟩, 10), (⟨"AgeLetters$Years", "openOne", "(II)V"⟩, 10), (⟨"AgeLetters$Years", "grant", "(III)V"⟩, 10), (⟨"AgeLetters$Years", "nextStir", "(I)I"⟩, 10), (⟨"AgeLetters", "takeLetter", "(IIIII)I"⟩, 8), (⟨"AgeLetters", "find", "(I)I"⟩, 8), (⟨"AgeLetters", "opensWithGrace", "(I)Z"⟩, 8), (⟨"AgeLetters", "bestSend", "(II)I"⟩, 8), (⟨"AgeLetters", "learnedBySend", "(IIIII)I"⟩, 8), (⟨"AgeLetters", "knowsByTrust", "(III)Z"⟩, 8)]
theorem lw_r1 : ∀ q ∈ lw_privs_1, lw_okq q := List.forall_mem_cons.mpr ⟨lw_p0, List.forall_mem_cons.mpr ⟨lw_p1, List.forall_mem_cons.mpr ⟨lw_p2, List.forall_mem_cons.mpr ⟨lw_p3, List.forall_mem_cons.mpr ⟨lw_p4, List.forall_mem_cons.mpr ⟨lw_p5, List.forall_mem_cons.mpr ⟨lw_p6, List.forall_mem_cons.mpr ⟨lw_p7, List.forall_mem_cons.mpr ⟨lw_p8, List.forall_mem_cons.mpr ⟨lw_p9, List.forall_mem_cons.mpr ⟨lw_p10, List.forall_mem_cons.mpr ⟨lw_p11, List.forall_mem_cons.mpr ⟨lw_p12, List.forall_mem_cons.mpr ⟨lw_p13, List.forall_mem_cons.mpr ⟨lw_p14, List.forall_mem_cons.mpr ⟨lw_p15, fun _ h => absurd h List.not_mem_nil⟩⟩⟩⟩⟩⟩⟩⟩⟩⟩⟩⟩⟩⟩⟩⟩
theorem lw_p16 : lw_okq (⟨"AgeLetters$Years", "bringsWanted", "(I)Z"⟩, 10) := ⟨⟨by decide +kernel, by decide +kernel⟩, List.mem_of_getElem? (i := 38) (by decide +kernel), List.mem_of_getElem? (i := 500) (by decide +kernel), List.mem_of_getElem? (i := 501) (by decide +kernel)⟩
theorem lw_p17 : lw_okq (⟨"AgeLetters$Years", "want", "(II)V"⟩, 10) := ⟨⟨by decide +kernel, by decide +kernel⟩, List.mem_of_getElem? (i := 38) (by decide +kernel), List.mem_of_getElem? (i := 504) (by decide +kernel), List.mem_of_getElem? (i := 505) (by decide +kernel)⟩
theorem lw_p18 : lw_okq (⟨"AgeLetters", "teaches", "(IIII)Z"⟩, 8) := ⟨⟨by decide +kernel, by decide +kernel⟩, List.mem_of_getElem? (i := 14) (by decide +kernel), List.mem_of_getElem? (i := 508) (by decide +kernel), List.mem_of_getElem? (i := 509) (by decide +kernel)⟩
theorem lw_p19 : lw_okq (⟨"AgeLetters", "weightOfKnowing", "(IIII)J"⟩, 8) := ⟨⟨by decide +kernel, by decide +kernel⟩, List.mem_of_getElem? (i := 14) (by decide +kernel), List.mem_of_getElem? (i := 550) (by decide +kernel), List.mem_of_getElem? (i := 551) (by decide +kernel)⟩
theorem lw_p20 : lw_okq (⟨"AgeLetters", "knowsWithShorter", "(III)Z"⟩, 8) := ⟨⟨by decide +kernel, by decide +kernel⟩, List.mem_of_getElem? (i := 14) (by decide +kernel), List.mem_of_getElem? (i := 557) (by decide +kernel), List.mem_of_getElem? (i := 558) (by decide +kernel)⟩
theorem lw_p21 : lw_okq (⟨"AgeLetters", "mixPersons", "(J)J"⟩, 8) := ⟨⟨by decide +kernel, by decide +kernel⟩, List.mem_of_getElem? (i := 14) (by decide +kernel), List.mem_of_getElem? (i := 636) (by decide +kernel), List.mem_of_getElem? (i := 637) (by decide +kernel)⟩
theorem lw_p22 : lw_okq (⟨"AgeLettersModel", "asTold", "()V"⟩, 37) := ⟨⟨by decide +kernel, by decide +kernel⟩, List.mem_of_getElem? (i := 656) (by decide +kernel), List.mem_of_getElem? (i := 662) (by decide +kernel), List.mem_of_getElem? (i := 663) (by decide +kernel)⟩
theorem lw_p23 : lw_okq (⟨"AgeLettersModel", "faultNow", "()I"⟩, 37) := ⟨⟨by decide +kernel, by decide +kernel⟩, List.mem_of_getElem? (i := 656) (by decide +kernel), List.mem_of_getElem? (i := 798) (by decide +kernel), List.mem_of_getElem? (i := 799) (by decide +kernel)⟩
theorem lw_p24 : lw_okq (⟨"AgeLettersModel", "figureAt", "(I)I"⟩, 37) := ⟨⟨by decide +kernel, by decide +kernel⟩, List.mem_of_getElem? (i := 656) (by decide +kernel), List.mem_of_getElem? (i := 802) (by decide +kernel), List.mem_of_getElem? (i := 803) (by decide +kernel)⟩
theorem lw_p25 : lw_okq (⟨"AgeLettersModel", "isPerson", "(I)Z"⟩, 37) := ⟨⟨by decide +kernel, by decide +kernel⟩, List.mem_of_getElem? (i := 656) (by decide +kernel), List.mem_of_getElem? (i := 810) (by decide +kernel), List.mem_of_getElem? (i := 811) (by decide +kernel)⟩
theorem lw_p26 : lw_okq (⟨"AgeLettersModel", "reads", "()V"⟩, 37) := ⟨⟨by decide +kernel, by decide +kernel⟩, List.mem_of_getElem? (i := 656) (by decide +kernel), List.mem_of_getElem? (i := 814) (by decide +kernel), List.mem_of_getElem? (i := 815) (by decide +kernel)⟩
theorem lw_p27 : lw_okq (⟨"AgeLettersModel", "lays", "(IIIIII)V"⟩, 37) := ⟨⟨by decide +kernel, by decide +kernel⟩, List.mem_of_getElem? (i := 656) (by decide +kernel), List.mem_of_getElem? (i := 835) (by decide +kernel), List.mem_of_getElem? (i := 836) (by decide +kernel)⟩
theorem lw_p28 : lw_okq (⟨"AgeLettersModel", "meets", "(I)I"⟩, 37) := ⟨⟨by decide +kernel, by decide +kernel⟩, List.mem_of_getElem? (i := 656) (by decide +kernel), List.mem_of_getElem? (i := 850) (by decide +kernel), List.mem_of_getElem? (i := 851) (by decide +kernel)⟩
theorem lw_p29 : lw_okq (⟨"AgeLettersModel", "ageOf", "(II)I"⟩, 37) := ⟨⟨by decide +kernel, by decide +kernel⟩, List.mem_of_getElem? (i := 656) (by decide +kernel), List.mem_of_getElem? (i := 859) (by decide +kernel), List.mem_of_getElem? (i := 860) (by decide +kernel)⟩
theorem lw_p30 : lw_okq (⟨"AgeLettersModel", "lives", "(II)Z"⟩, 37) := ⟨⟨by decide +kernel, by decide +kernel⟩, List.mem_of_getElem? (i := 656) (by decide +kernel), List.mem_of_getElem? (i := 863) (by decide +kernel), List.mem_of_getElem? (i := 864) (by decide +kernel)⟩
theorem lw_p31 : lw_okq (⟨"AgeLettersModel", "endOf", "(I)I"⟩, 37) := ⟨⟨by decide +kernel, by decide +kernel⟩, List.mem_of_getElem? (i := 656) (by decide +kernel), List.mem_of_getElem? (i := 867) (by decide +kernel), List.mem_of_getElem? (i := 868) (by decide +kernel)⟩
def lw_privs_2 : List (MethodName × Nat) := [(⟨"AgeLetters$Years", "bringsWanted", "(I)Z"⟩, 10), (⟨"AgeLetters$Years", "want", "(II)V"⟩, 10), (⟨"AgeLetters", "teaches", "(IIII)Z"⟩, 8), (⟨"AgeLetters", "weightOfKnowing", "(IIII)J"⟩, 8), (⟨"AgeLetters", "knowsWithShorter", "(III)Z"⟩, 8), (⟨"AgeLetters", "mixPersons", "(J)J"⟩, 8), (⟨"AgeLettersModel", "asTold", "()V"⟩, 37), (⟨"AgeLettersModel", "faultNow", "()I"⟩, 37), (⟨"AgeLettersModel", "figureAt", "(I)I"⟩, 37), (⟨"AgeLettersModel", "isPerson", "(I)Z"⟩, 37), (⟨"AgeLettersModel", "reads", "()V"⟩, 37), (⟨"AgeLettersModel", "lays", "(IIIIII)V"⟩, 37), (⟨"AgeLettersModel", "meets", "(I)I"⟩, 37), (⟨"AgeLettersModel", "ageOf", "(II)I"⟩, 37), (⟨"AgeLettersModel", "lives", "(II)Z"⟩, 37), (⟨"AgeLettersModel", "endOf", "(I)I"⟩, 37)]
theorem lw_r2 : ∀ q ∈ lw_privs_2, lw_okq q := List.forall_mem_cons.mpr ⟨lw_p16, List.forall_mem_cons.mpr ⟨lw_p17, List.forall_mem_cons.mpr ⟨lw_p18, List.forall_mem_cons.mpr ⟨lw_p19, List.forall_mem_cons.mpr ⟨lw_p20, List.forall_mem_cons.mpr ⟨lw_p21, List.forall_mem_cons.mpr ⟨lw_p22, List.forall_mem_cons.mpr ⟨lw_p23, List.forall_mem_cons.mpr ⟨lw_p24, List.forall_mem_cons.mpr ⟨lw_p25, List.forall_mem_cons.mpr ⟨lw_p26, List.forall_mem_cons.mpr ⟨lw_p27, List.forall_mem_cons.mpr ⟨lw_p28, List.forall_mem_cons.mpr ⟨lw_p29, List.forall_mem_cons.mpr ⟨lw_p30, List.forall_mem_cons.mpr ⟨lw_p31, fun _ h => absurd h List.not_mem_nil⟩⟩⟩⟩⟩⟩⟩⟩⟩⟩⟩⟩⟩⟩⟩⟩
theorem lw_p32 : lw_okq (⟨"AgeLettersModel", "tells", "(II)I"⟩, 37) := ⟨⟨by decide +kernel, by decide +kernel⟩, List.mem_of_getElem? (i := 656) (by decide +kernel), List.mem_of_getElem? (i := 874) (by decide +kernel), List.mem_of_getElem? (i := 875) (by decide +kernel)⟩
theorem lw_p33 : lw_okq (⟨"AgeLettersModel", "openedOf", "(I)I"⟩, 37) := ⟨⟨by decide +kernel, by decide +kernel⟩, List.mem_of_getElem? (i := 656) (by decide +kernel), List.mem_of_getElem? (i := 882) (by decide +kernel), List.mem_of_getElem? (i := 883) (by decide +kernel)⟩
theorem lw_p34 : lw_okq (⟨"AgeLettersModel", "runsTo", "(I)V"⟩, 37) := ⟨⟨by decide +kernel, by decide +kernel⟩, List.mem_of_getElem? (i := 656) (by decide +kernel), List.mem_of_getElem? (i := 886) (by decide +kernel), List.mem_of_getElem? (i := 887) (by decide +kernel)⟩
theorem lw_p35 : lw_okq (⟨"AgeLettersModel", "runs", "(II)V"⟩, 37) := ⟨⟨by decide +kernel, by decide +kernel⟩, List.mem_of_getElem? (i := 656) (by decide +kernel), List.mem_of_getElem? (i := 890) (by decide +kernel), List.mem_of_getElem? (i := 891) (by decide +kernel)⟩
theorem lw_p36 : lw_okq (⟨"AgeLettersModel", "opens", "(II)V"⟩, 37) := ⟨⟨by decide +kernel, by decide +kernel⟩, List.mem_of_getElem? (i := 656) (by decide +kernel), List.mem_of_getElem? (i := 894) (by decide +kernel), List.mem_of_getElem? (i := 895) (by decide +kernel)⟩
theorem lw_p37 : lw_okq (⟨"AgeLettersModel", "writtenOf", "(I)I"⟩, 37) := ⟨⟨by decide +kernel, by decide +kernel⟩, List.mem_of_getElem? (i := 656) (by decide +kernel), List.mem_of_getElem? (i := 902) (by decide +kernel), List.mem_of_getElem? (i := 903) (by decide +kernel)⟩
theorem lw_p38 : lw_okq (⟨"AgeLettersModel", "waitsOf", "(II)I"⟩, 37) := ⟨⟨by decide +kernel, by decide +kernel⟩, List.mem_of_getElem? (i := 656) (by decide +kernel), List.mem_of_getElem? (i := 910) (by decide +kernel), List.mem_of_getElem? (i := 911) (by decide +kernel)⟩
theorem lw_p39 : lw_okq (⟨"AgeLettersModel", "bitsNow", "(I)I"⟩, 37) := ⟨⟨by decide +kernel, by decide +kernel⟩, List.mem_of_getElem? (i := 656) (by decide +kernel), List.mem_of_getElem? (i := 914) (by decide +kernel), List.mem_of_getElem? (i := 915) (by decide +kernel)⟩
theorem lw_p40 : lw_okq (⟨"AgeLettersModel", "knownOf", "(II)I"⟩, 37) := ⟨⟨by decide +kernel, by decide +kernel⟩, List.mem_of_getElem? (i := 656) (by decide +kernel), List.mem_of_getElem? (i := 922) (by decide +kernel), List.mem_of_getElem? (i := 923) (by decide +kernel)⟩
theorem lw_p41 : lw_okq (⟨"AgeLettersModel", "learnedOf", "(II)I"⟩, 37) := ⟨⟨by decide +kernel, by decide +kernel⟩, List.mem_of_getElem? (i := 656) (by decide +kernel), List.mem_of_getElem? (i := 930) (by decide +kernel), List.mem_of_getElem? (i := 931) (by decide +kernel)⟩
theorem lw_p42 : lw_okq (⟨"AgeLettersModel", "learnsIn", "(III)I"⟩, 37) := ⟨⟨by decide +kernel, by decide +kernel⟩, List.mem_of_getElem? (i := 656) (by decide +kernel), List.mem_of_getElem? (i := 934) (by decide +kernel), List.mem_of_getElem? (i := 935) (by decide +kernel)⟩
theorem lw_p43 : lw_okq (⟨"AgeLettersModel", "sealedNow", "()I"⟩, 37) := ⟨⟨by decide +kernel, by decide +kernel⟩, List.mem_of_getElem? (i := 656) (by decide +kernel), List.mem_of_getElem? (i := 942) (by decide +kernel), List.mem_of_getElem? (i := 943) (by decide +kernel)⟩
theorem lw_p44 : lw_okq (⟨"AgeLettersModel", "loudOf", "(I)I"⟩, 37) := ⟨⟨by decide +kernel, by decide +kernel⟩, List.mem_of_getElem? (i := 656) (by decide +kernel), List.mem_of_getElem? (i := 950) (by decide +kernel), List.mem_of_getElem? (i := 951) (by decide +kernel)⟩
theorem lw_p45 : lw_okq (⟨"AgeLettersModel", "tooSoonNow", "()I"⟩, 37) := ⟨⟨by decide +kernel, by decide +kernel⟩, List.mem_of_getElem? (i := 656) (by decide +kernel), List.mem_of_getElem? (i := 958) (by decide +kernel), List.mem_of_getElem? (i := 959) (by decide +kernel)⟩
theorem lw_p46 : lw_okq (⟨"AgeLettersModel", "sendOf", "(III)I"⟩, 37) := ⟨⟨by decide +kernel, by decide +kernel⟩, List.mem_of_getElem? (i := 656) (by decide +kernel), List.mem_of_getElem? (i := 966) (by decide +kernel), List.mem_of_getElem? (i := 967) (by decide +kernel)⟩
theorem lw_p47 : lw_okq (⟨"AgeLettersModel", "sends", "(II)V"⟩, 37) := ⟨⟨by decide +kernel, by decide +kernel⟩, List.mem_of_getElem? (i := 656) (by decide +kernel), List.mem_of_getElem? (i := 970) (by decide +kernel), List.mem_of_getElem? (i := 971) (by decide +kernel)⟩
def lw_privs_3 : List (MethodName × Nat) := [(⟨"AgeLettersModel", "tells", "(II)I"⟩, 37), (⟨"AgeLettersModel", "openedOf", "(I)I"⟩, 37), (⟨"AgeLettersModel", "runsTo", "(I)V"⟩, 37), (⟨"AgeLettersModel", "runs", "(II)V"⟩, 37), (⟨"AgeLettersModel", "opens", "(II)V"⟩, 37), (⟨"AgeLettersModel", "writtenOf", "(I)I"⟩, 37), (⟨"AgeLettersModel", "waitsOf", "(II)I"⟩, 37), (⟨"AgeLettersModel", "bitsNow", "(I)I"⟩, 37), (⟨"AgeLettersModel", "knownOf", "(II)I"⟩, 37), (⟨"AgeLettersModel", "learnedOf", "(II)I"⟩, 37), (⟨"AgeLettersModel", "learnsIn", "(III)I"⟩, 37), (⟨"AgeLettersModel", "sealedNow", "()I"⟩, 37), (⟨"AgeLettersModel", "loudOf", "(I)I"⟩, 37), (⟨"AgeLettersModel", "tooSoonNow", "()I"⟩, 37), (⟨"AgeLettersModel", "sendOf", "(III)I"⟩, 37), (⟨"AgeLettersModel", "sends", "(II)V"⟩, 37)]
theorem lw_r3 : ∀ q ∈ lw_privs_3, lw_okq q := List.forall_mem_cons.mpr ⟨lw_p32, List.forall_mem_cons.mpr ⟨lw_p33, List.forall_mem_cons.mpr ⟨lw_p34, List.forall_mem_cons.mpr ⟨lw_p35, List.forall_mem_cons.mpr ⟨lw_p36, List.forall_mem_cons.mpr ⟨lw_p37, List.forall_mem_cons.mpr ⟨lw_p38, List.forall_mem_cons.mpr ⟨lw_p39, List.forall_mem_cons.mpr ⟨lw_p40, List.forall_mem_cons.mpr ⟨lw_p41, List.forall_mem_cons.mpr ⟨lw_p42, List.forall_mem_cons.mpr ⟨lw_p43, List.forall_mem_cons.mpr ⟨lw_p44, List.forall_mem_cons.mpr ⟨lw_p45, List.forall_mem_cons.mpr ⟨lw_p46, List.forall_mem_cons.mpr ⟨lw_p47, fun _ h => absurd h List.not_mem_nil⟩⟩⟩⟩⟩⟩⟩⟩⟩⟩⟩⟩⟩⟩⟩⟩
theorem lw_p48 : lw_okq (⟨"AgeLettersModel", "trustOf", "(II)I"⟩, 37) := ⟨⟨by decide +kernel, by decide +kernel⟩, List.mem_of_getElem? (i := 656) (by decide +kernel), List.mem_of_getElem? (i := 978) (by decide +kernel), List.mem_of_getElem? (i := 979) (by decide +kernel)⟩
theorem lw_p49 : lw_okq (⟨"AgeLettersModel", "teachOf", "(III)I"⟩, 37) := ⟨⟨by decide +kernel, by decide +kernel⟩, List.mem_of_getElem? (i := 656) (by decide +kernel), List.mem_of_getElem? (i := 989) (by decide +kernel), List.mem_of_getElem? (i := 990) (by decide +kernel)⟩
theorem lw_p50 : lw_okq (⟨"AgeLettersModel", "saidOf", "(I)I"⟩, 37) := ⟨⟨by decide +kernel, by decide +kernel⟩, List.mem_of_getElem? (i := 656) (by decide +kernel), List.mem_of_getElem? (i := 1005) (by decide +kernel), List.mem_of_getElem? (i := 1006) (by decide +kernel)⟩
theorem lw_p51 : lw_okq (⟨"AgeLettersModel", "isDone", "()Z"⟩, 37) := ⟨⟨by decide +kernel, by decide +kernel⟩, List.mem_of_getElem? (i := 656) (by decide +kernel), List.mem_of_getElem? (i := 1009) (by decide +kernel), List.mem_of_getElem? (i := 1010) (by decide +kernel)⟩
theorem lw_p52 : lw_okq (⟨"AgeLettersModel", "forgedNow", "()I"⟩, 37) := ⟨⟨by decide +kernel, by decide +kernel⟩, List.mem_of_getElem? (i := 656) (by decide +kernel), List.mem_of_getElem? (i := 1017) (by decide +kernel), List.mem_of_getElem? (i := 1018) (by decide +kernel)⟩
theorem lw_p53 : lw_okq (⟨"AgeLettersModel", "chanceOf", "(IIII)J"⟩, 37) := ⟨⟨by decide +kernel, by decide +kernel⟩, List.mem_of_getElem? (i := 656) (by decide +kernel), List.mem_of_getElem? (i := 1025) (by decide +kernel), List.mem_of_getElem? (i := 1026) (by decide +kernel)⟩
theorem lw_p54 : lw_okq (⟨"AgeLettersModel", "drawnOf", "(II)I"⟩, 37) := ⟨⟨by decide +kernel, by decide +kernel⟩, List.mem_of_getElem? (i := 656) (by decide +kernel), List.mem_of_getElem? (i := 1041) (by decide +kernel), List.mem_of_getElem? (i := 1042) (by decide +kernel)⟩
theorem lw_p55 : lw_okq (⟨"AgeLettersModel", "lacks", "(III)I"⟩, 37) := ⟨⟨by decide +kernel, by decide +kernel⟩, List.mem_of_getElem? (i := 656) (by decide +kernel), List.mem_of_getElem? (i := 1058) (by decide +kernel), List.mem_of_getElem? (i := 1059) (by decide +kernel)⟩
theorem lw_p56 : lw_okq (⟨"AgeLettersModel", "keep", "(III)V"⟩, 37) := ⟨⟨by decide +kernel, by decide +kernel⟩, List.mem_of_getElem? (i := 656) (by decide +kernel), List.mem_of_getElem? (i := 1062) (by decide +kernel), List.mem_of_getElem? (i := 1063) (by decide +kernel)⟩
theorem lw_p57 : lw_okq (⟨"AgeLettersModel", "sumOf", "(I)I"⟩, 37) := ⟨⟨by decide +kernel, by decide +kernel⟩, List.mem_of_getElem? (i := 656) (by decide +kernel), List.mem_of_getElem? (i := 1083) (by decide +kernel), List.mem_of_getElem? (i := 1084) (by decide +kernel)⟩
def lw_privs_4 : List (MethodName × Nat) := [(⟨"AgeLettersModel", "trustOf", "(II)I"⟩, 37), (⟨"AgeLettersModel", "teachOf", "(III)I"⟩, 37), (⟨"AgeLettersModel", "saidOf", "(I)I"⟩, 37), (⟨"AgeLettersModel", "isDone", "()Z"⟩, 37), (⟨"AgeLettersModel", "forgedNow", "()I"⟩, 37), (⟨"AgeLettersModel", "chanceOf", "(IIII)J"⟩, 37), (⟨"AgeLettersModel", "drawnOf", "(II)I"⟩, 37), (⟨"AgeLettersModel", "lacks", "(III)I"⟩, 37), (⟨"AgeLettersModel", "keep", "(III)V"⟩, 37), (⟨"AgeLettersModel", "sumOf", "(I)I"⟩, 37)]
theorem lw_r4 : ∀ q ∈ lw_privs_4, lw_okq q := List.forall_mem_cons.mpr ⟨lw_p48, List.forall_mem_cons.mpr ⟨lw_p49, List.forall_mem_cons.mpr ⟨lw_p50, List.forall_mem_cons.mpr ⟨lw_p51, List.forall_mem_cons.mpr ⟨lw_p52, List.forall_mem_cons.mpr ⟨lw_p53, List.forall_mem_cons.mpr ⟨lw_p54, List.forall_mem_cons.mpr ⟨lw_p55, List.forall_mem_cons.mpr ⟨lw_p56, List.forall_mem_cons.mpr ⟨lw_p57, fun _ h => absurd h List.not_mem_nil⟩⟩⟩⟩⟩⟩⟩⟩⟩⟩
def lw_privs : List (MethodName × Nat) := lw_privs_1 ++ (lw_privs_2 ++ (lw_privs_3 ++ (lw_privs_4)))
def lw_tbl : List Cond := k2_sels lw_privs ++ tables_1
theorem lw_privs_ok : ∀ q ∈ lw_privs, lw_okq q := by
  show ∀ q ∈ lw_privs_1 ++ (lw_privs_2 ++ (lw_privs_3 ++ (lw_privs_4))), lw_okq q
  exact List.forall_mem_append.mpr ⟨lw_r1, List.forall_mem_append.mpr ⟨lw_r2, List.forall_mem_append.mpr ⟨lw_r3, lw_r4⟩⟩⟩
-- ===== end of PART A; then your names; then what follows =====
def RX0 : String := "AgeLetters$Deeds"
def TX0 : u_T := fun k => match k with
  | 0 => ("AgeLetters$Deeds", "size", "I", false)
  | 1 => ("AgeLetters$Deeds", "year", "[I", true)
  | 2 => ("AgeLetters$Deeds", "person", "[I", true)
  | 3 => ("AgeLetters$Deeds", "word", "[I", true)
  | _ => ("AgeLetters$Deeds", "is", "[I", true)
def tyX0 : Nat → FieldType := fun k => match k with
  | 0 => .int
  | 1 => .array .int
  | 2 => .array .int
  | 3 => .array .int
  | _ => .array .int
theorem nmX0 : ∀ a, a < 5 → ∀ b, b < 5 → a ≠ b → (TX0 a).2.1 ≠ (TX0 b).2.1 := by decide +kernel
theorem tyX0_ok : ∀ k, k < 5 → parseFieldDescriptor (TX0 k).2.2.1 = some (tyX0 k) := by decide +kernel
abbrev cX0_init : ByteArray := prog_2_method_1_code
def yX0_init : MethodName := ⟨RX0, "<init>", "()V"⟩
abbrev cX0_addOne : ByteArray := prog_2_method_2_code
def yX0_addOne : MethodName := ⟨RX0, "addOne", "(IIII)V"⟩
abbrev cX0_cameOutIn : ByteArray := prog_2_method_3_code
def yX0_cameOutIn : MethodName := ⟨RX0, "cameOutIn", "(LAgeLetters$Years;)Z"⟩
def RX1 : String := "AgeLetters$Folk"
def TX1 : u_T := fun k => match k with
  | 0 => ("AgeLetters$Folk", "count", "I", false)
  | 1 => ("AgeLetters$Folk", "born", "[I", true)
  | 2 => ("AgeLetters$Folk", "end", "[I", true)
  | 3 => ("AgeLetters$Folk", "kind", "[I", true)
  | 4 => ("AgeLetters$Folk", "more", "[I", true)
  | _ => ("AgeLetters$Folk", "own", "[I", true)
def tyX1 : Nat → FieldType := fun k => match k with
  | 0 => .int
  | 1 => .array .int
  | 2 => .array .int
  | 3 => .array .int
  | 4 => .array .int
  | _ => .array .int
theorem nmX1 : ∀ a, a < 6 → ∀ b, b < 6 → a ≠ b → (TX1 a).2.1 ≠ (TX1 b).2.1 := by decide +kernel
theorem tyX1_ok : ∀ k, k < 6 → parseFieldDescriptor (TX1 k).2.2.1 = some (tyX1 k) := by decide +kernel
abbrev cX1_init : ByteArray := prog_3_method_1_code
def yX1_init : MethodName := ⟨RX1, "<init>", "()V"⟩
abbrev cX1_isThere : ByteArray := prog_3_method_2_code
def yX1_isThere : MethodName := ⟨RX1, "isThere", "(I)Z"⟩
abbrev cX1_lives : ByteArray := prog_3_method_3_code
def yX1_lives : MethodName := ⟨RX1, "lives", "(II)Z"⟩
abbrev cX1_toldAge : ByteArray := prog_3_method_4_code
def yX1_toldAge : MethodName := ⟨RX1, "toldAge", "(II)I"⟩
abbrev cX1_elders : ByteArray := prog_3_method_5_code
def yX1_elders : MethodName := ⟨RX1, "elders", "()I"⟩
abbrev cX1_ownWords : ByteArray := prog_3_method_6_code
def yX1_ownWords : MethodName := ⟨RX1, "ownWords", "()I"⟩
abbrev cX1_shorten : ByteArray := prog_3_method_7_code
def yX1_shorten : MethodName := ⟨RX1, "shorten", "(LAgeLetters$Folk;I)V"⟩
abbrev cX1_takeFrom : ByteArray := prog_3_method_8_code
def yX1_takeFrom : MethodName := ⟨RX1, "takeFrom", "(LAgeLetters$Folk;)V"⟩
def RX2 : String := "AgeLetters$Post"
def TX2 : u_T := fun k => match k with
  | 0 => ("AgeLetters$Post", "size", "I", false)
  | 1 => ("AgeLetters$Post", "writer", "[I", true)
  | 2 => ("AgeLetters$Post", "reader", "[I", true)
  | 3 => ("AgeLetters$Post", "year", "[I", true)
  | 4 => ("AgeLetters$Post", "word", "[I", true)
  | _ => ("AgeLetters$Post", "needed", "[I", true)
def tyX2 : Nat → FieldType := fun k => match k with
  | 0 => .int
  | 1 => .array .int
  | 2 => .array .int
  | 3 => .array .int
  | 4 => .array .int
  | _ => .array .int
theorem nmX2 : ∀ a, a < 6 → ∀ b, b < 6 → a ≠ b → (TX2 a).2.1 ≠ (TX2 b).2.1 := by decide +kernel
theorem tyX2_ok : ∀ k, k < 6 → parseFieldDescriptor (TX2 k).2.2.1 = some (tyX2 k) := by decide +kernel
abbrev cX2_init : ByteArray := prog_4_method_1_code
def yX2_init : MethodName := ⟨RX2, "<init>", "()V"⟩
abbrev cX2_setLast : ByteArray := prog_4_method_2_code
def yX2_setLast : MethodName := ⟨RX2, "setLast", "(IIIII)V"⟩
abbrev cX2_takeFrom : ByteArray := prog_4_method_3_code
def yX2_takeFrom : MethodName := ⟨RX2, "takeFrom", "(LAgeLetters$Post;)V"⟩
def RX3 : String := "AgeLetters$Row"
def TX3 : u_T := fun k => match k with
  | 0 => ("AgeLetters$Row", "isLost", "Z", false)
  | 1 => ("AgeLetters$Row", "form", "I", false)
  | 2 => ("AgeLetters$Row", "size", "I", false)
  | _ => ("AgeLetters$Row", "items", "[I", true)
def tyX3 : Nat → FieldType := fun k => match k with
  | 0 => .boolean
  | 1 => .int
  | 2 => .int
  | _ => .array .int
theorem nmX3 : ∀ a, a < 4 → ∀ b, b < 4 → a ≠ b → (TX3 a).2.1 ≠ (TX3 b).2.1 := by decide +kernel
theorem tyX3_ok : ∀ k, k < 4 → parseFieldDescriptor (TX3 k).2.2.1 = some (tyX3 k) := by decide +kernel
abbrev cX3_init : ByteArray := prog_5_method_1_code
def yX3_init : MethodName := ⟨RX3, "<init>", "()V"⟩
abbrev cX3_begin : ByteArray := prog_5_method_2_code
def yX3_begin : MethodName := ⟨RX3, "begin", "(II)V"⟩
abbrev cX3_findingAt : ByteArray := prog_5_method_3_code
def yX3_findingAt : MethodName := ⟨RX3, "findingAt", "(II)I"⟩
abbrev cX3_hasStretch : ByteArray := prog_5_method_4_code
def yX3_hasStretch : MethodName := ⟨RX3, "hasStretch", "(II)Z"⟩
abbrev cX3_setItem : ByteArray := prog_5_method_5_code
def yX3_setItem : MethodName := ⟨RX3, "setItem", "(II)V"⟩
def RX4 : String := "AgeLetters$Text"
def TX4 : u_T := fun k => match k with
  | 0 => ("AgeLetters$Text", "bytes", "[I", true)
  | _ => ("AgeLetters$Text", "length", "I", false)
def tyX4 : Nat → FieldType := fun k => match k with
  | 0 => .array .int
  | _ => .int
theorem nmX4 : ∀ a, a < 2 → ∀ b, b < 2 → a ≠ b → (TX4 a).2.1 ≠ (TX4 b).2.1 := by decide +kernel
theorem tyX4_ok : ∀ k, k < 2 → parseFieldDescriptor (TX4 k).2.2.1 = some (tyX4 k) := by decide +kernel
abbrev cX4_init : ByteArray := prog_6_method_1_code
def yX4_init : MethodName := ⟨RX4, "<init>", "()V"⟩
abbrev cX4_firstFault : ByteArray := prog_6_method_2_code
def yX4_firstFault : MethodName := ⟨RX4, "firstFault", "()I"⟩
abbrev cX4_goesOn : ByteArray := prog_6_method_3_code
def yX4_goesOn : MethodName := ⟨RX4, "goesOn", "(I)Z"⟩
abbrev cX4_tellPeople : ByteArray := prog_6_method_4_code
def yX4_tellPeople : MethodName := ⟨RX4, "tellPeople", "(LAgeLetters$Folk;)V"⟩
abbrev cX4_twoFigures : ByteArray := prog_6_method_5_code
def yX4_twoFigures : MethodName := ⟨RX4, "twoFigures", "(I)I"⟩
abbrev cX4_isFigure : ByteArray := prog_6_method_6_code
def yX4_isFigure : MethodName := ⟨RX4, "isFigure", "(I)Z"⟩
def RX5 : String := "AgeLetters$Years"
def TX5 : u_T := fun k => match k with
  | 0 => ("AgeLetters$Years", "folk", "LAgeLetters$Folk;", true)
  | 1 => ("AgeLetters$Years", "post", "LAgeLetters$Post;", true)
  | 2 => ("AgeLetters$Years", "awayBits", "I", false)
  | 3 => ("AgeLetters$Years", "writtenBits", "I", false)
  | 4 => ("AgeLetters$Years", "openedBits", "I", false)
  | 5 => ("AgeLetters$Years", "openedIn", "[I", true)
  | 6 => ("AgeLetters$Years", "dueIn", "[I", true)
  | 7 => ("AgeLetters$Years", "knownBits", "[I", true)
  | 8 => ("AgeLetters$Years", "learnedIn", "[I", true)
  | _ => ("AgeLetters$Years", "wantedBits", "[I", true)
def tyX5 : Nat → FieldType := fun k => match k with
  | 0 => .object "AgeLetters$Folk"
  | 1 => .object "AgeLetters$Post"
  | 2 => .int
  | 3 => .int
  | 4 => .int
  | 5 => .array .int
  | 6 => .array .int
  | 7 => .array .int
  | 8 => .array .int
  | _ => .array .int
theorem nmX5 : ∀ a, a < 10 → ∀ b, b < 10 → a ≠ b → (TX5 a).2.1 ≠ (TX5 b).2.1 := by decide +kernel
theorem tyX5_ok : ∀ k, k < 10 → parseFieldDescriptor (TX5 k).2.2.1 = some (tyX5 k) := by decide +kernel
abbrev cX5_init : ByteArray := prog_7_method_1_code
def yX5_init : MethodName := ⟨RX5, "<init>", "()V"⟩
abbrev cX5_takeFrom : ByteArray := prog_7_method_2_code
def yX5_takeFrom : MethodName := ⟨RX5, "takeFrom", "(LAgeLetters$Years;)V"⟩
abbrev cX5_live : ByteArray := prog_7_method_3_code
def yX5_live : MethodName := ⟨RX5, "live", "()V"⟩
abbrev cX5_writeThoseOf : ByteArray := prog_7_method_4_code
def yX5_writeThoseOf : MethodName := ⟨RX5, "writeThoseOf", "(I)V"⟩
abbrev cX5_openThoseDue : ByteArray := prog_7_method_5_code
def yX5_openThoseDue : MethodName := ⟨RX5, "openThoseDue", "(I)V"⟩
abbrev cX5_openOne : ByteArray := prog_7_method_6_code
def yX5_openOne : MethodName := ⟨RX5, "openOne", "(II)V"⟩
abbrev cX5_grant : ByteArray := prog_7_method_7_code
def yX5_grant : MethodName := ⟨RX5, "grant", "(III)V"⟩
abbrev cX5_isWaiting : ByteArray := prog_7_method_8_code
def yX5_isWaiting : MethodName := ⟨RX5, "isWaiting", "(I)Z"⟩
abbrev cX5_hasNeeded : ByteArray := prog_7_method_9_code
def yX5_hasNeeded : MethodName := ⟨RX5, "hasNeeded", "(I)Z"⟩
abbrev cX5_nextStir : ByteArray := prog_7_method_10_code
def yX5_nextStir : MethodName := ⟨RX5, "nextStir", "(I)I"⟩
abbrev cX5_dueYear : ByteArray := prog_7_method_11_code
def yX5_dueYear : MethodName := ⟨RX5, "dueYear", "(I)I"⟩
abbrev cX5_helpfulFor : ByteArray := prog_7_method_12_code
def yX5_helpfulFor : MethodName := ⟨RX5, "helpfulFor", "(III)I"⟩
abbrev cX5_bringsWanted : ByteArray := prog_7_method_13_code
def yX5_bringsWanted : MethodName := ⟨RX5, "bringsWanted", "(I)Z"⟩
abbrev cX5_want : ByteArray := prog_7_method_14_code
def yX5_want : MethodName := ⟨RX5, "want", "(II)V"⟩
abbrev cX5_involvedIn : ByteArray := prog_7_method_15_code
def yX5_involvedIn : MethodName := ⟨RX5, "involvedIn", "(I)I"⟩
abbrev cX5_couldWrite : ByteArray := prog_7_method_16_code
def yX5_couldWrite : MethodName := ⟨RX5, "couldWrite", "(III)Z"⟩
abbrev cX5_openingYear : ByteArray := prog_7_method_17_code
def yX5_openingYear : MethodName := ⟨RX5, "openingYear", "(I)I"⟩
abbrev cX5_learningYear : ByteArray := prog_7_method_18_code
def yX5_learningYear : MethodName := ⟨RX5, "learningYear", "(II)I"⟩
abbrev cX5_knew : ByteArray := prog_7_method_19_code
def yX5_knew : MethodName := ⟨RX5, "knew", "(III)Z"⟩
abbrev cX5_wordsBehind : ByteArray := prog_7_method_20_code
def yX5_wordsBehind : MethodName := ⟨RX5, "wordsBehind", "(II)I"⟩
abbrev cX5_openedBehind : ByteArray := prog_7_method_21_code
def yX5_openedBehind : MethodName := ⟨RX5, "openedBehind", "(I)I"⟩
abbrev cX5_waitingBehind : ByteArray := prog_7_method_22_code
def yX5_waitingBehind : MethodName := ⟨RX5, "waitingBehind", "(I)I"⟩
abbrev cX5_sealedBits : ByteArray := prog_7_method_23_code
def yX5_sealedBits : MethodName := ⟨RX5, "sealedBits", "()I"⟩
abbrev cX5_openedWithin : ByteArray := prog_7_method_24_code
def yX5_openedWithin : MethodName := ⟨RX5, "openedWithin", "(I)I"⟩
abbrev cX5_loudestYear : ByteArray := prog_7_method_25_code
def yX5_loudestYear : MethodName := ⟨RX5, "loudestYear", "()I"⟩
def RX6 : String := "AgeLetters"
def TX6 : u_T := fun k => match k with
  | 0 => ("AgeLetters", "text", "LAgeLetters$Text;", true)
  | 1 => ("AgeLetters", "lived", "LAgeLetters$Years;", true)
  | 2 => ("AgeLetters", "supposed", "LAgeLetters$Years;", true)
  | 3 => ("AgeLetters", "folk", "LAgeLetters$Folk;", true)
  | 4 => ("AgeLetters", "post", "LAgeLetters$Post;", true)
  | 5 => ("AgeLetters", "deeds", "LAgeLetters$Deeds;", true)
  | 6 => ("AgeLetters", "rows", "[LAgeLetters$Row;", true)
  | _ => ("AgeLetters", "latestFinding", "I", false)
def tyX6 : Nat → FieldType := fun k => match k with
  | 0 => .object "AgeLetters$Text"
  | 1 => .object "AgeLetters$Years"
  | 2 => .object "AgeLetters$Years"
  | 3 => .object "AgeLetters$Folk"
  | 4 => .object "AgeLetters$Post"
  | 5 => .object "AgeLetters$Deeds"
  | 6 => .array (.object "AgeLetters$Row")
  | _ => .int
theorem nmX6 : ∀ a, a < 8 → ∀ b, b < 8 → a ≠ b → (TX6 a).2.1 ≠ (TX6 b).2.1 := by decide +kernel
theorem tyX6_ok : ∀ k, k < 8 → parseFieldDescriptor (TX6 k).2.2.1 = some (tyX6 k) := by decide +kernel
abbrev cX6_init : ByteArray := prog_1_method_1_code
def yX6_init : MethodName := ⟨RX6, "<init>", "()V"⟩
abbrev cX6_type : ByteArray := prog_1_method_2_code
def yX6_type : MethodName := ⟨RX6, "type", "(I)I"⟩
abbrev cX6_wipe : ByteArray := prog_1_method_3_code
def yX6_wipe : MethodName := ⟨RX6, "wipe", "()I"⟩
abbrev cX6_undo : ByteArray := prog_1_method_4_code
def yX6_undo : MethodName := ⟨RX6, "undo", "()I"⟩
abbrev cX6_fault : ByteArray := prog_1_method_5_code
def yX6_fault : MethodName := ⟨RX6, "fault", "()I"⟩
abbrev cX6_person : ByteArray := prog_1_method_6_code
def yX6_person : MethodName := ⟨RX6, "person", "(II)I"⟩
abbrev cX6_knows : ByteArray := prog_1_method_7_code
def yX6_knows : MethodName := ⟨RX6, "knows", "(II)I"⟩
abbrev cX6_letter : ByteArray := prog_1_method_8_code
def yX6_letter : MethodName := ⟨RX6, "letter", "(IIIII)I"⟩
abbrev cX6_back : ByteArray := prog_1_method_9_code
def yX6_back : MethodName := ⟨RX6, "back", "()I"⟩
abbrev cX6_read : ByteArray := prog_1_method_10_code
def yX6_read : MethodName := ⟨RX6, "read", "(I)I"⟩
abbrev cX6_takePeople : ByteArray := prog_1_method_11_code
def yX6_takePeople : MethodName := ⟨RX6, "takePeople", "()V"⟩
abbrev cX6_takeLetter : ByteArray := prog_1_method_12_code
def yX6_takeLetter : MethodName := ⟨RX6, "takeLetter", "(IIIII)I"⟩
abbrev cX6_age : ByteArray := prog_1_method_13_code
def yX6_age : MethodName := ⟨RX6, "age", "(II)I"⟩
abbrev cX6_opened : ByteArray := prog_1_method_14_code
def yX6_opened : MethodName := ⟨RX6, "opened", "(I)I"⟩
abbrev cX6_written : ByteArray := prog_1_method_15_code
def yX6_written : MethodName := ⟨RX6, "written", "(I)I"⟩
abbrev cX6_waits : ByteArray := prog_1_method_16_code
def yX6_waits : MethodName := ⟨RX6, "waits", "(II)I"⟩
abbrev cX6_known : ByteArray := prog_1_method_17_code
def yX6_known : MethodName := ⟨RX6, "known", "(II)I"⟩
abbrev cX6_learned : ByteArray := prog_1_method_18_code
def yX6_learned : MethodName := ⟨RX6, "learned", "(II)I"⟩
abbrev cX6_sealed : ByteArray := prog_1_method_19_code
def yX6_sealed : MethodName := ⟨RX6, "sealed", "()I"⟩
abbrev cX6_loud : ByteArray := prog_1_method_20_code
def yX6_loud : MethodName := ⟨RX6, "loud", "(I)I"⟩
abbrev cX6_tooSoon : ByteArray := prog_1_method_21_code
def yX6_tooSoon : MethodName := ⟨RX6, "tooSoon", "()I"⟩
abbrev cX6_opensWithGrace : ByteArray := prog_1_method_22_code
def yX6_opensWithGrace : MethodName := ⟨RX6, "opensWithGrace", "(I)Z"⟩
abbrev cX6_send : ByteArray := prog_1_method_23_code
def yX6_send : MethodName := ⟨RX6, "send", "(III)I"⟩
abbrev cX6_bestSend : ByteArray := prog_1_method_24_code
def yX6_bestSend : MethodName := ⟨RX6, "bestSend", "(II)I"⟩
abbrev cX6_learnedBySend : ByteArray := prog_1_method_25_code
def yX6_learnedBySend : MethodName := ⟨RX6, "learnedBySend", "(IIIII)I"⟩
abbrev cX6_trust : ByteArray := prog_1_method_26_code
def yX6_trust : MethodName := ⟨RX6, "trust", "(II)I"⟩
abbrev cX6_knowsByTrust : ByteArray := prog_1_method_27_code
def yX6_knowsByTrust : MethodName := ⟨RX6, "knowsByTrust", "(III)Z"⟩
abbrev cX6_teach : ByteArray := prog_1_method_28_code
def yX6_teach : MethodName := ⟨RX6, "teach", "(III)I"⟩
abbrev cX6_teaches : ByteArray := prog_1_method_29_code
def yX6_teaches : MethodName := ⟨RX6, "teaches", "(IIII)Z"⟩
abbrev cX6_done : ByteArray := prog_1_method_30_code
def yX6_done : MethodName := ⟨RX6, "done", "(IIII)I"⟩
abbrev cX6_forget : ByteArray := prog_1_method_31_code
def yX6_forget : MethodName := ⟨RX6, "forget", "()I"⟩
abbrev cX6_said : ByteArray := prog_1_method_32_code
def yX6_said : MethodName := ⟨RX6, "said", "(I)I"⟩
abbrev cX6_forged : ByteArray := prog_1_method_33_code
def yX6_forged : MethodName := ⟨RX6, "forged", "()I"⟩
abbrev cX6_chance : ByteArray := prog_1_method_34_code
def yX6_chance : MethodName := ⟨RX6, "chance", "(IIII)J"⟩
abbrev cX6_weightOfKnowing : ByteArray := prog_1_method_35_code
def yX6_weightOfKnowing : MethodName := ⟨RX6, "weightOfKnowing", "(IIII)J"⟩
abbrev cX6_knowsWithShorter : ByteArray := prog_1_method_36_code
def yX6_knowsWithShorter : MethodName := ⟨RX6, "knowsWithShorter", "(III)Z"⟩
abbrev cX6_drawn : ByteArray := prog_1_method_37_code
def yX6_drawn : MethodName := ⟨RX6, "drawn", "(II)I"⟩
abbrev cX6_sheet : ByteArray := prog_1_method_38_code
def yX6_sheet : MethodName := ⟨RX6, "sheet", "(III)I"⟩
abbrev cX6_lose : ByteArray := prog_1_method_39_code
def yX6_lose : MethodName := ⟨RX6, "lose", "(I)I"⟩
abbrev cX6_put : ByteArray := prog_1_method_40_code
def yX6_put : MethodName := ⟨RX6, "put", "(IIII)I"⟩
abbrev cX6_get : ByteArray := prog_1_method_41_code
def yX6_get : MethodName := ⟨RX6, "get", "(III)I"⟩
abbrev cX6_copy : ByteArray := prog_1_method_42_code
def yX6_copy : MethodName := ⟨RX6, "copy", "(IIIII)I"⟩
abbrev cX6_write : ByteArray := prog_1_method_43_code
def yX6_write : MethodName := ⟨RX6, "write", "(I)I"⟩
abbrev cX6_count : ByteArray := prog_1_method_44_code
def yX6_count : MethodName := ⟨RX6, "count", "(I)I"⟩
abbrev cX6_digest : ByteArray := prog_1_method_45_code
def yX6_digest : MethodName := ⟨RX6, "digest", "()J"⟩
abbrev cX6_mixPersons : ByteArray := prog_1_method_46_code
def yX6_mixPersons : MethodName := ⟨RX6, "mixPersons", "(J)J"⟩
abbrev cX6_find : ByteArray := prog_1_method_47_code
def yX6_find : MethodName := ⟨RX6, "find", "(I)I"⟩
abbrev cX6_nextWithin : ByteArray := prog_1_method_48_code
def yX6_nextWithin : MethodName := ⟨RX6, "nextWithin", "(II)I"⟩
abbrev cX6_isBelow : ByteArray := prog_1_method_49_code
def yX6_isBelow : MethodName := ⟨RX6, "isBelow", "(II)Z"⟩
abbrev cX6_power : ByteArray := prog_1_method_50_code
def yX6_power : MethodName := ⟨RX6, "power", "(II)J"⟩
def RX7 : String := "AgeLettersModel"
def TX7 : u_T := fun k => match k with
  | 0 => ("AgeLettersModel", "text", "[I", true)
  | 1 => ("AgeLettersModel", "typed", "I", false)
  | 2 => ("AgeLettersModel", "persons", "I", false)
  | 3 => ("AgeLettersModel", "born", "[I", true)
  | 4 => ("AgeLettersModel", "ends", "[I", true)
  | 5 => ("AgeLettersModel", "kinds", "[I", true)
  | 6 => ("AgeLettersModel", "knowsOwn", "[I", true)
  | 7 => ("AgeLettersModel", "letters", "I", false)
  | 8 => ("AgeLettersModel", "writers", "[I", true)
  | 9 => ("AgeLettersModel", "readers", "[I", true)
  | 10 => ("AgeLettersModel", "years", "[I", true)
  | 11 => ("AgeLettersModel", "words", "[I", true)
  | 12 => ("AgeLettersModel", "needs", "[I", true)
  | 13 => ("AgeLettersModel", "some", "I", false)
  | 14 => ("AgeLettersModel", "forger", "I", false)
  | 15 => ("AgeLettersModel", "shorter", "I", false)
  | 16 => ("AgeLettersModel", "longer", "I", false)
  | 17 => ("AgeLettersModel", "trusted", "I", false)
  | 18 => ("AgeLettersModel", "trustedWord", "I", false)
  | 19 => ("AgeLettersModel", "knownNow", "[I", true)
  | 20 => ("AgeLettersModel", "openedIn", "[I", true)
  | 21 => ("AgeLettersModel", "toldIn", "[I", true)
  | 22 => ("AgeLettersModel", "sentLearned", "I", false)
  | 23 => ("AgeLettersModel", "sentBy", "I", false)
  | 24 => ("AgeLettersModel", "sentIn", "I", false)
  | 25 => ("AgeLettersModel", "firstKnown", "[I", true)
  | 26 => ("AgeLettersModel", "dones", "I", false)
  | 27 => ("AgeLettersModel", "doneYear", "[I", true)
  | 28 => ("AgeLettersModel", "donePerson", "[I", true)
  | 29 => ("AgeLettersModel", "doneWord", "[I", true)
  | 30 => ("AgeLettersModel", "doneIs", "[I", true)
  | 31 => ("AgeLettersModel", "isThere", "[Z", true)
  | 32 => ("AgeLettersModel", "forms", "[I", true)
  | 33 => ("AgeLettersModel", "sizes", "[I", true)
  | 34 => ("AgeLettersModel", "items", "[I", true)
  | 35 => ("AgeLettersModel", "moved", "[I", true)
  | _ => ("AgeLettersModel", "finding", "I", false)
def tyX7 : Nat → FieldType := fun k => match k with
  | 0 => .array .int
  | 1 => .int
  | 2 => .int
  | 3 => .array .int
  | 4 => .array .int
  | 5 => .array .int
  | 6 => .array .int
  | 7 => .int
  | 8 => .array .int
  | 9 => .array .int
  | 10 => .array .int
  | 11 => .array .int
  | 12 => .array .int
  | 13 => .int
  | 14 => .int
  | 15 => .int
  | 16 => .int
  | 17 => .int
  | 18 => .int
  | 19 => .array .int
  | 20 => .array .int
  | 21 => .array .int
  | 22 => .int
  | 23 => .int
  | 24 => .int
  | 25 => .array .int
  | 26 => .int
  | 27 => .array .int
  | 28 => .array .int
  | 29 => .array .int
  | 30 => .array .int
  | 31 => .array .boolean
  | 32 => .array .int
  | 33 => .array .int
  | 34 => .array .int
  | 35 => .array .int
  | _ => .int
theorem nmX7 : ∀ a, a < 37 → ∀ b, b < 37 → a ≠ b → (TX7 a).2.1 ≠ (TX7 b).2.1 := by decide +kernel
theorem tyX7_ok : ∀ k, k < 37 → parseFieldDescriptor (TX7 k).2.2.1 = some (tyX7 k) := by decide +kernel
abbrev cX7_init : ByteArray := prog_9_method_1_code
def yX7_init : MethodName := ⟨RX7, "<init>", "()V"⟩
abbrev cX7_in : ByteArray := prog_9_method_3_code
def yX7_in : MethodName := ⟨RX7, "in", "(III)Z"⟩
abbrev cX7_isIn : ByteArray := prog_9_method_4_code
def yX7_isIn : MethodName := ⟨RX7, "isIn", "(II)Z"⟩
abbrev cX7_ones : ByteArray := prog_9_method_5_code
def yX7_ones : MethodName := ⟨RX7, "ones", "(I)I"⟩
abbrev cX7_no : ByteArray := prog_9_method_6_code
def yX7_no : MethodName := ⟨RX7, "no", "(I)J"⟩
abbrev cX7_lowest : ByteArray := prog_9_method_7_code
def yX7_lowest : MethodName := ⟨RX7, "lowest", "(JJI)J"⟩
abbrev cX7_isTen : ByteArray := prog_9_method_8_code
def yX7_isTen : MethodName := ⟨RX7, "isTen", "(I)Z"⟩
abbrev cX7_isYear : ByteArray := prog_9_method_9_code
def yX7_isYear : MethodName := ⟨RX7, "isYear", "(I)Z"⟩
abbrev cX7_isWord : ByteArray := prog_9_method_10_code
def yX7_isWord : MethodName := ⟨RX7, "isWord", "(I)Z"⟩
abbrev cX7_type : ByteArray := prog_9_method_11_code
def yX7_type : MethodName := ⟨RX7, "type", "(I)I"⟩
abbrev cX7_wipe : ByteArray := prog_9_method_12_code
def yX7_wipe : MethodName := ⟨RX7, "wipe", "()I"⟩
abbrev cX7_undo : ByteArray := prog_9_method_13_code
def yX7_undo : MethodName := ⟨RX7, "undo", "()I"⟩
abbrev cX7_figureAt : ByteArray := prog_9_method_14_code
def yX7_figureAt : MethodName := ⟨RX7, "figureAt", "(I)I"⟩
abbrev cX7_faultNow : ByteArray := prog_9_method_15_code
def yX7_faultNow : MethodName := ⟨RX7, "faultNow", "()I"⟩
abbrev cX7_fault : ByteArray := prog_9_method_16_code
def yX7_fault : MethodName := ⟨RX7, "fault", "()I"⟩
abbrev cX7_reads : ByteArray := prog_9_method_17_code
def yX7_reads : MethodName := ⟨RX7, "reads", "()V"⟩
abbrev cX7_isPerson : ByteArray := prog_9_method_18_code
def yX7_isPerson : MethodName := ⟨RX7, "isPerson", "(I)Z"⟩
abbrev cX7_person : ByteArray := prog_9_method_19_code
def yX7_person : MethodName := ⟨RX7, "person", "(II)I"⟩
abbrev cX7_knows : ByteArray := prog_9_method_20_code
def yX7_knows : MethodName := ⟨RX7, "knows", "(II)I"⟩
abbrev cX7_lays : ByteArray := prog_9_method_21_code
def yX7_lays : MethodName := ⟨RX7, "lays", "(IIIIII)V"⟩
abbrev cX7_letter : ByteArray := prog_9_method_22_code
def yX7_letter : MethodName := ⟨RX7, "letter", "(IIIII)I"⟩
abbrev cX7_back : ByteArray := prog_9_method_23_code
def yX7_back : MethodName := ⟨RX7, "back", "()I"⟩
abbrev cX7_read : ByteArray := prog_9_method_24_code
def yX7_read : MethodName := ⟨RX7, "read", "(I)I"⟩
abbrev cX7_asTold : ByteArray := prog_9_method_25_code
def yX7_asTold : MethodName := ⟨RX7, "asTold", "()V"⟩
abbrev cX7_endOf : ByteArray := prog_9_method_26_code
def yX7_endOf : MethodName := ⟨RX7, "endOf", "(I)I"⟩
abbrev cX7_lives : ByteArray := prog_9_method_27_code
def yX7_lives : MethodName := ⟨RX7, "lives", "(II)Z"⟩
abbrev cX7_tells : ByteArray := prog_9_method_28_code
def yX7_tells : MethodName := ⟨RX7, "tells", "(II)I"⟩
abbrev cX7_opens : ByteArray := prog_9_method_29_code
def yX7_opens : MethodName := ⟨RX7, "opens", "(II)V"⟩
abbrev cX7_runs : ByteArray := prog_9_method_30_code
def yX7_runs : MethodName := ⟨RX7, "runs", "(II)V"⟩
abbrev cX7_runsTo : ByteArray := prog_9_method_31_code
def yX7_runsTo : MethodName := ⟨RX7, "runsTo", "(I)V"⟩
abbrev cX7_ageOf : ByteArray := prog_9_method_32_code
def yX7_ageOf : MethodName := ⟨RX7, "ageOf", "(II)I"⟩
abbrev cX7_age : ByteArray := prog_9_method_33_code
def yX7_age : MethodName := ⟨RX7, "age", "(II)I"⟩
abbrev cX7_openedOf : ByteArray := prog_9_method_34_code
def yX7_openedOf : MethodName := ⟨RX7, "openedOf", "(I)I"⟩
abbrev cX7_opened : ByteArray := prog_9_method_35_code
def yX7_opened : MethodName := ⟨RX7, "opened", "(I)I"⟩
abbrev cX7_writtenOf : ByteArray := prog_9_method_36_code
def yX7_writtenOf : MethodName := ⟨RX7, "writtenOf", "(I)I"⟩
abbrev cX7_written : ByteArray := prog_9_method_37_code
def yX7_written : MethodName := ⟨RX7, "written", "(I)I"⟩
abbrev cX7_bitsNow : ByteArray := prog_9_method_38_code
def yX7_bitsNow : MethodName := ⟨RX7, "bitsNow", "(I)I"⟩
abbrev cX7_waitsOf : ByteArray := prog_9_method_39_code
def yX7_waitsOf : MethodName := ⟨RX7, "waitsOf", "(II)I"⟩
abbrev cX7_waits : ByteArray := prog_9_method_40_code
def yX7_waits : MethodName := ⟨RX7, "waits", "(II)I"⟩
abbrev cX7_knownOf : ByteArray := prog_9_method_41_code
def yX7_knownOf : MethodName := ⟨RX7, "knownOf", "(II)I"⟩
abbrev cX7_known : ByteArray := prog_9_method_42_code
def yX7_known : MethodName := ⟨RX7, "known", "(II)I"⟩
abbrev cX7_learnsIn : ByteArray := prog_9_method_43_code
def yX7_learnsIn : MethodName := ⟨RX7, "learnsIn", "(III)I"⟩
abbrev cX7_learnedOf : ByteArray := prog_9_method_44_code
def yX7_learnedOf : MethodName := ⟨RX7, "learnedOf", "(II)I"⟩
abbrev cX7_learned : ByteArray := prog_9_method_45_code
def yX7_learned : MethodName := ⟨RX7, "learned", "(II)I"⟩
abbrev cX7_sealedNow : ByteArray := prog_9_method_46_code
def yX7_sealedNow : MethodName := ⟨RX7, "sealedNow", "()I"⟩
abbrev cX7_sealed : ByteArray := prog_9_method_47_code
def yX7_sealed : MethodName := ⟨RX7, "sealed", "()I"⟩
abbrev cX7_loudOf : ByteArray := prog_9_method_48_code
def yX7_loudOf : MethodName := ⟨RX7, "loudOf", "(I)I"⟩
abbrev cX7_loud : ByteArray := prog_9_method_49_code
def yX7_loud : MethodName := ⟨RX7, "loud", "(I)I"⟩
abbrev cX7_tooSoonNow : ByteArray := prog_9_method_50_code
def yX7_tooSoonNow : MethodName := ⟨RX7, "tooSoonNow", "()I"⟩
abbrev cX7_tooSoon : ByteArray := prog_9_method_51_code
def yX7_tooSoon : MethodName := ⟨RX7, "tooSoon", "()I"⟩
abbrev cX7_sends : ByteArray := prog_9_method_52_code
def yX7_sends : MethodName := ⟨RX7, "sends", "(II)V"⟩
abbrev cX7_sendOf : ByteArray := prog_9_method_53_code
def yX7_sendOf : MethodName := ⟨RX7, "sendOf", "(III)I"⟩
abbrev cX7_send : ByteArray := prog_9_method_54_code
def yX7_send : MethodName := ⟨RX7, "send", "(III)I"⟩
abbrev cX7_trustOf : ByteArray := prog_9_method_55_code
def yX7_trustOf : MethodName := ⟨RX7, "trustOf", "(II)I"⟩
abbrev cX7_trust : ByteArray := prog_9_method_56_code
def yX7_trust : MethodName := ⟨RX7, "trust", "(II)I"⟩
abbrev cX7_teachOf : ByteArray := prog_9_method_57_code
def yX7_teachOf : MethodName := ⟨RX7, "teachOf", "(III)I"⟩
abbrev cX7_teach : ByteArray := prog_9_method_58_code
def yX7_teach : MethodName := ⟨RX7, "teach", "(III)I"⟩
abbrev cX7_done : ByteArray := prog_9_method_59_code
def yX7_done : MethodName := ⟨RX7, "done", "(IIII)I"⟩
abbrev cX7_forget : ByteArray := prog_9_method_60_code
def yX7_forget : MethodName := ⟨RX7, "forget", "()I"⟩
abbrev cX7_isDone : ByteArray := prog_9_method_61_code
def yX7_isDone : MethodName := ⟨RX7, "isDone", "()Z"⟩
abbrev cX7_saidOf : ByteArray := prog_9_method_62_code
def yX7_saidOf : MethodName := ⟨RX7, "saidOf", "(I)I"⟩
abbrev cX7_said : ByteArray := prog_9_method_63_code
def yX7_said : MethodName := ⟨RX7, "said", "(I)I"⟩
abbrev cX7_forgedNow : ByteArray := prog_9_method_64_code
def yX7_forgedNow : MethodName := ⟨RX7, "forgedNow", "()I"⟩
abbrev cX7_forged : ByteArray := prog_9_method_65_code
def yX7_forged : MethodName := ⟨RX7, "forged", "()I"⟩
abbrev cX7_chanceOf : ByteArray := prog_9_method_66_code
def yX7_chanceOf : MethodName := ⟨RX7, "chanceOf", "(IIII)J"⟩
abbrev cX7_chance : ByteArray := prog_9_method_67_code
def yX7_chance : MethodName := ⟨RX7, "chance", "(IIII)J"⟩
abbrev cX7_drawnOf : ByteArray := prog_9_method_68_code
def yX7_drawnOf : MethodName := ⟨RX7, "drawnOf", "(II)I"⟩
abbrev cX7_drawn : ByteArray := prog_9_method_69_code
def yX7_drawn : MethodName := ⟨RX7, "drawn", "(II)I"⟩
abbrev cX7_meets : ByteArray := prog_9_method_70_code
def yX7_meets : MethodName := ⟨RX7, "meets", "(I)I"⟩
abbrev cX7_isSheet : ByteArray := prog_9_method_71_code
def yX7_isSheet : MethodName := ⟨RX7, "isSheet", "(I)Z"⟩
abbrev cX7_sheet : ByteArray := prog_9_method_72_code
def yX7_sheet : MethodName := ⟨RX7, "sheet", "(III)I"⟩
abbrev cX7_lose : ByteArray := prog_9_method_73_code
def yX7_lose : MethodName := ⟨RX7, "lose", "(I)I"⟩
abbrev cX7_lacks : ByteArray := prog_9_method_74_code
def yX7_lacks : MethodName := ⟨RX7, "lacks", "(III)I"⟩
abbrev cX7_keep : ByteArray := prog_9_method_75_code
def yX7_keep : MethodName := ⟨RX7, "keep", "(III)V"⟩
abbrev cX7_put : ByteArray := prog_9_method_76_code
def yX7_put : MethodName := ⟨RX7, "put", "(IIII)I"⟩
abbrev cX7_get : ByteArray := prog_9_method_77_code
def yX7_get : MethodName := ⟨RX7, "get", "(III)I"⟩
abbrev cX7_copy : ByteArray := prog_9_method_78_code
def yX7_copy : MethodName := ⟨RX7, "copy", "(IIIII)I"⟩
abbrev cX7_write : ByteArray := prog_9_method_79_code
def yX7_write : MethodName := ⟨RX7, "write", "(I)I"⟩
abbrev cX7_sumOf : ByteArray := prog_9_method_80_code
def yX7_sumOf : MethodName := ⟨RX7, "sumOf", "(I)I"⟩
abbrev cX7_count : ByteArray := prog_9_method_81_code
def yX7_count : MethodName := ⟨RX7, "count", "(I)I"⟩
abbrev cX7_digest : ByteArray := prog_9_method_82_code
def yX7_digest : MethodName := ⟨RX7, "digest", "()J"⟩
def RJ6 : String := "java/lang/Integer"
def TJ6 : u_T := fun k => match k with
  | _ => ("", "", "", false)
def tyJ6 : Nat → FieldType := fun k => match k with
  | _ => .int
theorem nmJ6 : ∀ a, a < 0 → ∀ b, b < 0 → a ≠ b → (TJ6 a).2.1 ≠ (TJ6 b).2.1 := by decide +kernel
theorem tyJ6_ok : ∀ k, k < 0 → parseFieldDescriptor (TJ6 k).2.2.1 = some (tyJ6 k) := by decide +kernel
abbrev cJ6_bitCount_0f7a4 : ByteArray := prog_10_method_49_code
def yJ6_bitCount_0f7a4 : MethodName := ⟨RJ6, "bitCount", "(I)I"⟩
def RJ9 : String := "java/lang/Math"
def TJ9 : u_T := fun k => match k with
  | _ => ("", "", "", false)
def tyJ9 : Nat → FieldType := fun k => match k with
  | _ => .int
theorem nmJ9 : ∀ a, a < 0 → ∀ b, b < 0 → a ≠ b → (TJ9 a).2.1 ≠ (TJ9 b).2.1 := by decide +kernel
theorem tyJ9_ok : ∀ k, k < 0 → parseFieldDescriptor (TJ9 k).2.2.1 = some (tyJ9 k) := by decide +kernel
abbrev cJ9_max_7cf53 : ByteArray := prog_11_method_65_code
def yJ9_max_7cf53 : MethodName := ⟨RJ9, "max", "(II)I"⟩
abbrev cJ9_min_7cf53 : ByteArray := prog_11_method_69_code
def yJ9_min_7cf53 : MethodName := ⟨RJ9, "min", "(II)I"⟩
def RJ10 : String := "java/lang/System"
def TJ10 : u_T := fun k => match k with
  | _ => ("", "", "", false)
def tyJ10 : Nat → FieldType := fun k => match k with
  | _ => .int
theorem nmJ10 : ∀ a, a < 0 → ∀ b, b < 0 → a ≠ b → (TJ10 a).2.1 ≠ (TJ10 b).2.1 := by decide +kernel
theorem tyJ10_ok : ∀ k, k < 0 → parseFieldDescriptor (TJ10 k).2.2.1 = some (tyJ10 k) := by decide +kernel
def RJ7 : String := "java/util/Arrays"
def TJ7 : u_T := fun k => match k with
  | _ => ("", "", "", false)
def tyJ7 : Nat → FieldType := fun k => match k with
  | _ => .int
theorem nmJ7 : ∀ a, a < 0 → ∀ b, b < 0 → a ≠ b → (TJ7 a).2.1 ≠ (TJ7 b).2.1 := by decide +kernel
theorem tyJ7_ok : ∀ k, k < 0 → parseFieldDescriptor (TJ7 k).2.2.1 = some (tyJ7 k) := by decide +kernel
abbrev cJ7_fill_53178 : ByteArray := prog_13_method_103_code
def yJ7_fill_53178 : MethodName := ⟨RJ7, "fill", "([II)V"⟩
def RL : String := "AgeLettersLaw"
abbrev cL_law : ByteArray := code
def yL_law : MethodName := ⟨RL, "law", "([I)Z"⟩
/-- the tables' good words: every method has them all -/
def ag_tbl : List Cond := lw_tbl.filter goodWord
theorem ag_in {w : Cond} (i : Nat) (h : lw_tbl[i]? = some w) (hg : goodWord w = true) : w ∈ ag_tbl := List.mem_filter.mpr ⟨List.mem_of_getElem? h, hg⟩
theorem ag_good {w : Cond} (h : w ∈ ag_tbl) : goodWord w = true := (List.mem_filter.mp h).2
theorem ag_lw {w : Cond} (h : w ∈ ag_tbl) : w ∈ lw_tbl := (List.mem_filter.mp h).1
/-- a method's words: its own code, then all -/
def ag_ws (y : MethodName) (cc : ByteArray) (nL : Nat) (ret : Option FieldType) : List Cond := Cond.code y cc nL ret :: ag_tbl
theorem ag_gI {c : Cond} {y : MethodName} {cc : ByteArray} {nL : Nat} {ret : Option FieldType} (h : Cond.code y cc nL ret ∈ ag_tbl) : GoodIn (c :: ag_tbl) (ag_ws y cc nL ret) := by
  intro w hw
  rcases List.mem_cons.mp hw with rfl | hw
  · exact ⟨List.mem_cons_of_mem _ h, good_of_word (ag_good h)⟩
  · exact ⟨List.mem_cons_of_mem _ hw, good_of_word (ag_good hw)⟩
theorem ag_gV {c : Cond} {own C : String} {idx : Nat} {y : MethodName} {cc : ByteArray} {nL : Nat} {ret : Option FieldType} (h : Cond.code y cc nL ret ∈ ag_tbl) (h1 : Cond.methodLink own idx y ∈ ag_tbl) (h2 : Cond.instanceMethod y ∈ ag_tbl) (h3 : Cond.selects C y y ∈ ag_tbl) (h4 : Cond.initialized C ∈ ag_tbl) : GoodIn (c :: ag_tbl) (wsV own idx C y (ag_ws y cc nL ret)) := by
  intro w hw
  rcases List.mem_append.mp hw with hw | hw
  · have hm : w ∈ ag_tbl := by
      simp only [List.mem_cons, List.not_mem_nil, or_false] at hw
      rcases hw with rfl | rfl | rfl | rfl <;> assumption
    exact ⟨List.mem_cons_of_mem _ hm, good_of_word (ag_good hm)⟩
  · exact ag_gI h w hw
theorem ag_gS {c : Cond} {own : String} {idx : Nat} {y : MethodName} {cc : ByteArray} {nL : Nat} {ret : Option FieldType} (h : Cond.code y cc nL ret ∈ ag_tbl) (h1 : Cond.methodLink own idx y ∈ ag_tbl) (h2 : Cond.static y ∈ ag_tbl) (h4 : Cond.initialized y.cls ∈ ag_tbl) : GoodIn (c :: ag_tbl) (va_wsS own idx y (ag_ws y cc nL ret)) := by
  intro w hw
  rcases List.mem_append.mp hw with hw | hw
  · have hm : w ∈ ag_tbl := by
      simp only [List.mem_cons, List.not_mem_nil, or_false] at hw
      rcases hw with rfl | rfl | rfl <;> assumption
    exact ⟨List.mem_cons_of_mem _ hm, good_of_word (ag_good hm)⟩
  · exact ag_gI h w hw
abbrev ag_cl : List vw_C := [(RX0, TX0, 5), (RX1, TX1, 6), (RX2, TX2, 6), (RX3, TX3, 4), (RX4, TX4, 2), (RX5, TX5, 10), (RX6, TX6, 8), (RX7, TX7, 37)]
