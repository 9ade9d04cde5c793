section
-- ===== PART A: goes FIRST, ahead of the names: the tables' words, and 'selects' of the private methods out of them =====
/-- a private method of a class that the tables say can be made, by its rows of tables_1 -/
def lw_okq (q : MethodName × Nat) : Prop := (q.1.cls ≠ "java/lang/invoke/MethodHandle" ∧ q.1.cls ≠ "java/lang/invoke/VarHandle") ∧ Cond.instantiable q.1.cls q.2 ∈ tables_1 ∧ Cond.privateMethod q.1 ∈ tables_1 ∧ Cond.instanceMethod q.1 ∈ tables_1
theorem lw_p0 : lw_okq (⟨"AgeLetters", "takePeople", "()V"⟩, 8) := ⟨⟨by decide +kernel, by decide +kernel⟩, List.mem_of_getElem? (i := 14) (by decide +kernel), List.mem_of_getElem? (i := 232) (by decide +kernel), List.mem_of_getElem? (i := 233) (by decide +kernel)⟩
theorem lw_p1 : lw_okq (⟨"AgeLetters$Text", "goesOn", "(I)Z"⟩, 2) := ⟨⟨by decide +kernel, by decide +kernel⟩, List.mem_of_getElem? (i := 22) (by decide +kernel), List.mem_of_getElem? (i := 244) (by decide +kernel), List.mem_of_getElem? (i := 245) (by decide +kernel)⟩
theorem lw_p2 : lw_okq (⟨"AgeLetters$Text", "twoFigures", "(I)I"⟩, 2) := ⟨⟨by decide +kernel, by decide +kernel⟩, List.mem_of_getElem? (i := 22) (by decide +kernel), List.mem_of_getElem? (i := 251) (by decide +kernel), List.mem_of_getElem? (i := 252) (by decide +kernel)⟩
theorem lw_p3 : lw_okq (⟨"AgeLetters$Years", "writeThoseOf", "(I)V"⟩, 10) := ⟨⟨by decide +kernel, by decide +kernel⟩, List.mem_of_getElem? (i := 38) (by decide +kernel), List.mem_of_getElem? (i := 262) (by decide +kernel), List.mem_of_getElem? (i := 263) (by decide +kernel)⟩
theorem lw_p4 : lw_okq (⟨"AgeLetters$Years", "openThoseDue", "(I)V"⟩, 10) := ⟨⟨by decide +kernel, by decide +kernel⟩, List.mem_of_getElem? (i := 38) (by decide +kernel), List.mem_of_getElem? (i := 285) (by decide +kernel), List.mem_of_getElem? (i := 286) (by decide +kernel)⟩
theorem lw_p5 : lw_okq (⟨"AgeLetters$Years", "isWaiting", "(I)Z"⟩, 10) := ⟨⟨by decide +kernel, by decide +kernel⟩, List.mem_of_getElem? (i := 38) (by decide +kernel), List.mem_of_getElem? (i := 289) (by decide +kernel), List.mem_of_getElem? (i := 290) (by decide +kernel)⟩
theorem lw_p6 : lw_okq (⟨"AgeLetters$Years", "hasNeeded", "(I)Z"⟩, 10) := ⟨⟨by decide +kernel, by decide +kernel⟩, List.mem_of_getElem? (i := 38) (by decide +kernel), List.mem_of_getElem? (i := 293) (by decide +kernel), List.mem_of_getElem? (i := 294) (by decide +kernel)⟩
theorem lw_p7 : lw_okq (⟨"AgeLetters$Years", "openOne", "(II)V"⟩, 10) := ⟨⟨by decide +kernel, by decide +kernel⟩, List.mem_of_getElem? (i := 38) (by decide +kernel), List.mem_of_getElem? (i := 297) (by decide +kernel), List.mem_of_getElem? (i := 298) (by decide +kernel)⟩
theorem lw_p8 : lw_okq (⟨"AgeLetters$Years", "grant", "(III)V"⟩, 10) := ⟨⟨by decide +kernel, by decide +kernel⟩, List.mem_of_getElem? (i := 38) (by decide +kernel), List.mem_of_getElem? (i := 301) (by decide +kernel), List.mem_of_getElem? (i := 302) (by decide +kernel)⟩
theorem lw_p9 : lw_okq (⟨"AgeLetters$Years", "nextStir", "(I)I"⟩, 10) := ⟨⟨by decide +kernel, by decide +kernel⟩, List.mem_of_getElem? (i := 38) (by decide +kernel), List.mem_of_getElem? (i := 305) (by decide +kernel), List.mem_of_getElem? (i := 306) (by decide +kernel)⟩
theorem lw_p10 : lw_okq (⟨"AgeLetters", "takeLetter", "(IIIII)I"⟩, 8) := ⟨⟨by decide +kernel, by decide +kernel⟩, List.mem_of_getElem? (i := 14) (by decide +kernel), List.mem_of_getElem? (i := 341) (by decide +kernel), List.mem_of_getElem? (i := 342) (by decide +kernel)⟩
theorem lw_p11 : lw_okq (⟨"AgeLetters", "find", "(I)I"⟩, 8) := ⟨⟨by decide +kernel, by decide +kernel⟩, List.mem_of_getElem? (i := 14) (by decide +kernel), List.mem_of_getElem? (i := 357) (by decide +kernel), List.mem_of_getElem? (i := 358) (by decide +kernel)⟩
theorem lw_p12 : lw_okq (⟨"AgeLetters", "opensWithGrace", "(I)Z"⟩, 8) := ⟨⟨by decide +kernel, by decide +kernel⟩, List.mem_of_getElem? (i := 14) (by decide +kernel), List.mem_of_getElem? (i := 453) (by decide +kernel), List.mem_of_getElem? (i := 454) (by decide +kernel)⟩
theorem lw_p13 : lw_okq (⟨"AgeLetters", "bestSend", "(II)I"⟩, 8) := ⟨⟨by decide +kernel, by decide +kernel⟩, List.mem_of_getElem? (i := 14) (by decide +kernel), List.mem_of_getElem? (i := 461) (by decide +kernel), List.mem_of_getElem? (i := 462) (by decide +kernel)⟩
theorem lw_p14 : lw_okq (⟨"AgeLetters", "learnedBySend", "(IIIII)I"⟩, 8) := ⟨⟨by decide +kernel, by decide +kernel⟩, List.mem_of_getElem? (i := 14) (by decide +kernel), List.mem_of_getElem? (i := 469) (by decide +kernel), List.mem_of_getElem? (i := 470) (by decide +kernel)⟩
theorem lw_p15 : lw_okq (⟨"AgeLetters", "knowsByTrust", "(III)Z"⟩, 8) := ⟨⟨by decide +kernel, by decide +kernel⟩, List.mem_of_getElem? (i := 14) (by decide +kernel), List.mem_of_getElem? (i := 485) (by decide +kernel), List.mem_of_getElem? (i := 486) (by decide +kernel)⟩
def lw_privs_1 : List (MethodName × Nat) := [(⟨"AgeLetters", "takePeople", "()V"⟩, 8), (⟨"AgeLetters$Text", "goesOn", "(I)Z"⟩, 2), (⟨"AgeLetters$Text", "twoFigures", "(I)I"⟩, 2), (⟨"AgeLetters$Years", "writeThoseOf", "(I)V"⟩, 10), (⟨"AgeLetters$Years", "openThoseDue", "(I)V"⟩, 10), (⟨"AgeLetters$Years", "isWaiting", "(I)Z"⟩, 10), (⟨"AgeLetters$Years", "hasNeeded", "(I)Z"⟩, 10), (⟨"AgeLetters$Years", "openOne", "(II)V"⟩, 10), (⟨"AgeLetters$Years", "grant", "(III)V"⟩, 10), (⟨"AgeLetters$Years", "nextStir", "(I)I"⟩, 10), (⟨"AgeLetters", "takeLetter", "(IIIII)I"⟩, 8), (⟨"AgeLetters", "find", "(I)I"⟩, 8), (⟨"AgeLetters", "opensWithGrace", "(I)Z"⟩, 8), (⟨"AgeLetters", "bestSend", "(II)I"⟩, 8), (⟨"AgeLetters", "learnedBySend", "(IIIII)I"⟩, 8), (⟨"AgeLetters", "knowsByTrust", "(III)Z"⟩, 8)]
theorem lw_r1 : ∀ q ∈ lw_privs_1, lw_okq q := List.forall_mem_cons.mpr ⟨lw_p0, List.forall_mem_cons.mpr ⟨lw_p1, List.forall_mem_cons.mpr ⟨lw_p2, List.forall_mem_cons.mpr ⟨lw_p3, List.forall_mem_cons.mpr ⟨lw_p4, List.forall_mem_cons.mpr ⟨lw_p5, List.forall_mem_cons.mpr ⟨lw_p6, List.forall_mem_cons.mpr ⟨lw_p7, List.forall_mem_cons.mpr ⟨lw_p8, List.forall_mem_cons.mpr ⟨lw_p9, List.forall_mem_cons.mpr ⟨lw_p10, List.forall_mem_cons.mpr ⟨lw_p11, List.forall_mem_cons.mpr ⟨lw_p12, List.forall_mem_cons.mpr ⟨lw_p13, List.forall_mem_cons.mpr ⟨lw_p14, List.forall_mem_cons.mpr ⟨lw_p15, fun _ h => absurd h List.not_mem_nil⟩⟩⟩⟩⟩⟩⟩⟩⟩⟩⟩⟩⟩⟩⟩⟩
theorem lw_p16 : lw_okq (⟨"AgeLetters$Years", "bringsWanted", "(I)Z"⟩, 10) := ⟨⟨by decide +kernel, by decide +kernel⟩, List.mem_of_getElem? (i := 38) (by decide +kernel), List.mem_of_getElem? (i := 500) (by decide +kernel), List.mem_of_getElem? (i := 501) (by decide +kernel)⟩
theorem lw_p17 : lw_okq (⟨"AgeLetters$Years", "want", "(II)V"⟩, 10) := ⟨⟨by decide +kernel, by decide +kernel⟩, List.mem_of_getElem? (i := 38) (by decide +kernel), List.mem_of_getElem? (i := 504) (by decide +kernel), List.mem_of_getElem? (i := 505) (by decide +kernel)⟩
theorem lw_p18 : lw_okq (⟨"AgeLetters", "teaches", "(IIII)Z"⟩, 8) := ⟨⟨by decide +kernel, by decide +kernel⟩, List.mem_of_getElem? (i := 14) (by decide +kernel), List.mem_of_getElem? (i := 508) (by decide +kernel), List.mem_of_getElem? (i := 509) (by decide +kernel)⟩
theorem lw_p19 : lw_okq (⟨"AgeLetters", "weightOfKnowing", "(IIII)J"⟩, 8) := ⟨⟨by decide +kernel, by decide +kernel⟩, List.mem_of_getElem? (i := 14) (by decide +kernel), List.mem_of_getElem? (i := 550) (by decide +kernel), List.mem_of_getElem? (i := 551) (by decide +kernel)⟩
theorem lw_p20 : lw_okq (⟨"AgeLetters", "knowsWithShorter", "(III)Z"⟩, 8) := ⟨⟨by decide +kernel, by decide +kernel⟩, List.mem_of_getElem? (i := 14) (by decide +kernel), List.mem_of_getElem? (i := 557) (by decide +kernel), List.mem_of_getElem? (i := 558) (by decide +kernel)⟩
theorem lw_p21 : lw_okq (⟨"AgeLetters", "mixPersons", "(J)J"⟩, 8) := ⟨⟨by decide +kernel, by decide +kernel⟩, List.mem_of_getElem? (i := 14) (by decide +kernel), List.mem_of_getElem? (i := 636) (by decide +kernel), List.mem_of_getElem? (i := 637) (by decide +kernel)⟩
theorem lw_p22 : lw_okq (⟨"AgeLettersModel", "asTold", "()V"⟩, 37) := ⟨⟨by decide +kernel, by decide +kernel⟩, List.mem_of_getElem? (i := 656) (by decide +kernel), List.mem_of_getElem? (i := 662) (by decide +kernel), List.mem_of_getElem? (i := 663) (by decide +kernel)⟩
theorem lw_p23 : lw_okq (⟨"AgeLettersModel", "faultNow", "()I"⟩, 37) := ⟨⟨by decide +kernel, by decide +kernel⟩, List.mem_of_getElem? (i := 656) (by decide +kernel), List.mem_of_getElem? (i := 798) (by decide +kernel), List.mem_of_getElem? (i := 799) (by decide +kernel)⟩
theorem lw_p24 : lw_okq (⟨"AgeLettersModel", "figureAt", "(I)I"⟩, 37) := ⟨⟨by decide +kernel, by decide +kernel⟩, List.mem_of_getElem? (i := 656) (by decide +kernel), List.mem_of_getElem? (i := 802) (by decide +kernel), List.mem_of_getElem? (i := 803) (by decide +kernel)⟩
theorem lw_p25 : lw_okq (⟨"AgeLettersModel", "isPerson", "(I)Z"⟩, 37) := ⟨⟨by decide +kernel, by decide +kernel⟩, List.mem_of_getElem? (i := 656) (by decide +kernel), List.mem_of_getElem? (i := 810) (by decide +kernel), List.mem_of_getElem? (i := 811) (by decide +kernel)⟩
theorem lw_p26 : lw_okq (⟨"AgeLettersModel", "reads", "()V"⟩, 37) := ⟨⟨by decide +kernel, by decide +kernel⟩, List.mem_of_getElem? (i := 656) (by decide +kernel), List.mem_of_getElem? (i := 814) (by decide +kernel), List.mem_of_getElem? (i := 815) (by decide +kernel)⟩
theorem lw_p27 : lw_okq (⟨"AgeLettersModel", "lays", "(IIIIII)V"⟩, 37) := ⟨⟨by decide +kernel, by decide +kernel⟩, List.mem_of_getElem? (i := 656) (by decide +kernel), List.mem_of_getElem? (i := 835) (by decide +kernel), List.mem_of_getElem? (i := 836) (by decide +kernel)⟩
theorem lw_p28 : lw_okq (⟨"AgeLettersModel", "meets", "(I)I"⟩, 37) := ⟨⟨by decide +kernel, by decide +kernel⟩, List.mem_of_getElem? (i := 656) (by decide +kernel), List.mem_of_getElem? (i := 850) (by decide +kernel), List.mem_of_getElem? (i := 851) (by decide +kernel)⟩
theorem lw_p29 : lw_okq (⟨"AgeLettersModel", "ageOf", "(II)I"⟩, 37) := ⟨⟨by decide +kernel, by decide +kernel⟩, List.mem_of_getElem? (i := 656) (by decide +kernel), List.mem_of_getElem? (i := 859) (by decide +kernel), List.mem_of_getElem? (i := 860) (by decide +kernel)⟩
theorem lw_p30 : lw_okq (⟨"AgeLettersModel", "lives", "(II)Z"⟩, 37) := ⟨⟨by decide +kernel, by decide +kernel⟩, List.mem_of_getElem? (i := 656) (by decide +kernel), List.mem_of_getElem? (i := 863) (by decide +kernel), List.mem_of_getElem? (i := 864) (by decide +kernel)⟩
theorem lw_p31 : lw_okq (⟨"AgeLettersModel", "endOf", "(I)I"⟩, 37) := ⟨⟨by decide +kernel, by decide +kernel⟩, List.mem_of_getElem? (i := 656) (by decide +kernel), List.mem_of_getElem? (i := 867) (by decide +kernel), List.mem_of_getElem? (i := 868) (by decide +kernel)⟩
def lw_privs_2 : List (MethodName × Nat) := [(⟨"AgeLetters$Years", "bringsWanted", "(I)Z"⟩, 10), (⟨"AgeLetters$Years", "want", "(II)V"⟩, 10), (⟨"AgeLetters", "teaches", "(IIII)Z"⟩, 8), (⟨"AgeLetters", "weightOfKnowing", "(IIII)J"⟩, 8), (⟨"AgeLetters", "knowsWithShorter", "(III)Z"⟩, 8), (⟨"AgeLetters", "mixPersons", "(J)J"⟩, 8), (⟨"AgeLettersModel", "asTold", "()V"⟩, 37), (⟨"AgeLettersModel", "faultNow", "()I"⟩, 37), (⟨"AgeLettersModel", "figureAt", "(I)I"⟩, 37), (⟨"AgeLettersModel", "isPerson", "(I)Z"⟩, 37), (⟨"AgeLettersModel", "reads", "()V"⟩, 37), (⟨"AgeLettersModel", "lays", "(IIIIII)V"⟩, 37), (⟨"AgeLettersModel", "meets", "(I)I"⟩, 37), (⟨"AgeLettersModel", "ageOf", "(II)I"⟩, 37), (⟨"AgeLettersModel", "lives", "(II)Z"⟩, 37), (⟨"AgeLettersModel", "endOf", "(I)I"⟩, 37)]
theorem lw_r2 : ∀ q ∈ lw_privs_2, lw_okq q := List.forall_mem_cons.mpr ⟨lw_p16, List.forall_mem_cons.mpr ⟨lw_p17, List.forall_mem_cons.mpr ⟨lw_p18, List.forall_mem_cons.mpr ⟨lw_p19, List.forall_mem_cons.mpr ⟨lw_p20, List.forall_mem_cons.mpr ⟨lw_p21, List.forall_mem_cons.mpr ⟨lw_p22, List.forall_mem_cons.mpr ⟨lw_p23, List.forall_mem_cons.mpr ⟨lw_p24, List.forall_mem_cons.mpr ⟨lw_p25, List.forall_mem_cons.mpr ⟨lw_p26, List.forall_mem_cons.mpr ⟨lw_p27, List.forall_mem_cons.mpr ⟨lw_p28, List.forall_mem_cons.mpr ⟨lw_p29, List.forall_mem_cons.mpr ⟨lw_p30, List.forall_mem_cons.mpr ⟨lw_p31, fun _ h => absurd h List.not_mem_nil⟩⟩⟩⟩⟩⟩⟩⟩⟩⟩⟩⟩⟩⟩⟩⟩
theorem lw_p32 : lw_okq (⟨"AgeLettersModel", "tells", "(II)I"⟩, 37) := ⟨⟨by decide +kernel, by decide +kernel⟩, List.mem_of_getElem? (i := 656) (by decide +kernel), List.mem_of_getElem? (i := 874) (by decide +kernel), List.mem_of_getElem? (i := 875) (by decide +kernel)⟩
theorem lw_p33 : lw_okq (⟨"AgeLettersModel", "openedOf", "(I)I"⟩, 37) := ⟨⟨by decide +kernel, by decide +kernel⟩, List.mem_of_getElem? (i := 656) (by decide +kernel), List.mem_of_getElem? (i := 882) (by decide +kernel), List.mem_of_getElem? (i := 883) (by decide +kernel)⟩
theorem lw_p34 : lw_okq (⟨"AgeLettersModel", "runsTo", "(I)V"⟩, 37) := ⟨⟨by decide +kernel, by decide +kernel⟩, List.mem_of_getElem? (i := 656) (by decide +kernel), List.mem_of_getElem? (i := 886) (by decide +kernel), List.mem_of_getElem? (i := 887) (by decide +kernel)⟩
theorem lw_p35 : lw_okq (⟨"AgeLettersModel", "runs", "(II)V"⟩, 37) := ⟨⟨by decide +kernel, by decide +kernel⟩, List.mem_of_getElem? (i := 656) (by decide +kernel), List.mem_of_getElem? (i := 890) (by decide +kernel), List.mem_of_getElem? (i := 891) (by decide +kernel)⟩
theorem lw_p36 : lw_okq (⟨"AgeLettersModel", "opens", "(II)V"⟩, 37) := ⟨⟨by decide +kernel, by decide +kernel⟩, List.mem_of_getElem? (i := 656) (by decide +kernel), List.mem_of_getElem? (i := 894) (by decide +kernel), List.mem_of_getElem? (i := 895) (by decide +kernel)⟩
theorem lw_p37 : lw_okq (⟨"AgeLettersModel", "writtenOf", "(I)I"⟩, 37) := ⟨⟨by decide +kernel, by decide +kernel⟩, List.mem_of_getElem? (i := 656) (by decide +kernel), List.mem_of_getElem? (i := 902) (by decide +kernel), List.mem_of_getElem? (i := 903) (by decide +kernel)⟩
theorem lw_p38 : lw_okq (⟨"AgeLettersModel", "waitsOf", "(II)I"⟩, 37) := ⟨⟨by decide +kernel, by decide +kernel⟩, List.mem_of_getElem? (i := 656) (by decide +kernel), List.mem_of_getElem? (i := 910) (by decide +kernel), List.mem_of_getElem? (i := 911) (by decide +kernel)⟩
theorem lw_p39 : lw_okq (⟨"AgeLettersModel", "bitsNow", "(I)I"⟩, 37) := ⟨⟨by decide +kernel, by decide +kernel⟩, List.mem_of_getElem? (i := 656) (by decide +kernel), List.mem_of_getElem? (i := 914) (by decide +kernel), List.mem_of_getElem? (i := 915) (by decide +kernel)⟩
theorem lw_p40 : lw_okq (⟨"AgeLettersModel", "knownOf", "(II)I"⟩, 37) := ⟨⟨by decide +kernel, by decide +kernel⟩, List.mem_of_getElem? (i := 656) (by decide +kernel), List.mem_of_getElem? (i := 922) (by decide +kernel), List.mem_of_getElem? (i := 923) (by decide +kernel)⟩
theorem lw_p41 : lw_okq (⟨"AgeLettersModel", "learnedOf", "(II)I"⟩, 37) := ⟨⟨by decide +kernel, by decide +kernel⟩, List.mem_of_getElem? (i := 656) (by decide +kernel), List.mem_of_getElem? (i := 930) (by decide +kernel), List.mem_of_getElem? (i := 931) (by decide +kernel)⟩
theorem lw_p42 : lw_okq (⟨"AgeLettersModel", "learnsIn", "(III)I"⟩, 37) := ⟨⟨by decide +kernel, by decide +kernel⟩, List.mem_of_getElem? (i := 656) (by decide +kernel), List.mem_of_getElem? (i := 934) (by decide +kernel), List.mem_of_getElem? (i := 935) (by decide +kernel)⟩
theorem lw_p43 : lw_okq (⟨"AgeLettersModel", "sealedNow", "()I"⟩, 37) := ⟨⟨by decide +kernel, by decide +kernel⟩, List.mem_of_getElem? (i := 656) (by decide +kernel), List.mem_of_getElem? (i := 942) (by decide +kernel), List.mem_of_getElem? (i := 943) (by decide +kernel)⟩
theorem lw_p44 : lw_okq (⟨"AgeLettersModel", "loudOf", "(I)I"⟩, 37) := ⟨⟨by decide +kernel, by decide +kernel⟩, List.mem_of_getElem? (i := 656) (by decide +kernel), List.mem_of_getElem? (i := 950) (by decide +kernel), List.mem_of_getElem? (i := 951) (by decide +kernel)⟩
theorem lw_p45 : lw_okq (⟨"AgeLettersModel", "tooSoonNow", "()I"⟩, 37) := ⟨⟨by decide +kernel, by decide +kernel⟩, List.mem_of_getElem? (i := 656) (by decide +kernel), List.mem_of_getElem? (i := 958) (by decide +kernel), List.mem_of_getElem? (i := 959) (by decide +kernel)⟩
theorem lw_p46 : lw_okq (⟨"AgeLettersModel", "sendOf", "(III)I"⟩, 37) := ⟨⟨by decide +kernel, by decide +kernel⟩, List.mem_of_getElem? (i := 656) (by decide +kernel), List.mem_of_getElem? (i := 966) (by decide +kernel), List.mem_of_getElem? (i := 967) (by decide +kernel)⟩
theorem lw_p47 : lw_okq (⟨"AgeLettersModel", "sends", "(II)V"⟩, 37) := ⟨⟨by decide +kernel, by decide +kernel⟩, List.mem_of_getElem? (i := 656) (by decide +kernel), List.mem_of_getElem? (i := 970) (by decide +kernel), List.mem_of_getElem? (i := 971) (by decide +kernel)⟩
def lw_privs_3 : List (MethodName × Nat) := [(⟨"AgeLettersModel", "tells", "(II)I"⟩, 37), (⟨"AgeLettersModel", "openedOf", "(I)I"⟩, 37), (⟨"AgeLettersModel", "runsTo", "(I)V"⟩, 37), (⟨"AgeLettersModel", "runs", "(II)V"⟩, 37), (⟨"AgeLettersModel", "opens", "(II)V"⟩, 37), (⟨"AgeLettersModel", "writtenOf", "(I)I"⟩, 37), (⟨"AgeLettersModel", "waitsOf", "(II)I"⟩, 37), (⟨"AgeLettersModel", "bitsNow", "(I)I"⟩, 37), (⟨"AgeLettersModel", "knownOf", "(II)I"⟩, 37), (⟨"AgeLettersModel", "learnedOf", "(II)I"⟩, 37), (⟨"AgeLettersModel", "learnsIn", "(III)I"⟩, 37), (⟨"AgeLettersModel", "sealedNow", "()I"⟩, 37), (⟨"AgeLettersModel", "loudOf", "(I)I"⟩, 37), (⟨"AgeLettersModel", "tooSoonNow", "()I"⟩, 37), (⟨"AgeLettersModel", "sendOf", "(III)I"⟩, 37), (⟨"AgeLettersModel", "sends", "(II)V"⟩, 37)]
theorem lw_r3 : ∀ q ∈ lw_privs_3, lw_okq q := List.forall_mem_cons.mpr ⟨lw_p32, List.forall_mem_cons.mpr ⟨lw_p33, List.forall_mem_cons.mpr ⟨lw_p34, List.forall_mem_cons.mpr ⟨lw_p35, List.forall_mem_cons.mpr ⟨lw_p36, List.forall_mem_cons.mpr ⟨lw_p37, List.forall_mem_cons.mpr ⟨lw_p38, List.forall_mem_cons.mpr ⟨lw_p39, List.forall_mem_cons.mpr ⟨lw_p40, List.forall_mem_cons.mpr ⟨lw_p41, List.forall_mem_cons.mpr ⟨lw_p42, List.forall_mem_cons.mpr ⟨lw_p43, List.forall_mem_cons.mpr ⟨lw_p44, List.forall_mem_cons.mpr ⟨lw_p45, List.forall_mem_cons.mpr ⟨lw_p46, List.forall_mem_cons.mpr ⟨lw_p47, fun _ h => absurd h List.not_mem_nil⟩⟩⟩⟩⟩⟩⟩⟩⟩⟩⟩⟩⟩⟩⟩⟩
theorem lw_p48 : lw_okq (⟨"AgeLettersModel", "trustOf", "(II)I"⟩, 37) := ⟨⟨by decide +kernel, by decide +kernel⟩, List.mem_of_getElem? (i := 656) (by decide +kernel), List.mem_of_getElem? (i := 978) (by decide +kernel), List.mem_of_getElem? (i := 979) (by decide +kernel)⟩
theorem lw_p49 : lw_okq (⟨"AgeLettersModel", "teachOf", "(III)I"⟩, 37) := ⟨⟨by decide +kernel, by decide +kernel⟩, List.mem_of_getElem? (i := 656) (by decide +kernel), List.mem_of_getElem? (i := 989) (by decide +kernel), List.mem_of_getElem? (i := 990) (by decide +kernel)⟩
theorem lw_p50 : lw_okq (⟨"AgeLettersModel", "saidOf", "(I)I"⟩, 37) := ⟨⟨by decide +kernel, by decide +kernel⟩, List.mem_of_getElem? (i := 656) (by decide +kernel), List.mem_of_getElem? (i := 1005) (by decide +kernel), List.mem_of_getElem? (i := 1006) (by decide +kernel)⟩
theorem lw_p51 : lw_okq (⟨"AgeLettersModel", "isDone", "()Z"⟩, 37) := ⟨⟨by decide +kernel, by decide +kernel⟩, List.mem_of_getElem? (i := 656) (by decide +kernel), List.mem_of_getElem? (i := 1009) (by decide +kernel), List.mem_of_getElem? (i := 1010) (by decide +kernel)⟩
theorem lw_p52 : lw_okq (⟨"AgeLettersModel", "forgedNow", "()I"⟩, 37) := ⟨⟨by decide +kernel, by decide +kernel⟩, List.mem_of_getElem? (i := 656) (by decide +kernel), List.mem_of_getElem? (i := 1017) (by decide +kernel), List.mem_of_getElem? (i := 1018) (by decide +kernel)⟩
theorem lw_p53 : lw_okq (⟨"AgeLettersModel", "chanceOf", "(IIII)J"⟩, 37) := ⟨⟨by decide +kernel, by decide +kernel⟩, List.mem_of_getElem? (i := 656) (by decide +kernel), List.mem_of_getElem? (i := 1025) (by decide +kernel), List.mem_of_getElem? (i := 1026) (by decide +kernel)⟩
theorem lw_p54 : lw_okq (⟨"AgeLettersModel", "drawnOf", "(II)I"⟩, 37) := ⟨⟨by decide +kernel, by decide +kernel⟩, List.mem_of_getElem? (i := 656) (by decide +kernel), List.mem_of_getElem? (i := 1041) (by decide +kernel), List.mem_of_getElem? (i := 1042) (by decide +kernel)⟩
theorem lw_p55 : lw_okq (⟨"AgeLettersModel", "lacks", "(III)I"⟩, 37) := ⟨⟨by decide +kernel, by decide +kernel⟩, List.mem_of_getElem? (i := 656) (by decide +kernel), List.mem_of_getElem? (i := 1058) (by decide +kernel), List.mem_of_getElem? (i := 1059) (by decide +kernel)⟩
theorem lw_p56 : lw_okq (⟨"AgeLettersModel", "keep", "(III)V"⟩, 37) := ⟨⟨by decide +kernel, by decide +kernel⟩, List.mem_of_getElem? (i := 656) (by decide +kernel), List.mem_of_getElem? (i := 1062) (by decide +kernel), List.mem_of_getElem? (i := 1063) (by decide +kernel)⟩
theorem lw_p57 : lw_okq (⟨"AgeLettersModel", "sumOf", "(I)I"⟩, 37) := ⟨⟨by decide +kernel, by decide +kernel⟩, List.mem_of_getElem? (i := 656) (by decide +kernel), List.mem_of_getElem? (i := 1083) (by decide +kernel), List.mem_of_getElem? (i := 1084) (by decide +kernel)⟩
def lw_privs_4 : List (MethodName × Nat) := [(⟨"AgeLettersModel", "trustOf", "(II)I"⟩, 37), (⟨"AgeLettersModel", "teachOf", "(III)I"⟩, 37), (⟨"AgeLettersModel", "saidOf", "(I)I"⟩, 37), (⟨"AgeLettersModel", "isDone", "()Z"⟩, 37), (⟨"AgeLettersModel", "forgedNow", "()I"⟩, 37), (⟨"AgeLettersModel", "chanceOf", "(IIII)J"⟩, 37), (⟨"AgeLettersModel", "drawnOf", "(II)I"⟩, 37), (⟨"AgeLettersModel", "lacks", "(III)I"⟩, 37), (⟨"AgeLettersModel", "keep", "(III)V"⟩, 37), (⟨"AgeLettersModel", "sumOf", "(I)I"⟩, 37)]
theorem lw_r4 : ∀ q ∈ lw_privs_4, lw_okq q := List.forall_mem_cons.mpr ⟨lw_p48, List.forall_mem_cons.mpr ⟨lw_p49, List.forall_mem_cons.mpr ⟨lw_p50, List.forall_mem_cons.mpr ⟨lw_p51, List.forall_mem_cons.mpr ⟨lw_p52, List.forall_mem_cons.mpr ⟨lw_p53, List.forall_mem_cons.mpr ⟨lw_p54, List.forall_mem_cons.mpr ⟨lw_p55, List.forall_mem_cons.mpr ⟨lw_p56, List.forall_mem_cons.mpr ⟨lw_p57, fun _ h => absurd h List.not_mem_nil⟩⟩⟩⟩⟩⟩⟩⟩⟩⟩
def lw_privs : List (MethodName × Nat) := lw_privs_1 ++ (lw_privs_2 ++ (lw_privs_3 ++ (lw_privs_4)))
def lw_tbl : List Cond := k2_sels lw_privs ++ tables_1
theorem lw_privs_ok : ∀ q ∈ lw_privs, lw_okq q := by
  show ∀ q ∈ lw_privs_1 ++ (lw_privs_2 ++ (lw_privs_3 ++ (lw_privs_4))), lw_okq q
  exact List.forall_mem_append.mpr ⟨lw_r1, List.forall_mem_append.mpr ⟨lw_r2, List.forall_mem_append.mpr ⟨lw_r3, lw_r4⟩⟩⟩
-- ===== end of PART A; then your names; then what follows =====
def RX0 : String := "AgeLetters$Deeds"
def TX0 : u_T := fun k => match k with
  | 0 => ("AgeLetters$Deeds", "size", "I", false)
  | 1 => ("AgeLetters$Deeds", "year", "[I", true)
  | 2 => ("AgeLetters$Deeds", "person", "[I", true)
  | 3 => ("AgeLetters$Deeds", "word", "[I", true)
  | _ => ("AgeLetters$Deeds", "is", "[I", true)
def tyX0 : Nat → FieldType := fun k => match k with
  | 0 => .int
  | 1 => .array .int
  | 2 => .array .int
  | 3 => .array .int
  | _ => .array .int
theorem nmX0 : ∀ a, a < 5 → ∀ b, b < 5 → a ≠ b → (TX0 a).2.1 ≠ (TX0 b).2.1 := by decide +kernel
theorem tyX0_ok : ∀ k, k < 5 → parseFieldDescriptor (TX0 k).2.2.1 = some (tyX0 k) := by decide +kernel
abbrev cX0_init : ByteArray := prog_2_method_1_code
def yX0_init : MethodName := ⟨RX0, "<init>", "()V"⟩
abbrev cX0_addOne : ByteArray := prog_2_method_2_code
def yX0_addOne : MethodName := ⟨RX0, "addOne", "(IIII)V"⟩
abbrev cX0_cameOutIn : ByteArray := prog_2_method_3_code
def yX0_cameOutIn : MethodName := ⟨RX0, "cameOutIn", "(LAgeLetters$Years;)Z"⟩
def RX1 : String := "AgeLetters$Folk"
def TX1 : u_T := fun k => match k with
  | 0 => ("AgeLetters$Folk", "count", "I", false)
  | 1 => ("AgeLetters$Folk", "born", "[I", true)
  | 2 => ("AgeLetters$Folk", "end", "[I", true)
  | 3 => ("AgeLetters$Folk", "kind", "[I", true)
  | 4 => ("AgeLetters$Folk", "more", "[I", true)
  | _ => ("AgeLetters$Folk", "own", "[I", true)
def tyX1 : Nat → FieldType := fun k => match k with
  | 0 => .int
  | 1 => .array .int
  | 2 => .array .int
  | 3 => .array .int
  | 4 => .array .int
  | _ => .array .int
theorem nmX1 : ∀ a, a < 6 → ∀ b, b < 6 → a ≠ b → (TX1 a).2.1 ≠ (TX1 b).2.1 := by decide +kernel
theorem tyX1_ok : ∀ k, k < 6 → parseFieldDescriptor (TX1 k).2.2.1 = some (tyX1 k) := by decide +kernel
abbrev cX1_init : ByteArray := prog_3_method_1_code
def yX1_init : MethodName := ⟨RX1, "<init>", "()V"⟩
abbrev cX1_isThere : ByteArray := prog_3_method_2_code
def yX1_isThere : MethodName := ⟨RX1, "isThere", "(I)Z"⟩
abbrev cX1_lives : ByteArray := prog_3_method_3_code
def yX1_lives : MethodName := ⟨RX1, "lives", "(II)Z"⟩
abbrev cX1_toldAge : ByteArray := prog_3_method_4_code
def yX1_toldAge : MethodName := ⟨RX1, "toldAge", "(II)I"⟩
abbrev cX1_elders : ByteArray := prog_3_method_5_code
def yX1_elders : MethodName := ⟨RX1, "elders", "()I"⟩
abbrev cX1_ownWords : ByteArray := prog_3_method_6_code
def yX1_ownWords : MethodName := ⟨RX1, "ownWords", "()I"⟩
abbrev cX1_shorten : ByteArray := prog_3_method_7_code
def yX1_shorten : MethodName := ⟨RX1, "shorten", "(LAgeLetters$Folk;I)V"⟩
abbrev cX1_takeFrom : ByteArray := prog_3_method_8_code
def yX1_takeFrom : MethodName := ⟨RX1, "takeFrom", "(LAgeLetters$Folk;)V"⟩
def RX2 : String := "AgeLetters$Post"
def TX2 : u_T := fun k => match k with
  | 0 => ("AgeLetters$Post", "size", "I", false)
  | 1 => ("AgeLetters$Post", "writer", "[I", true)
  | 2 => ("AgeLetters$Post", "reader", "[I", true)
  | 3 => ("AgeLetters$Post", "year", "[I", true)
  | 4 => ("AgeLetters$Post", "word", "[I", true)
  | _ => ("AgeLetters$Post", "needed", "[I", true)
def tyX2 : Nat → FieldType := fun k => match k with
  | 0 => .int
  | 1 => .array .int
  | 2 => .array .int
  | 3 => .array .int
  | 4 => .array .int
  | _ => .array .int
theorem nmX2 : ∀ a, a < 6 → ∀ b, b < 6 → a ≠ b → (TX2 a).2.1 ≠ (TX2 b).2.1 := by decide +kernel
theorem tyX2_ok : ∀ k, k < 6 → parseFieldDescriptor (TX2 k).2.2.1 = some (tyX2 k) := by decide +kernel
abbrev cX2_init : ByteArray := prog_4_method_1_code
def yX2_init : MethodName := ⟨RX2, "<init>", "()V"⟩
abbrev cX2_setLast : ByteArray := prog_4_method_2_code
def yX2_setLast : MethodName := ⟨RX2, "setLast", "(IIIII)V"⟩
abbrev cX2_takeFrom : ByteArray := prog_4_method_3_code
def yX2_takeFrom : MethodName := ⟨RX2, "takeFrom", "(LAgeLetters$Post;)V"⟩
def RX3 : String := "AgeLetters$Row"
def TX3 : u_T := fun k => match k with
  | 0 => ("AgeLetters$Row", "isLost", "Z", false)
  | 1 => ("AgeLetters$Row", "form", "I", false)
  | 2 => ("AgeLetters$Row", "size", "I", false)
  | _ => ("AgeLetters$Row", "items", "[I", true)
def tyX3 : Nat → FieldType := fun k => match k with
  | 0 => .boolean
  | 1 => .int
  | 2 => .int
  | _ => .array .int
theorem nmX3 : ∀ a, a < 4 → ∀ b, b < 4 → a ≠ b → (TX3 a).2.1 ≠ (TX3 b).2.1 := by decide +kernel
theorem tyX3_ok : ∀ k, k < 4 → parseFieldDescriptor (TX3 k).2.2.1 = some (tyX3 k) := by decide +kernel
abbrev cX3_init : ByteArray := prog_5_method_1_code
def yX3_init : MethodName := ⟨RX3, "<init>", "()V"⟩
abbrev cX3_begin : ByteArray := prog_5_method_2_code
def yX3_begin : MethodName := ⟨RX3, "begin", "(II)V"⟩
abbrev cX3_findingAt : ByteArray := prog_5_method_3_code
def yX3_findingAt : MethodName := ⟨RX3, "findingAt", "(II)I"⟩
abbrev cX3_hasStretch : ByteArray := prog_5_method_4_code
def yX3_hasStretch : MethodName := ⟨RX3, "hasStretch", "(II)Z"⟩
abbrev cX3_setItem : ByteArray := prog_5_method_5_code
def yX3_setItem : MethodName := ⟨RX3, "setItem", "(II)V"⟩
def RX4 : String := "AgeLetters$Text"
def TX4 : u_T := fun k => match k with
  | 0 => ("AgeLetters$Text", "bytes", "[I", true)
  | _ => ("AgeLetters$Text", "length", "I", false)
def tyX4 : Nat → FieldType := fun k => match k with
  | 0 => .array .int
  | _ => .int
theorem nmX4 : ∀ a, a < 2 → ∀ b, b < 2 → a ≠ b → (TX4 a).2.1 ≠ (TX4 b).2.1 := by decide +kernel
theorem tyX4_ok : ∀ k, k < 2 → parseFieldDescriptor (TX4 k).2.2.1 = some (tyX4 k) := by decide +kernel
abbrev cX4_init : ByteArray := prog_6_method_1_code
def yX4_init : MethodName := ⟨RX4, "<init>", "()V"⟩
abbrev cX4_firstFault : ByteArray := prog_6_method_2_code
def yX4_firstFault : MethodName := ⟨RX4, "firstFault", "()I"⟩
abbrev cX4_goesOn : ByteArray := prog_6_method_3_code
def yX4_goesOn : MethodName := ⟨RX4, "goesOn", "(I)Z"⟩
abbrev cX4_tellPeople : ByteArray := prog_6_method_4_code
def yX4_tellPeople : MethodName := ⟨RX4, "tellPeople", "(LAgeLetters$Folk;)V"⟩
abbrev cX4_twoFigures : ByteArray := prog_6_method_5_code
def yX4_twoFigures : MethodName := ⟨RX4, "twoFigures", "(I)I"⟩
abbrev cX4_isFigure : ByteArray := prog_6_method_6_code
def yX4_isFigure : MethodName := ⟨RX4, "isFigure", "(I)Z"⟩
def RX5 : String := "AgeLetters$Years"
def TX5 : u_T := fun k => match k with
  | 0 => ("AgeLetters$Years", "folk", "LAgeLetters$Folk;", true)
  | 1 => ("AgeLetters$Years", "post", "LAgeLetters$Post;", true)
  | 2 => ("AgeLetters$Years", "awayBits", "I", false)
  | 3 => ("AgeLetters$Years", "writtenBits", "I", false)
  | 4 => ("AgeLetters$Years", "openedBits", "I", false)
  | 5 => ("AgeLetters$Years", "openedIn", "[I", true)
  | 6 => ("AgeLetters$Years", "dueIn", "[I", true)
  | 7 => ("AgeLetters$Years", "knownBits", "[I", true)
  | 8 => ("AgeLetters$Years", "learnedIn", "[I", true)
  | _ => ("AgeLetters$Years", "wantedBits", "[I", true)
def tyX5 : Nat → FieldType := fun k => match k with
  | 0 => .object "AgeLetters$Folk"
  | 1 => .object "AgeLetters$Post"
  | 2 => .int
  | 3 => .int
  | 4 => .int
  | 5 => .array .int
  | 6 => .array .int
  | 7 => .array .int
  | 8 => .array .int
  | _ => .array .int
theorem nmX5 : ∀ a, a < 10 → ∀ b, b < 10 → a ≠ b → (TX5 a).2.1 ≠ (TX5 b).2.1 := by decide +kernel
theorem tyX5_ok : ∀ k, k < 10 → parseFieldDescriptor (TX5 k).2.2.1 = some (tyX5 k) := by decide +kernel
abbrev cX5_init : ByteArray := prog_7_method_1_code
def yX5_init : MethodName := ⟨RX5, "<init>", "()V"⟩
abbrev cX5_takeFrom : ByteArray := prog_7_method_2_code
def yX5_takeFrom : MethodName := ⟨RX5, "takeFrom", "(LAgeLetters$Years;)V"⟩
abbrev cX5_live : ByteArray := prog_7_method_3_code
def yX5_live : MethodName := ⟨RX5, "live", "()V"⟩
abbrev cX5_writeThoseOf : ByteArray := prog_7_method_4_code
def yX5_writeThoseOf : MethodName := ⟨RX5, "writeThoseOf", "(I)V"⟩
abbrev cX5_openThoseDue : ByteArray := prog_7_method_5_code
def yX5_openThoseDue : MethodName := ⟨RX5, "openThoseDue", "(I)V"⟩
abbrev cX5_openOne : ByteArray := prog_7_method_6_code
def yX5_openOne : MethodName := ⟨RX5, "openOne", "(II)V"⟩
abbrev cX5_grant : ByteArray := prog_7_method_7_code
def yX5_grant : MethodName := ⟨RX5, "grant", "(III)V"⟩
abbrev cX5_isWaiting : ByteArray := prog_7_method_8_code
def yX5_isWaiting : MethodName := ⟨RX5, "isWaiting", "(I)Z"⟩
abbrev cX5_hasNeeded : ByteArray := prog_7_method_9_code
def yX5_hasNeeded : MethodName := ⟨RX5, "hasNeeded", "(I)Z"⟩
abbrev cX5_nextStir : ByteArray := prog_7_method_10_code
def yX5_nextStir : MethodName := ⟨RX5, "nextStir", "(I)I"⟩
abbrev cX5_dueYear : ByteArray := prog_7_method_11_code
def yX5_dueYear : MethodName := ⟨RX5, "dueYear", "(I)I"⟩
abbrev cX5_helpfulFor : ByteArray := prog_7_method_12_code
def yX5_helpfulFor : MethodName := ⟨RX5, "helpfulFor", "(III)I"⟩
abbrev cX5_bringsWanted : ByteArray := prog_7_method_13_code
def yX5_bringsWanted : MethodName := ⟨RX5, "bringsWanted", "(I)Z"⟩
abbrev cX5_want : ByteArray := prog_7_method_14_code
def yX5_want : MethodName := ⟨RX5, "want", "(II)V"⟩
abbrev cX5_involvedIn : ByteArray := prog_7_method_15_code
def yX5_involvedIn : MethodName := ⟨RX5, "involvedIn", "(I)I"⟩
abbrev cX5_couldWrite : ByteArray := prog_7_method_16_code
def yX5_couldWrite : MethodName := ⟨RX5, "couldWrite", "(III)Z"⟩
abbrev cX5_openingYear : ByteArray := prog_7_method_17_code
def yX5_openingYear : MethodName := ⟨RX5, "openingYear", "(I)I"⟩
abbrev cX5_learningYear : ByteArray := prog_7_method_18_code
def yX5_learningYear : MethodName := ⟨RX5, "learningYear", "(II)I"⟩
abbrev cX5_knew : ByteArray := prog_7_method_19_code
def yX5_knew : MethodName := ⟨RX5, "knew", "(III)Z"⟩
abbrev cX5_wordsBehind : ByteArray := prog_7_method_20_code
def yX5_wordsBehind : MethodName := ⟨RX5, "wordsBehind", "(II)I"⟩
abbrev cX5_openedBehind : ByteArray := prog_7_method_21_code
def yX5_openedBehind : MethodName := ⟨RX5, "openedBehind", "(I)I"⟩
abbrev cX5_waitingBehind : ByteArray := prog_7_method_22_code
def yX5_waitingBehind : MethodName := ⟨RX5, "waitingBehind", "(I)I"⟩
abbrev cX5_sealedBits : ByteArray := prog_7_method_23_code
def yX5_sealedBits : MethodName := ⟨RX5, "sealedBits", "()I"⟩
abbrev cX5_openedWithin : ByteArray := prog_7_method_24_code
def yX5_openedWithin : MethodName := ⟨RX5, "openedWithin", "(I)I"⟩
abbrev cX5_loudestYear : ByteArray := prog_7_method_25_code
def yX5_loudestYear : MethodName := ⟨RX5, "loudestYear", "()I"⟩
def RX6 : String := "AgeLetters"
def TX6 : u_T := fun k => match k with
  | 0 => ("AgeLetters", "text", "LAgeLetters$Text;", true)
  | 1 => ("AgeLetters", "lived", "LAgeLetters$Years;", true)
  | 2 => ("AgeLetters", "supposed", "LAgeLetters$Years;", true)
  | 3 => ("AgeLetters", "folk", "LAgeLetters$Folk;", true)
  | 4 => ("AgeLetters", "post", "LAgeLetters$Post;", true)
  | 5 => ("AgeLetters", "deeds", "LAgeLetters$Deeds;", true)
  | 6 => ("AgeLetters", "rows", "[LAgeLetters$Row;", true)
  | _ => ("AgeLetters", "latestFinding", "I", false)
def tyX6 : Nat → FieldType := fun k => match k with
  | 0 => .object "AgeLetters$Text"
  | 1 => .object "AgeLetters$Years"
  | 2 => .object "AgeLetters$Years"
  | 3 => .object "AgeLetters$Folk"
  | 4 => .object "AgeLetters$Post"
  | 5 => .object "AgeLetters$Deeds"
  | 6 => .array (.object "AgeLetters$Row")
  | _ => .int
theorem nmX6 : ∀ a, a < 8 → ∀ b, b < 8 → a ≠ b → (TX6 a).2.1 ≠ (TX6 b).2.1 := by decide +kernel
theorem tyX6_ok : ∀ k, k < 8 → parseFieldDescriptor (TX6 k).2.2.1 = some (tyX6 k) := by decide +kernel
abbrev cX6_init : ByteArray := prog_1_method_1_code
def yX6_init : MethodName := ⟨RX6, "<init>", "()V"⟩
abbrev cX6_type : ByteArray := prog_1_method_2_code
def yX6_type : MethodName := ⟨RX6, "type", "(I)I"⟩
abbrev cX6_wipe : ByteArray := prog_1_method_3_code
def yX6_wipe : MethodName := ⟨RX6, "wipe", "()I"⟩
abbrev cX6_undo : ByteArray := prog_1_method_4_code
def yX6_undo : MethodName := ⟨RX6, "undo", "()I"⟩
abbrev cX6_fault : ByteArray := prog_1_method_5_code
def yX6_fault : MethodName := ⟨RX6, "fault", "()I"⟩
abbrev cX6_person : ByteArray := prog_1_method_6_code
def yX6_person : MethodName := ⟨RX6, "person", "(II)I"⟩
abbrev cX6_knows : ByteArray := prog_1_method_7_code
def yX6_knows : MethodName := ⟨RX6, "knows", "(II)I"⟩
abbrev cX6_letter : ByteArray := prog_1_method_8_code
def yX6_letter : MethodName := ⟨RX6, "letter", "(IIIII)I"⟩
abbrev cX6_back : ByteArray := prog_1_method_9_code
def yX6_back : MethodName := ⟨RX6, "back", "()I"⟩
abbrev cX6_read : ByteArray := prog_1_method_10_code
def yX6_read : MethodName := ⟨RX6, "read", "(I)I"⟩
abbrev cX6_takePeople : ByteArray := prog_1_method_11_code
def yX6_takePeople : MethodName := ⟨RX6, "takePeople", "()V"⟩
abbrev cX6_takeLetter : ByteArray := prog_1_method_12_code
def yX6_takeLetter : MethodName := ⟨RX6, "takeLetter", "(IIIII)I"⟩
abbrev cX6_age : ByteArray := prog_1_method_13_code
def yX6_age : MethodName := ⟨RX6, "age", "(II)I"⟩
abbrev cX6_opened : ByteArray := prog_1_method_14_code
def yX6_opened : MethodName := ⟨RX6, "opened", "(I)I"⟩
abbrev cX6_written : ByteArray := prog_1_method_15_code
def yX6_written : MethodName := ⟨RX6, "written", "(I)I"⟩
abbrev cX6_waits : ByteArray := prog_1_method_16_code
def yX6_waits : MethodName := ⟨RX6, "waits", "(II)I"⟩
abbrev cX6_known : ByteArray := prog_1_method_17_code
def yX6_known : MethodName := ⟨RX6, "known", "(II)I"⟩
abbrev cX6_learned : ByteArray := prog_1_method_18_code
def yX6_learned : MethodName := ⟨RX6, "learned", "(II)I"⟩
abbrev cX6_sealed : ByteArray := prog_1_method_19_code
def yX6_sealed : MethodName := ⟨RX6, "sealed", "()I"⟩
abbrev cX6_loud : ByteArray := prog_1_method_20_code
def yX6_loud : MethodName := ⟨RX6, "loud", "(I)I"⟩
abbrev cX6_tooSoon : ByteArray := prog_1_method_21_code
def yX6_tooSoon : MethodName := ⟨RX6, "tooSoon", "()I"⟩
abbrev cX6_opensWithGrace : ByteArray := prog_1_method_22_code
def yX6_opensWithGrace : MethodName := ⟨RX6, "opensWithGrace", "(I)Z"⟩
abbrev cX6_send : ByteArray := prog_1_method_23_code
def yX6_send : MethodName := ⟨RX6, "send", "(III)I"⟩
abbrev cX6_bestSend : ByteArray := prog_1_method_24_code
def yX6_bestSend : MethodName := ⟨RX6, "bestSend", "(II)I"⟩
abbrev cX6_learnedBySend : ByteArray := prog_1_method_25_code
def yX6_learnedBySend : MethodName := ⟨RX6, "learnedBySend", "(IIIII)I"⟩
abbrev cX6_trust : ByteArray := prog_1_method_26_code
def yX6_trust : MethodName := ⟨RX6, "trust", "(II)I"⟩
abbrev cX6_knowsByTrust : ByteArray := prog_1_method_27_code
def yX6_knowsByTrust : MethodName := ⟨RX6, "knowsByTrust", "(III)Z"⟩
abbrev cX6_teach : ByteArray := prog_1_method_28_code
def yX6_teach : MethodName := ⟨RX6, "teach", "(III)I"⟩
abbrev cX6_teaches : ByteArray := prog_1_method_29_code
def yX6_teaches : MethodName := ⟨RX6, "teaches", "(IIII)Z"⟩
abbrev cX6_done : ByteArray := prog_1_method_30_code
def yX6_done : MethodName := ⟨RX6, "done", "(IIII)I"⟩
abbrev cX6_forget : ByteArray := prog_1_method_31_code
def yX6_forget : MethodName := ⟨RX6, "forget", "()I"⟩
abbrev cX6_said : ByteArray := prog_1_method_32_code
def yX6_said : MethodName := ⟨RX6, "said", "(I)I"⟩
abbrev cX6_forged : ByteArray := prog_1_method_33_code
def yX6_forged : MethodName := ⟨RX6, "forged", "()I"⟩
abbrev cX6_chance : ByteArray := prog_1_method_34_code
def yX6_chance : MethodName := ⟨RX6, "chance", "(IIII)J"⟩
abbrev cX6_weightOfKnowing : ByteArray := prog_1_method_35_code
def yX6_weightOfKnowing : MethodName := ⟨RX6, "weightOfKnowing", "(IIII)J"⟩
abbrev cX6_knowsWithShorter : ByteArray := prog_1_method_36_code
def yX6_knowsWithShorter : MethodName := ⟨RX6, "knowsWithShorter", "(III)Z"⟩
abbrev cX6_drawn : ByteArray := prog_1_method_37_code
def yX6_drawn : MethodName := ⟨RX6, "drawn", "(II)I"⟩
abbrev cX6_sheet : ByteArray := prog_1_method_38_code
def yX6_sheet : MethodName := ⟨RX6, "sheet", "(III)I"⟩
abbrev cX6_lose : ByteArray := prog_1_method_39_code
def yX6_lose : MethodName := ⟨RX6, "lose", "(I)I"⟩
abbrev cX6_put : ByteArray := prog_1_method_40_code
def yX6_put : MethodName := ⟨RX6, "put", "(IIII)I"⟩
abbrev cX6_get : ByteArray := prog_1_method_41_code
def yX6_get : MethodName := ⟨RX6, "get", "(III)I"⟩
abbrev cX6_copy : ByteArray := prog_1_method_42_code
def yX6_copy : MethodName := ⟨RX6, "copy", "(IIIII)I"⟩
abbrev cX6_write : ByteArray := prog_1_method_43_code
def yX6_write : MethodName := ⟨RX6, "write", "(I)I"⟩
abbrev cX6_count : ByteArray := prog_1_method_44_code
def yX6_count : MethodName := ⟨RX6, "count", "(I)I"⟩
abbrev cX6_digest : ByteArray := prog_1_method_45_code
def yX6_digest : MethodName := ⟨RX6, "digest", "()J"⟩
abbrev cX6_mixPersons : ByteArray := prog_1_method_46_code
def yX6_mixPersons : MethodName := ⟨RX6, "mixPersons", "(J)J"⟩
abbrev cX6_find : ByteArray := prog_1_method_47_code
def yX6_find : MethodName := ⟨RX6, "find", "(I)I"⟩
abbrev cX6_nextWithin : ByteArray := prog_1_method_48_code
def yX6_nextWithin : MethodName := ⟨RX6, "nextWithin", "(II)I"⟩
abbrev cX6_isBelow : ByteArray := prog_1_method_49_code
def yX6_isBelow : MethodName := ⟨RX6, "isBelow", "(II)Z"⟩
abbrev cX6_power : ByteArray := prog_1_method_50_code
def yX6_power : MethodName := ⟨RX6, "power", "(II)J"⟩
def RX7 : String := "AgeLettersModel"
def TX7 : u_T := fun k => match k with
  | 0 => ("AgeLettersModel", "text", "[I", true)
  | 1 => ("AgeLettersModel", "typed", "I", false)
  | 2 => ("AgeLettersModel", "persons", "I", false)
  | 3 => ("AgeLettersModel", "born", "[I", true)
  | 4 => ("AgeLettersModel", "ends", "[I", true)
  | 5 => ("AgeLettersModel", "kinds", "[I", true)
  | 6 => ("AgeLettersModel", "knowsOwn", "[I", true)
  | 7 => ("AgeLettersModel", "letters", "I", false)
  | 8 => ("AgeLettersModel", "writers", "[I", true)
  | 9 => ("AgeLettersModel", "readers", "[I", true)
  | 10 => ("AgeLettersModel", "years", "[I", true)
  | 11 => ("AgeLettersModel", "words", "[I", true)
  | 12 => ("AgeLettersModel", "needs", "[I", true)
  | 13 => ("AgeLettersModel", "some", "I", false)
  | 14 => ("AgeLettersModel", "forger", "I", false)
  | 15 => ("AgeLettersModel", "shorter", "I", false)
  | 16 => ("AgeLettersModel", "longer", "I", false)
  | 17 => ("AgeLettersModel", "trusted", "I", false)
  | 18 => ("AgeLettersModel", "trustedWord", "I", false)
  | 19 => ("AgeLettersModel", "knownNow", "[I", true)
  | 20 => ("AgeLettersModel", "openedIn", "[I", true)
  | 21 => ("AgeLettersModel", "toldIn", "[I", true)
  | 22 => ("AgeLettersModel", "sentLearned", "I", false)
  | 23 => ("AgeLettersModel", "sentBy", "I", false)
  | 24 => ("AgeLettersModel", "sentIn", "I", false)
  | 25 => ("AgeLettersModel", "firstKnown", "[I", true)
  | 26 => ("AgeLettersModel", "dones", "I", false)
  | 27 => ("AgeLettersModel", "doneYear", "[I", true)
  | 28 => ("AgeLettersModel", "donePerson", "[I", true)
  | 29 => ("AgeLettersModel", "doneWord", "[I", true)
  | 30 => ("AgeLettersModel", "doneIs", "[I", true)
  | 31 => ("AgeLettersModel", "isThere", "[Z", true)
  | 32 => ("AgeLettersModel", "forms", "[I", true)
  | 33 => ("AgeLettersModel", "sizes", "[I", true)
  | 34 => ("AgeLettersModel", "items", "[I", true)
  | 35 => ("AgeLettersModel", "moved", "[I", true)
  | _ => ("AgeLettersModel", "finding", "I", false)
def tyX7 : Nat → FieldType := fun k => match k with
  | 0 => .array .int
  | 1 => .int
  | 2 => .int
  | 3 => .array .int
  | 4 => .array .int
  | 5 => .array .int
  | 6 => .array .int
  | 7 => .int
  | 8 => .array .int
  | 9 => .array .int
  | 10 => .array .int
  | 11 => .array .int
  | 12 => .array .int
  | 13 => .int
  | 14 => .int
  | 15 => .int
  | 16 => .int
  | 17 => .int
  | 18 => .int
  | 19 => .array .int
  | 20 => .array .int
  | 21 => .array .int
  | 22 => .int
  | 23 => .int
  | 24 => .int
  | 25 => .array .int
  | 26 => .int
  | 27 => .array .int
  | 28 => .array .int
  | 29 => .array .int
  | 30 => .array .int
  | 31 => .array .boolean
  | 32 => .array .int
  | 33 => .array .int
  | 34 => .array .int
  | 35 => .array .int
  | _ => .int
theorem nmX7 : ∀ a, a < 37 → ∀ b, b < 37 → a ≠ b → (TX7 a).2.1 ≠ (TX7 b).2.1 := by decide +kernel
theorem tyX7_ok : ∀ k, k < 37 → parseFieldDescriptor (TX7 k).2.2.1 = some (tyX7 k) := by decide +kernel
abbrev cX7_init : ByteArray := prog_9_method_1_code
def yX7_init : MethodName := ⟨RX7, "<init>", "()V"⟩
abbrev cX7_in : ByteArray := prog_9_method_3_code
def yX7_in : MethodName := ⟨RX7, "in", "(III)Z"⟩
abbrev cX7_isIn : ByteArray := prog_9_method_4_code
def yX7_isIn : MethodName := ⟨RX7, "isIn", "(II)Z"⟩
abbrev cX7_ones : ByteArray := prog_9_method_5_code
def yX7_ones : MethodName := ⟨RX7, "ones", "(I)I"⟩
abbrev cX7_no : ByteArray := prog_9_method_6_code
def yX7_no : MethodName := ⟨RX7, "no", "(I)J"⟩
abbrev cX7_lowest : ByteArray := prog_9_method_7_code
def yX7_lowest : MethodName := ⟨RX7, "lowest", "(JJI)J"⟩
abbrev cX7_isTen : ByteArray := prog_9_method_8_code
def yX7_isTen : MethodName := ⟨RX7, "isTen", "(I)Z"⟩
abbrev cX7_isYear : ByteArray := prog_9_method_9_code
def yX7_isYear : MethodName := ⟨RX7, "isYear", "(I)Z"⟩
abbrev cX7_isWord : ByteArray := prog_9_method_10_code
def yX7_isWord : MethodName := ⟨RX7, "isWord", "(I)Z"⟩
abbrev cX7_type : ByteArray := prog_9_method_11_code
def yX7_type : MethodName := ⟨RX7, "type", "(I)I"⟩
abbrev cX7_wipe : ByteArray := prog_9_method_12_code
def yX7_wipe : MethodName := ⟨RX7, "wipe", "()I"⟩
abbrev cX7_undo : ByteArray := prog_9_method_13_code
def yX7_undo : MethodName := ⟨RX7, "undo", "()I"⟩
abbrev cX7_figureAt : ByteArray := prog_9_method_14_code
def yX7_figureAt : MethodName := ⟨RX7, "figureAt", "(I)I"⟩
abbrev cX7_faultNow : ByteArray := prog_9_method_15_code
def yX7_faultNow : MethodName := ⟨RX7, "faultNow", "()I"⟩
abbrev cX7_fault : ByteArray := prog_9_method_16_code
def yX7_fault : MethodName := ⟨RX7, "fault", "()I"⟩
abbrev cX7_reads : ByteArray := prog_9_method_17_code
def yX7_reads : MethodName := ⟨RX7, "reads", "()V"⟩
abbrev cX7_isPerson : ByteArray := prog_9_method_18_code
def yX7_isPerson : MethodName := ⟨RX7, "isPerson", "(I)Z"⟩
abbrev cX7_person : ByteArray := prog_9_method_19_code
def yX7_person : MethodName := ⟨RX7, "person", "(II)I"⟩
abbrev cX7_knows : ByteArray := prog_9_method_20_code
def yX7_knows : MethodName := ⟨RX7, "knows", "(II)I"⟩
abbrev cX7_lays : ByteArray := prog_9_method_21_code
def yX7_lays : MethodName := ⟨RX7, "lays", "(IIIIII)V"⟩
abbrev cX7_letter : ByteArray := prog_9_method_22_code
def yX7_letter : MethodName := ⟨RX7, "letter", "(IIIII)I"⟩
abbrev cX7_back : ByteArray := prog_9_method_23_code
def yX7_back : MethodName := ⟨RX7, "back", "()I"⟩
abbrev cX7_read : ByteArray := prog_9_method_24_code
def yX7_read : MethodName := ⟨RX7, "read", "(I)I"⟩
abbrev cX7_asTold : ByteArray := prog_9_method_25_code
def yX7_asTold : MethodName := ⟨RX7, "asTold", "()V"⟩
abbrev cX7_endOf : ByteArray := prog_9_method_26_code
def yX7_endOf : MethodName := ⟨RX7, "endOf", "(I)I"⟩
abbrev cX7_lives : ByteArray := prog_9_method_27_code
def yX7_lives : MethodName := ⟨RX7, "lives", "(II)Z"⟩
abbrev cX7_tells : ByteArray := prog_9_method_28_code
def yX7_tells : MethodName := ⟨RX7, "tells", "(II)I"⟩
abbrev cX7_opens : ByteArray := prog_9_method_29_code
def yX7_opens : MethodName := ⟨RX7, "opens", "(II)V"⟩
abbrev cX7_runs : ByteArray := prog_9_method_30_code
def yX7_runs : MethodName := ⟨RX7, "runs", "(II)V"⟩
abbrev cX7_runsTo : ByteArray := prog_9_method_31_code
def yX7_runsTo : MethodName := ⟨RX7, "runsTo", "(I)V"⟩
abbrev cX7_ageOf : ByteArray := prog_9_method_32_code
def yX7_ageOf : MethodName := ⟨RX7, "ageOf", "(II)I"⟩
abbrev cX7_age : ByteArray := prog_9_method_33_code
def yX7_age : MethodName := ⟨RX7, "age", "(II)I"⟩
abbrev cX7_openedOf : ByteArray := prog_9_method_34_code
def yX7_openedOf : MethodName := ⟨RX7, "openedOf", "(I)I"⟩
abbrev cX7_opened : ByteArray := prog_9_method_35_code
def yX7_opened : MethodName := ⟨RX7, "opened", "(I)I"⟩
abbrev cX7_writtenOf : ByteArray := prog_9_method_36_code
def yX7_writtenOf : MethodName := ⟨RX7, "writtenOf", "(I)I"⟩
abbrev cX7_written : ByteArray := prog_9_method_37_code
def yX7_written : MethodName := ⟨RX7, "written", "(I)I"⟩
abbrev cX7_bitsNow : ByteArray := prog_9_method_38_code
def yX7_bitsNow : MethodName := ⟨RX7, "bitsNow", "(I)I"⟩
abbrev cX7_waitsOf : ByteArray := prog_9_method_39_code
def yX7_waitsOf : MethodName := ⟨RX7, "waitsOf", "(II)I"⟩
abbrev cX7_waits : ByteArray := prog_9_method_40_code
def yX7_waits : MethodName := ⟨RX7, "waits", "(II)I"⟩
abbrev cX7_knownOf : ByteArray := prog_9_method_41_code
def yX7_knownOf : MethodName := ⟨RX7, "knownOf", "(II)I"⟩
abbrev cX7_known : ByteArray := prog_9_method_42_code
def yX7_known : MethodName := ⟨RX7, "known", "(II)I"⟩
abbrev cX7_learnsIn : ByteArray := prog_9_method_43_code
def yX7_learnsIn : MethodName := ⟨RX7, "learnsIn", "(III)I"⟩
abbrev cX7_learnedOf : ByteArray := prog_9_method_44_code
def yX7_learnedOf : MethodName := ⟨RX7, "learnedOf", "(II)I"⟩
abbrev cX7_learned : ByteArray := prog_9_method_45_code
def yX7_learned : MethodName := ⟨RX7, "learned", "(II)I"⟩
abbrev cX7_sealedNow : ByteArray := prog_9_method_46_code
def yX7_sealedNow : MethodName := ⟨RX7, "sealedNow", "()I"⟩
abbrev cX7_sealed : ByteArray := prog_9_method_47_code
def yX7_sealed : MethodName := ⟨RX7, "sealed", "()I"⟩
abbrev cX7_loudOf : ByteArray := prog_9_method_48_code
def yX7_loudOf : MethodName := ⟨RX7, "loudOf", "(I)I"⟩
abbrev cX7_loud : ByteArray := prog_9_method_49_code
def yX7_loud : MethodName := ⟨RX7, "loud", "(I)I"⟩
abbrev cX7_tooSoonNow : ByteArray := prog_9_method_50_code
def yX7_tooSoonNow : MethodName := ⟨RX7, "tooSoonNow", "()I"⟩
abbrev cX7_tooSoon : ByteArray := prog_9_method_51_code
def yX7_tooSoon : MethodName := ⟨RX7, "tooSoon", "()I"⟩
abbrev cX7_sends : ByteArray := prog_9_method_52_code
def yX7_sends : MethodName := ⟨RX7, "sends", "(II)V"⟩
abbrev cX7_sendOf : ByteArray := prog_9_method_53_code
def yX7_sendOf : MethodName := ⟨RX7, "sendOf", "(III)I"⟩
abbrev cX7_send : ByteArray := prog_9_method_54_code
def yX7_send : MethodName := ⟨RX7, "send", "(III)I"⟩
abbrev cX7_trustOf : ByteArray := prog_9_method_55_code
def yX7_trustOf : MethodName := ⟨RX7, "trustOf", "(II)I"⟩
abbrev cX7_trust : ByteArray := prog_9_method_56_code
def yX7_trust : MethodName := ⟨RX7, "trust", "(II)I"⟩
abbrev cX7_teachOf : ByteArray := prog_9_method_57_code
def yX7_teachOf : MethodName := ⟨RX7, "teachOf", "(III)I"⟩
abbrev cX7_teach : ByteArray := prog_9_method_58_code
def yX7_teach : MethodName := ⟨RX7, "teach", "(III)I"⟩
abbrev cX7_done : ByteArray := prog_9_method_59_code
def yX7_done : MethodName := ⟨RX7, "done", "(IIII)I"⟩
abbrev cX7_forget : ByteArray := prog_9_method_60_code
def yX7_forget : MethodName := ⟨RX7, "forget", "()I"⟩
abbrev cX7_isDone : ByteArray := prog_9_method_61_code
def yX7_isDone : MethodName := ⟨RX7, "isDone", "()Z"⟩
abbrev cX7_saidOf : ByteArray := prog_9_method_62_code
def yX7_saidOf : MethodName := ⟨RX7, "saidOf", "(I)I"⟩
abbrev cX7_said : ByteArray := prog_9_method_63_code
def yX7_said : MethodName := ⟨RX7, "said", "(I)I"⟩
abbrev cX7_forgedNow : ByteArray := prog_9_method_64_code
def yX7_forgedNow : MethodName := ⟨RX7, "forgedNow", "()I"⟩
abbrev cX7_forged : ByteArray := prog_9_method_65_code
def yX7_forged : MethodName := ⟨RX7, "forged", "()I"⟩
abbrev cX7_chanceOf : ByteArray := prog_9_method_66_code
def yX7_chanceOf : MethodName := ⟨RX7, "chanceOf", "(IIII)J"⟩
abbrev cX7_chance : ByteArray := prog_9_method_67_code
def yX7_chance : MethodName := ⟨RX7, "chance", "(IIII)J"⟩
abbrev cX7_drawnOf : ByteArray := prog_9_method_68_code
def yX7_drawnOf : MethodName := ⟨RX7, "drawnOf", "(II)I"⟩
abbrev cX7_drawn : ByteArray := prog_9_method_69_code
def yX7_drawn : MethodName := ⟨RX7, "drawn", "(II)I"⟩
abbrev cX7_meets : ByteArray := prog_9_method_70_code
def yX7_meets : MethodName := ⟨RX7, "meets", "(I)I"⟩
abbrev cX7_isSheet : ByteArray := prog_9_method_71_code
def yX7_isSheet : MethodName := ⟨RX7, "isSheet", "(I)Z"⟩
abbrev cX7_sheet : ByteArray := prog_9_method_72_code
def yX7_sheet : MethodName := ⟨RX7, "sheet", "(III)I"⟩
abbrev cX7_lose : ByteArray := prog_9_method_73_code
def yX7_lose : MethodName := ⟨RX7, "lose", "(I)I"⟩
abbrev cX7_lacks : ByteArray := prog_9_method_74_code
def yX7_lacks : MethodName := ⟨RX7, "lacks", "(III)I"⟩
abbrev cX7_keep : ByteArray := prog_9_method_75_code
def yX7_keep : MethodName := ⟨RX7, "keep", "(III)V"⟩
abbrev cX7_put : ByteArray := prog_9_method_76_code
def yX7_put : MethodName := ⟨RX7, "put", "(IIII)I"⟩
abbrev cX7_get : ByteArray := prog_9_method_77_code
def yX7_get : MethodName := ⟨RX7, "get", "(III)I"⟩
abbrev cX7_copy : ByteArray := prog_9_method_78_code
def yX7_copy : MethodName := ⟨RX7, "copy", "(IIIII)I"⟩
abbrev cX7_write : ByteArray := prog_9_method_79_code
def yX7_write : MethodName := ⟨RX7, "write", "(I)I"⟩
abbrev cX7_sumOf : ByteArray := prog_9_method_80_code
def yX7_sumOf : MethodName := ⟨RX7, "sumOf", "(I)I"⟩
abbrev cX7_count : ByteArray := prog_9_method_81_code
def yX7_count : MethodName := ⟨RX7, "count", "(I)I"⟩
abbrev cX7_digest : ByteArray := prog_9_method_82_code
def yX7_digest : MethodName := ⟨RX7, "digest", "()J"⟩
def RJ6 : String := "java/lang/Integer"
def TJ6 : u_T := fun k => match k with
  | _ => ("", "", "", false)
def tyJ6 : Nat → FieldType := fun k => match k with
  | _ => .int
theorem nmJ6 : ∀ a, a < 0 → ∀ b, b < 0 → a ≠ b → (TJ6 a).2.1 ≠ (TJ6 b).2.1 := by decide +kernel
theorem tyJ6_ok : ∀ k, k < 0 → parseFieldDescriptor (TJ6 k).2.2.1 = some (tyJ6 k) := by decide +kernel
abbrev cJ6_bitCount_0f7a4 : ByteArray := prog_10_method_49_code
def yJ6_bitCount_0f7a4 : MethodName := ⟨RJ6, "bitCount", "(I)I"⟩
def RJ9 : String := "java/lang/Math"
def TJ9 : u_T := fun k => match k with
  | _ => ("", "", "", false)
def tyJ9 : Nat → FieldType := fun k => match k with
  | _ => .int
theorem nmJ9 : ∀ a, a < 0 → ∀ b, b < 0 → a ≠ b → (TJ9 a).2.1 ≠ (TJ9 b).2.1 := by decide +kernel
theorem tyJ9_ok : ∀ k, k < 0 → parseFieldDescriptor (TJ9 k).2.2.1 = some (tyJ9 k) := by decide +kernel
abbrev cJ9_max_7cf53 : ByteArray := prog_11_method_65_code
def yJ9_max_7cf53 : MethodName := ⟨RJ9, "max", "(II)I"⟩
abbrev cJ9_min_7cf53 : ByteArray := prog_11_method_69_code
def yJ9_min_7cf53 : MethodName := ⟨RJ9, "min", "(II)I"⟩
def RJ10 : String := "java/lang/System"
def TJ10 : u_T := fun k => match k with
  | _ => ("", "", "", false)
def tyJ10 : Nat → FieldType := fun k => match k with
  | _ => .int
theorem nmJ10 : ∀ a, a < 0 → ∀ b, b < 0 → a ≠ b → (TJ10 a).2.1 ≠ (TJ10 b).2.1 := by decide +kernel
theorem tyJ10_ok : ∀ k, k < 0 → parseFieldDescriptor (TJ10 k).2.2.1 = some (tyJ10 k) := by decide +kernel
def RJ7 : String := "java/util/Arrays"
def TJ7 : u_T := fun k => match k with
  | _ => ("", "", "", false)
def tyJ7 : Nat → FieldType := fun k => match k with
  | _ => .int
theorem nmJ7 : ∀ a, a < 0 → ∀ b, b < 0 → a ≠ b → (TJ7 a).2.1 ≠ (TJ7 b).2.1 := by decide +kernel
theorem tyJ7_ok : ∀ k, k < 0 → parseFieldDescriptor (TJ7 k).2.2.1 = some (tyJ7 k) := by decide +kernel
abbrev cJ7_fill_53178 : ByteArray := prog_13_method_103_code
def yJ7_fill_53178 : MethodName := ⟨RJ7, "fill", "([II)V"⟩
def RL : String := "AgeLettersLaw"
abbrev cL_law : ByteArray := code
def yL_law : MethodName := ⟨RL, "law", "([I)Z"⟩
/-- the tables' good words: every method has them all -/
def ag_tbl : List Cond := lw_tbl.filter goodWord
theorem ag_in {w : Cond} (i : Nat) (h : lw_tbl[i]? = some w) (hg : goodWord w = true) : w ∈ ag_tbl := List.mem_filter.mpr ⟨List.mem_of_getElem? h, hg⟩
theorem ag_good {w : Cond} (h : w ∈ ag_tbl) : goodWord w = true := (List.mem_filter.mp h).2
theorem ag_lw {w : Cond} (h : w ∈ ag_tbl) : w ∈ lw_tbl := (List.mem_filter.mp h).1
/-- a method's words: its own code, then all -/
def ag_ws (y : MethodName) (cc : ByteArray) (nL : Nat) (ret : Option FieldType) : List Cond := Cond.code y cc nL ret :: ag_tbl
theorem ag_gI {c : Cond} {y : MethodName} {cc : ByteArray} {nL : Nat} {ret : Option FieldType} (h : Cond.code y cc nL ret ∈ ag_tbl) : GoodIn (c :: ag_tbl) (ag_ws y cc nL ret) := by
  intro w hw
  rcases List.mem_cons.mp hw with rfl | hw
  · exact ⟨List.mem_cons_of_mem _ h, good_of_word (ag_good h)⟩
  · exact ⟨List.mem_cons_of_mem _ hw, good_of_word (ag_good hw)⟩
theorem ag_gV {c : Cond} {own C : String} {idx : Nat} {y : MethodName} {cc : ByteArray} {nL : Nat} {ret : Option FieldType} (h : Cond.code y cc nL ret ∈ ag_tbl) (h1 : Cond.methodLink own idx y ∈ ag_tbl) (h2 : Cond.instanceMethod y ∈ ag_tbl) (h3 : Cond.selects C y y ∈ ag_tbl) (h4 : Cond.initialized C ∈ ag_tbl) : GoodIn (c :: ag_tbl) (wsV own idx C y (ag_ws y cc nL ret)) := by
  intro w hw
  rcases List.mem_append.mp hw with hw | hw
  · have hm : w ∈ ag_tbl := by
      simp only [List.mem_cons, List.not_mem_nil, or_false] at hw
      rcases hw with rfl | rfl | rfl | rfl <;> assumption
    exact ⟨List.mem_cons_of_mem _ hm, good_of_word (ag_good hm)⟩
  · exact ag_gI h w hw
theorem ag_gS {c : Cond} {own : String} {idx : Nat} {y : MethodName} {cc : ByteArray} {nL : Nat} {ret : Option FieldType} (h : Cond.code y cc nL ret ∈ ag_tbl) (h1 : Cond.methodLink own idx y ∈ ag_tbl) (h2 : Cond.static y ∈ ag_tbl) (h4 : Cond.initialized y.cls ∈ ag_tbl) : GoodIn (c :: ag_tbl) (va_wsS own idx y (ag_ws y cc nL ret)) := by
  intro w hw
  rcases List.mem_append.mp hw with hw | hw
  · have hm : w ∈ ag_tbl := by
      simp only [List.mem_cons, List.not_mem_nil, or_false] at hw
      rcases hw with rfl | rfl | rfl <;> assumption
    exact ⟨List.mem_cons_of_mem _ hm, good_of_word (ag_good hm)⟩
  · exact ag_gI h w hw
abbrev ag_cl : List vw_C := [(RX0, TX0, 5), (RX1, TX1, 6), (RX2, TX2, 6), (RX3, TX3, 4), (RX4, TX4, 2), (RX5, TX5, 10), (RX6, TX6, 8), (RX7, TX7, 37)]
end
section
theorem ag_ini_L : Cond.initialized RL ∈ ag_tbl := ag_in 58 (by decide +kernel) (by decide +kernel)
theorem ag_ini_X6 : Cond.initialized RX6 ∈ ag_tbl := ag_in 59 (by decide +kernel) (by decide +kernel)
theorem ag_ini_X4 : Cond.initialized RX4 ∈ ag_tbl := ag_in 60 (by decide +kernel) (by decide +kernel)
theorem ag_ini_X5 : Cond.initialized RX5 ∈ ag_tbl := ag_in 61 (by decide +kernel) (by decide +kernel)
theorem ag_ini_X1 : Cond.initialized RX1 ∈ ag_tbl := ag_in 62 (by decide +kernel) (by decide +kernel)
theorem ag_ini_X2 : Cond.initialized RX2 ∈ ag_tbl := ag_in 63 (by decide +kernel) (by decide +kernel)
theorem ag_ini_X0 : Cond.initialized RX0 ∈ ag_tbl := ag_in 64 (by decide +kernel) (by decide +kernel)
theorem ag_ini_X3 : Cond.initialized RX3 ∈ ag_tbl := ag_in 65 (by decide +kernel) (by decide +kernel)
theorem ag_ini_X7 : Cond.initialized RX7 ∈ ag_tbl := ag_in 66 (by decide +kernel) (by decide +kernel)
theorem ag_ini_J10 : Cond.initialized RJ10 ∈ ag_tbl := ag_in 67 (by decide +kernel) (by decide +kernel)
theorem ag_ini_J9 : Cond.initialized RJ9 ∈ ag_tbl := ag_in 68 (by decide +kernel) (by decide +kernel)
theorem ag_ini_J6 : Cond.initialized RJ6 ∈ ag_tbl := ag_in 69 (by decide +kernel) (by decide +kernel)
theorem ag_ini_J7 : Cond.initialized RJ7 ∈ ag_tbl := ag_in 70 (by decide +kernel) (by decide +kernel)
theorem ag_cl_L_7 : Cond.classLink RL 7 RX6 ∈ ag_tbl := ag_in 71 (by decide +kernel) (by decide +kernel)
theorem ag_ins_X6 : Cond.instantiable RX6 8 ∈ ag_tbl := ag_in 72 (by decide +kernel) (by decide +kernel)
theorem ag_ml_L_9 : Cond.methodLink RL 9 yX6_init ∈ ag_tbl := ag_in 73 (by decide +kernel) (by decide +kernel)
theorem ag_im_X6_init : Cond.instanceMethod yX6_init ∈ ag_tbl := ag_in 74 (by decide +kernel) (by decide +kernel)
theorem ag_co_X6_init : Cond.code yX6_init cX6_init 2 none ∈ ag_tbl := ag_in 75 (by decide +kernel) (by decide +kernel)
theorem ag_ml_X6_1 : Cond.methodLink RX6 1 objectInit ∈ ag_tbl := ag_in 76 (by decide +kernel) (by decide +kernel)
theorem ag_im_objectInit : Cond.instanceMethod objectInit ∈ ag_tbl := ag_in 77 (by decide +kernel) (by decide +kernel)
theorem ag_co_objectInit : Cond.code objectInit ⟨#[0xb1]⟩ 1 none ∈ ag_tbl := ag_in 78 (by decide +kernel) (by decide +kernel)
theorem ag_cl_X6_7 : Cond.classLink RX6 7 RX4 ∈ ag_tbl := ag_in 79 (by decide +kernel) (by decide +kernel)
theorem ag_ins_X4 : Cond.instantiable RX4 2 ∈ ag_tbl := ag_in 80 (by decide +kernel) (by decide +kernel)
theorem ag_ml_X6_9 : Cond.methodLink RX6 9 yX4_init ∈ ag_tbl := ag_in 81 (by decide +kernel) (by decide +kernel)
theorem ag_im_X4_init : Cond.instanceMethod yX4_init ∈ ag_tbl := ag_in 82 (by decide +kernel) (by decide +kernel)
theorem ag_co_X4_init : Cond.code yX4_init cX4_init 1 none ∈ ag_tbl := ag_in 83 (by decide +kernel) (by decide +kernel)
theorem ag_ml_X4_3 : Cond.methodLink RX4 3 objectInit ∈ ag_tbl := ag_in 84 (by decide +kernel) (by decide +kernel)
theorem ag_fl_X4_11 : Cond.fieldLink RX4 11 "AgeLetters$Text" "bytes" "[I" ∈ ag_tbl := ag_in 85 (by decide +kernel) (by decide +kernel)
theorem ag_fl_X6_57 : Cond.fieldLink RX6 57 "AgeLetters$Text" "bytes" "[I" ∈ ag_tbl := ag_in 86 (by decide +kernel) (by decide +kernel)
theorem ag_fl_X4_15 : Cond.fieldLink RX4 15 "AgeLetters$Text" "length" "I" ∈ ag_tbl := ag_in 87 (by decide +kernel) (by decide +kernel)
theorem ag_fl_X6_54 : Cond.fieldLink RX6 54 "AgeLetters$Text" "length" "I" ∈ ag_tbl := ag_in 88 (by decide +kernel) (by decide +kernel)
theorem ag_ac_int : Cond.arrayClass .int ∈ ag_tbl := ag_in 94 (by decide +kernel) (by decide +kernel)
theorem ag_cl_X6_16 : Cond.classLink RX6 16 RX5 ∈ ag_tbl := ag_in 95 (by decide +kernel) (by decide +kernel)
theorem ag_ins_X5 : Cond.instantiable RX5 10 ∈ ag_tbl := ag_in 96 (by decide +kernel) (by decide +kernel)
theorem ag_ml_X6_18 : Cond.methodLink RX6 18 yX5_init ∈ ag_tbl := ag_in 97 (by decide +kernel) (by decide +kernel)
theorem ag_im_X5_init : Cond.instanceMethod yX5_init ∈ ag_tbl := ag_in 98 (by decide +kernel) (by decide +kernel)
theorem ag_co_X5_init : Cond.code yX5_init cX5_init 1 none ∈ ag_tbl := ag_in 99 (by decide +kernel) (by decide +kernel)
theorem ag_ml_X5_3 : Cond.methodLink RX5 3 objectInit ∈ ag_tbl := ag_in 100 (by decide +kernel) (by decide +kernel)
theorem ag_cl_X5_9 : Cond.classLink RX5 9 RX1 ∈ ag_tbl := ag_in 101 (by decide +kernel) (by decide +kernel)
theorem ag_ins_X1 : Cond.instantiable RX1 6 ∈ ag_tbl := ag_in 102 (by decide +kernel) (by decide +kernel)
theorem ag_ml_X5_11 : Cond.methodLink RX5 11 yX1_init ∈ ag_tbl := ag_in 103 (by decide +kernel) (by decide +kernel)
theorem ag_im_X1_init : Cond.instanceMethod yX1_init ∈ ag_tbl := ag_in 104 (by decide +kernel) (by decide +kernel)
theorem ag_co_X1_init : Cond.code yX1_init cX1_init 1 none ∈ ag_tbl := ag_in 105 (by decide +kernel) (by decide +kernel)
theorem ag_ml_X1_3 : Cond.methodLink RX1 3 objectInit ∈ ag_tbl := ag_in 106 (by decide +kernel) (by decide +kernel)
theorem ag_fl_X1_9 : Cond.fieldLink RX1 9 "AgeLetters$Folk" "count" "I" ∈ ag_tbl := ag_in 107 (by decide +kernel) (by decide +kernel)
theorem ag_fl_X4_30 : Cond.fieldLink RX4 30 "AgeLetters$Folk" "count" "I" ∈ ag_tbl := ag_in 108 (by decide +kernel) (by decide +kernel)
theorem ag_fl_X5_118 : Cond.fieldLink RX5 118 "AgeLetters$Folk" "count" "I" ∈ ag_tbl := ag_in 109 (by decide +kernel) (by decide +kernel)
theorem ag_fl_X6_172 : Cond.fieldLink RX6 172 "AgeLetters$Folk" "count" "I" ∈ ag_tbl := ag_in 110 (by decide +kernel) (by decide +kernel)
theorem ag_fl_X1_15 : Cond.fieldLink RX1 15 "AgeLetters$Folk" "born" "[I" ∈ ag_tbl := ag_in 111 (by decide +kernel) (by decide +kernel)
theorem ag_fl_X4_35 : Cond.fieldLink RX4 35 "AgeLetters$Folk" "born" "[I" ∈ ag_tbl := ag_in 112 (by decide +kernel) (by decide +kernel)
theorem ag_fl_X6_74 : Cond.fieldLink RX6 74 "AgeLetters$Folk" "born" "[I" ∈ ag_tbl := ag_in 113 (by decide +kernel) (by decide +kernel)
theorem ag_fl_X5_142 : Cond.fieldLink RX5 142 "AgeLetters$Folk" "born" "[I" ∈ ag_tbl := ag_in 114 (by decide +kernel) (by decide +kernel)
theorem ag_fl_X1_19 : Cond.fieldLink RX1 19 "AgeLetters$Folk" "end" "[I" ∈ ag_tbl := ag_in 115 (by decide +kernel) (by decide +kernel)
theorem ag_fl_X4_42 : Cond.fieldLink RX4 42 "AgeLetters$Folk" "end" "[I" ∈ ag_tbl := ag_in 116 (by decide +kernel) (by decide +kernel)
theorem ag_fl_X6_77 : Cond.fieldLink RX6 77 "AgeLetters$Folk" "end" "[I" ∈ ag_tbl := ag_in 117 (by decide +kernel) (by decide +kernel)
theorem ag_fl_X1_22 : Cond.fieldLink RX1 22 "AgeLetters$Folk" "kind" "[I" ∈ ag_tbl := ag_in 118 (by decide +kernel) (by decide +kernel)
theorem ag_fl_X4_45 : Cond.fieldLink RX4 45 "AgeLetters$Folk" "kind" "[I" ∈ ag_tbl := ag_in 119 (by decide +kernel) (by decide +kernel)
theorem ag_fl_X5_111 : Cond.fieldLink RX5 111 "AgeLetters$Folk" "kind" "[I" ∈ ag_tbl := ag_in 120 (by decide +kernel) (by decide +kernel)
theorem ag_fl_X6_80 : Cond.fieldLink RX6 80 "AgeLetters$Folk" "kind" "[I" ∈ ag_tbl := ag_in 121 (by decide +kernel) (by decide +kernel)
theorem ag_fl_X1_25 : Cond.fieldLink RX1 25 "AgeLetters$Folk" "more" "[I" ∈ ag_tbl := ag_in 122 (by decide +kernel) (by decide +kernel)
theorem ag_fl_X4_48 : Cond.fieldLink RX4 48 "AgeLetters$Folk" "more" "[I" ∈ ag_tbl := ag_in 123 (by decide +kernel) (by decide +kernel)
theorem ag_fl_X5_136 : Cond.fieldLink RX5 136 "AgeLetters$Folk" "more" "[I" ∈ ag_tbl := ag_in 124 (by decide +kernel) (by decide +kernel)
theorem ag_fl_X6_227 : Cond.fieldLink RX6 227 "AgeLetters$Folk" "more" "[I" ∈ ag_tbl := ag_in 125 (by decide +kernel) (by decide +kernel)
theorem ag_fl_X1_28 : Cond.fieldLink RX1 28 "AgeLetters$Folk" "own" "[I" ∈ ag_tbl := ag_in 126 (by decide +kernel) (by decide +kernel)
theorem ag_fl_X5_58 : Cond.fieldLink RX5 58 "AgeLetters$Folk" "own" "[I" ∈ ag_tbl := ag_in 127 (by decide +kernel) (by decide +kernel)
theorem ag_fl_X6_87 : Cond.fieldLink RX6 87 "AgeLetters$Folk" "own" "[I" ∈ ag_tbl := ag_in 128 (by decide +kernel) (by decide +kernel)
theorem ag_cl_X5_18 : Cond.classLink RX5 18 RX2 ∈ ag_tbl := ag_in 142 (by decide +kernel) (by decide +kernel)
theorem ag_ins_X2 : Cond.instantiable RX2 6 ∈ ag_tbl := ag_in 143 (by decide +kernel) (by decide +kernel)
theorem ag_ml_X5_20 : Cond.methodLink RX5 20 yX2_init ∈ ag_tbl := ag_in 144 (by decide +kernel) (by decide +kernel)
theorem ag_im_X2_init : Cond.instanceMethod yX2_init ∈ ag_tbl := ag_in 145 (by decide +kernel) (by decide +kernel)
theorem ag_co_X2_init : Cond.code yX2_init cX2_init 1 none ∈ ag_tbl := ag_in 146 (by decide +kernel) (by decide +kernel)
theorem ag_ml_X2_3 : Cond.methodLink RX2 3 objectInit ∈ ag_tbl := ag_in 147 (by decide +kernel) (by decide +kernel)
theorem ag_fl_X2_9 : Cond.fieldLink RX2 9 "AgeLetters$Post" "size" "I" ∈ ag_tbl := ag_in 148 (by decide +kernel) (by decide +kernel)
theorem ag_fl_X5_78 : Cond.fieldLink RX5 78 "AgeLetters$Post" "size" "I" ∈ ag_tbl := ag_in 149 (by decide +kernel) (by decide +kernel)
theorem ag_fl_X6_97 : Cond.fieldLink RX6 97 "AgeLetters$Post" "size" "I" ∈ ag_tbl := ag_in 150 (by decide +kernel) (by decide +kernel)
theorem ag_fl_X2_15 : Cond.fieldLink RX2 15 "AgeLetters$Post" "writer" "[I" ∈ ag_tbl := ag_in 151 (by decide +kernel) (by decide +kernel)
theorem ag_fl_X5_84 : Cond.fieldLink RX5 84 "AgeLetters$Post" "writer" "[I" ∈ ag_tbl := ag_in 152 (by decide +kernel) (by decide +kernel)
theorem ag_fl_X2_19 : Cond.fieldLink RX2 19 "AgeLetters$Post" "reader" "[I" ∈ ag_tbl := ag_in 153 (by decide +kernel) (by decide +kernel)
theorem ag_fl_X5_101 : Cond.fieldLink RX5 101 "AgeLetters$Post" "reader" "[I" ∈ ag_tbl := ag_in 154 (by decide +kernel) (by decide +kernel)
theorem ag_fl_X6_166 : Cond.fieldLink RX6 166 "AgeLetters$Post" "reader" "[I" ∈ ag_tbl := ag_in 155 (by decide +kernel) (by decide +kernel)
theorem ag_fl_X2_22 : Cond.fieldLink RX2 22 "AgeLetters$Post" "year" "[I" ∈ ag_tbl := ag_in 156 (by decide +kernel) (by decide +kernel)
theorem ag_fl_X5_81 : Cond.fieldLink RX5 81 "AgeLetters$Post" "year" "[I" ∈ ag_tbl := ag_in 157 (by decide +kernel) (by decide +kernel)
theorem ag_fl_X2_25 : Cond.fieldLink RX2 25 "AgeLetters$Post" "word" "[I" ∈ ag_tbl := ag_in 158 (by decide +kernel) (by decide +kernel)
theorem ag_fl_X5_91 : Cond.fieldLink RX5 91 "AgeLetters$Post" "word" "[I" ∈ ag_tbl := ag_in 159 (by decide +kernel) (by decide +kernel)
theorem ag_fl_X6_220 : Cond.fieldLink RX6 220 "AgeLetters$Post" "word" "[I" ∈ ag_tbl := ag_in 160 (by decide +kernel) (by decide +kernel)
theorem ag_fl_X2_28 : Cond.fieldLink RX2 28 "AgeLetters$Post" "needed" "[I" ∈ ag_tbl := ag_in 161 (by decide +kernel) (by decide +kernel)
theorem ag_fl_X5_121 : Cond.fieldLink RX5 121 "AgeLetters$Post" "needed" "[I" ∈ ag_tbl := ag_in 162 (by decide +kernel) (by decide +kernel)
theorem ag_fl_X5_12 : Cond.fieldLink RX5 12 "AgeLetters$Years" "folk" "LAgeLetters$Folk;" ∈ ag_tbl := ag_in 176 (by decide +kernel) (by decide +kernel)
theorem ag_fl_X6_26 : Cond.fieldLink RX6 26 "AgeLetters$Years" "folk" "LAgeLetters$Folk;" ∈ ag_tbl := ag_in 177 (by decide +kernel) (by decide +kernel)
theorem ag_fl_X5_21 : Cond.fieldLink RX5 21 "AgeLetters$Years" "post" "LAgeLetters$Post;" ∈ ag_tbl := ag_in 178 (by decide +kernel) (by decide +kernel)
theorem ag_fl_X6_31 : Cond.fieldLink RX6 31 "AgeLetters$Years" "post" "LAgeLetters$Post;" ∈ ag_tbl := ag_in 179 (by decide +kernel) (by decide +kernel)
theorem ag_fl_X5_25 : Cond.fieldLink RX5 25 "AgeLetters$Years" "awayBits" "I" ∈ ag_tbl := ag_in 180 (by decide +kernel) (by decide +kernel)
theorem ag_fl_X6_212 : Cond.fieldLink RX6 212 "AgeLetters$Years" "awayBits" "I" ∈ ag_tbl := ag_in 181 (by decide +kernel) (by decide +kernel)
theorem ag_fl_X5_29 : Cond.fieldLink RX5 29 "AgeLetters$Years" "writtenBits" "I" ∈ ag_tbl := ag_in 182 (by decide +kernel) (by decide +kernel)
theorem ag_fl_X6_132 : Cond.fieldLink RX6 132 "AgeLetters$Years" "writtenBits" "I" ∈ ag_tbl := ag_in 183 (by decide +kernel) (by decide +kernel)
theorem ag_fl_X5_32 : Cond.fieldLink RX5 32 "AgeLetters$Years" "openedBits" "I" ∈ ag_tbl := ag_in 184 (by decide +kernel) (by decide +kernel)
theorem ag_fl_X6_150 : Cond.fieldLink RX6 150 "AgeLetters$Years" "openedBits" "I" ∈ ag_tbl := ag_in 185 (by decide +kernel) (by decide +kernel)
theorem ag_fl_X5_35 : Cond.fieldLink RX5 35 "AgeLetters$Years" "openedIn" "[I" ∈ ag_tbl := ag_in 186 (by decide +kernel) (by decide +kernel)
theorem ag_fl_X5_39 : Cond.fieldLink RX5 39 "AgeLetters$Years" "dueIn" "[I" ∈ ag_tbl := ag_in 187 (by decide +kernel) (by decide +kernel)
theorem ag_fl_X5_42 : Cond.fieldLink RX5 42 "AgeLetters$Years" "knownBits" "[I" ∈ ag_tbl := ag_in 188 (by decide +kernel) (by decide +kernel)
theorem ag_fl_X6_198 : Cond.fieldLink RX6 198 "AgeLetters$Years" "knownBits" "[I" ∈ ag_tbl := ag_in 189 (by decide +kernel) (by decide +kernel)
theorem ag_fl_X5_45 : Cond.fieldLink RX5 45 "AgeLetters$Years" "learnedIn" "[I" ∈ ag_tbl := ag_in 190 (by decide +kernel) (by decide +kernel)
theorem ag_fl_X5_48 : Cond.fieldLink RX5 48 "AgeLetters$Years" "wantedBits" "[I" ∈ ag_tbl := ag_in 191 (by decide +kernel) (by decide +kernel)
theorem ag_cl_X6_36 : Cond.classLink RX6 36 RX0 ∈ ag_tbl := ag_in 213 (by decide +kernel) (by decide +kernel)
theorem ag_ins_X0 : Cond.instantiable RX0 5 ∈ ag_tbl := ag_in 214 (by decide +kernel) (by decide +kernel)
theorem ag_ml_X6_38 : Cond.methodLink RX6 38 yX0_init ∈ ag_tbl := ag_in 215 (by decide +kernel) (by decide +kernel)
theorem ag_im_X0_init : Cond.instanceMethod yX0_init ∈ ag_tbl := ag_in 216 (by decide +kernel) (by decide +kernel)
theorem ag_co_X0_init : Cond.code yX0_init cX0_init 1 none ∈ ag_tbl := ag_in 217 (by decide +kernel) (by decide +kernel)
theorem ag_ml_X0_3 : Cond.methodLink RX0 3 objectInit ∈ ag_tbl := ag_in 218 (by decide +kernel) (by decide +kernel)
theorem ag_fl_X0_9 : Cond.fieldLink RX0 9 "AgeLetters$Deeds" "size" "I" ∈ ag_tbl := ag_in 219 (by decide +kernel) (by decide +kernel)
theorem ag_fl_X6_215 : Cond.fieldLink RX6 215 "AgeLetters$Deeds" "size" "I" ∈ ag_tbl := ag_in 220 (by decide +kernel) (by decide +kernel)
theorem ag_fl_X0_15 : Cond.fieldLink RX0 15 "AgeLetters$Deeds" "year" "[I" ∈ ag_tbl := ag_in 221 (by decide +kernel) (by decide +kernel)
theorem ag_fl_X0_19 : Cond.fieldLink RX0 19 "AgeLetters$Deeds" "person" "[I" ∈ ag_tbl := ag_in 222 (by decide +kernel) (by decide +kernel)
theorem ag_fl_X0_22 : Cond.fieldLink RX0 22 "AgeLetters$Deeds" "word" "[I" ∈ ag_tbl := ag_in 223 (by decide +kernel) (by decide +kernel)
theorem ag_fl_X0_25 : Cond.fieldLink RX0 25 "AgeLetters$Deeds" "is" "[I" ∈ ag_tbl := ag_in 224 (by decide +kernel) (by decide +kernel)
theorem ag_cl_X6_43 : Cond.classLink RX6 43 RX3 ∈ ag_tbl := ag_in 236 (by decide +kernel) (by decide +kernel)
theorem ag_ins_X3 : Cond.instantiable RX3 4 ∈ ag_tbl := ag_in 238 (by decide +kernel) (by decide +kernel)
theorem ag_ml_X6_49 : Cond.methodLink RX6 49 yX3_init ∈ ag_tbl := ag_in 239 (by decide +kernel) (by decide +kernel)
theorem ag_im_X3_init : Cond.instanceMethod yX3_init ∈ ag_tbl := ag_in 240 (by decide +kernel) (by decide +kernel)
theorem ag_co_X3_init : Cond.code yX3_init cX3_init 1 none ∈ ag_tbl := ag_in 241 (by decide +kernel) (by decide +kernel)
theorem ag_ml_X3_3 : Cond.methodLink RX3 3 objectInit ∈ ag_tbl := ag_in 242 (by decide +kernel) (by decide +kernel)
theorem ag_fl_X3_9 : Cond.fieldLink RX3 9 "AgeLetters$Row" "isLost" "Z" ∈ ag_tbl := ag_in 243 (by decide +kernel) (by decide +kernel)
theorem ag_fl_X6_102 : Cond.fieldLink RX6 102 "AgeLetters$Row" "isLost" "Z" ∈ ag_tbl := ag_in 244 (by decide +kernel) (by decide +kernel)
theorem ag_fl_X3_15 : Cond.fieldLink RX3 15 "AgeLetters$Row" "form" "I" ∈ ag_tbl := ag_in 245 (by decide +kernel) (by decide +kernel)
theorem ag_fl_X6_268 : Cond.fieldLink RX6 268 "AgeLetters$Row" "form" "I" ∈ ag_tbl := ag_in 246 (by decide +kernel) (by decide +kernel)
theorem ag_fl_X3_19 : Cond.fieldLink RX3 19 "AgeLetters$Row" "size" "I" ∈ ag_tbl := ag_in 247 (by decide +kernel) (by decide +kernel)
theorem ag_fl_X6_110 : Cond.fieldLink RX6 110 "AgeLetters$Row" "size" "I" ∈ ag_tbl := ag_in 248 (by decide +kernel) (by decide +kernel)
theorem ag_fl_X3_22 : Cond.fieldLink RX3 22 "AgeLetters$Row" "items" "[I" ∈ ag_tbl := ag_in 249 (by decide +kernel) (by decide +kernel)
theorem ag_fl_X6_111 : Cond.fieldLink RX6 111 "AgeLetters$Row" "items" "[I" ∈ ag_tbl := ag_in 250 (by decide +kernel) (by decide +kernel)
theorem ag_fl_X6_10 : Cond.fieldLink RX6 10 "AgeLetters" "text" "LAgeLetters$Text;" ∈ ag_tbl := ag_in 260 (by decide +kernel) (by decide +kernel)
theorem ag_fl_X6_19 : Cond.fieldLink RX6 19 "AgeLetters" "lived" "LAgeLetters$Years;" ∈ ag_tbl := ag_in 261 (by decide +kernel) (by decide +kernel)
theorem ag_fl_X6_23 : Cond.fieldLink RX6 23 "AgeLetters" "supposed" "LAgeLetters$Years;" ∈ ag_tbl := ag_in 262 (by decide +kernel) (by decide +kernel)
theorem ag_fl_X6_30 : Cond.fieldLink RX6 30 "AgeLetters" "folk" "LAgeLetters$Folk;" ∈ ag_tbl := ag_in 263 (by decide +kernel) (by decide +kernel)
theorem ag_fl_X6_35 : Cond.fieldLink RX6 35 "AgeLetters" "post" "LAgeLetters$Post;" ∈ ag_tbl := ag_in 264 (by decide +kernel) (by decide +kernel)
theorem ag_fl_X6_39 : Cond.fieldLink RX6 39 "AgeLetters" "deeds" "LAgeLetters$Deeds;" ∈ ag_tbl := ag_in 265 (by decide +kernel) (by decide +kernel)
theorem ag_fl_X6_45 : Cond.fieldLink RX6 45 "AgeLetters" "rows" "[LAgeLetters$Row;" ∈ ag_tbl := ag_in 266 (by decide +kernel) (by decide +kernel)
theorem ag_fl_X6_50 : Cond.fieldLink RX6 50 "AgeLetters" "latestFinding" "I" ∈ ag_tbl := ag_in 267 (by decide +kernel) (by decide +kernel)
theorem ag_ml_L_13 : Cond.methodLink RL 13 yX6_type ∈ ag_tbl := ag_in 285 (by decide +kernel) (by decide +kernel)
theorem ag_im_X6_type : Cond.instanceMethod yX6_type ∈ ag_tbl := ag_in 286 (by decide +kernel) (by decide +kernel)
theorem ag_se_X6_type : Cond.selects RX6 yX6_type yX6_type ∈ ag_tbl := ag_in 287 (by decide +kernel) (by decide +kernel)
theorem ag_co_X6_type : Cond.code yX6_type cX6_type 2 (some .int) ∈ ag_tbl := ag_in 288 (by decide +kernel) (by decide +kernel)
theorem ag_ml_X6_61 : Cond.methodLink RX6 61 yX6_takePeople ∈ ag_tbl := ag_in 289 (by decide +kernel) (by decide +kernel)
theorem ag_im_X6_takePeople : Cond.instanceMethod yX6_takePeople ∈ ag_tbl := ag_in 291 (by decide +kernel) (by decide +kernel)
theorem ag_co_X6_takePeople : Cond.code yX6_takePeople cX6_takePeople 1 none ∈ ag_tbl := ag_in 292 (by decide +kernel) (by decide +kernel)
theorem ag_ml_X6_114 : Cond.methodLink RX6 114 yX4_tellPeople ∈ ag_tbl := ag_in 293 (by decide +kernel) (by decide +kernel)
theorem ag_im_X4_tellPeople : Cond.instanceMethod yX4_tellPeople ∈ ag_tbl := ag_in 294 (by decide +kernel) (by decide +kernel)
theorem ag_se_X4_tellPeople : Cond.selects RX4 yX4_tellPeople yX4_tellPeople ∈ ag_tbl := ag_in 295 (by decide +kernel) (by decide +kernel)
theorem ag_co_X4_tellPeople : Cond.code yX4_tellPeople cX4_tellPeople 5 none ∈ ag_tbl := ag_in 296 (by decide +kernel) (by decide +kernel)
theorem ag_ml_X4_26 : Cond.methodLink RX4 26 yX4_firstFault ∈ ag_tbl := ag_in 297 (by decide +kernel) (by decide +kernel)
theorem ag_im_X4_firstFault : Cond.instanceMethod yX4_firstFault ∈ ag_tbl := ag_in 298 (by decide +kernel) (by decide +kernel)
theorem ag_se_X4_firstFault : Cond.selects RX4 yX4_firstFault yX4_firstFault ∈ ag_tbl := ag_in 299 (by decide +kernel) (by decide +kernel)
theorem ag_co_X4_firstFault : Cond.code yX4_firstFault cX4_firstFault 2 (some .int) ∈ ag_tbl := ag_in 300 (by decide +kernel) (by decide +kernel)
theorem ag_ml_X4_19 : Cond.methodLink RX4 19 yX4_goesOn ∈ ag_tbl := ag_in 301 (by decide +kernel) (by decide +kernel)
theorem ag_im_X4_goesOn : Cond.instanceMethod yX4_goesOn ∈ ag_tbl := ag_in 303 (by decide +kernel) (by decide +kernel)
theorem ag_co_X4_goesOn : Cond.code yX4_goesOn cX4_goesOn 3 (some .boolean) ∈ ag_tbl := ag_in 304 (by decide +kernel) (by decide +kernel)
theorem ag_ml_X4_23 : Cond.methodLink RX4 23 yX4_isFigure ∈ ag_tbl := ag_in 305 (by decide +kernel) (by decide +kernel)
theorem ag_st_X4_isFigure : Cond.static yX4_isFigure ∈ ag_tbl := ag_in 306 (by decide +kernel) (by decide +kernel)
theorem ag_co_X4_isFigure : Cond.code yX4_isFigure cX4_isFigure 1 (some .boolean) ∈ ag_tbl := ag_in 307 (by decide +kernel) (by decide +kernel)
theorem ag_ml_X4_38 : Cond.methodLink RX4 38 yX4_twoFigures ∈ ag_tbl := ag_in 308 (by decide +kernel) (by decide +kernel)
theorem ag_im_X4_twoFigures : Cond.instanceMethod yX4_twoFigures ∈ ag_tbl := ag_in 310 (by decide +kernel) (by decide +kernel)
theorem ag_co_X4_twoFigures : Cond.code yX4_twoFigures cX4_twoFigures 2 (some .int) ∈ ag_tbl := ag_in 311 (by decide +kernel) (by decide +kernel)
theorem ag_ml_X6_90 : Cond.methodLink RX6 90 yX5_live ∈ ag_tbl := ag_in 312 (by decide +kernel) (by decide +kernel)
theorem ag_im_X5_live : Cond.instanceMethod yX5_live ∈ ag_tbl := ag_in 313 (by decide +kernel) (by decide +kernel)
theorem ag_se_X5_live : Cond.selects RX5 yX5_live yX5_live ∈ ag_tbl := ag_in 314 (by decide +kernel) (by decide +kernel)
theorem ag_co_X5_live : Cond.code yX5_live cX5_live 4 none ∈ ag_tbl := ag_in 315 (by decide +kernel) (by decide +kernel)
theorem ag_ml_X5_61 : Cond.methodLink RX5 61 arraycopyName ∈ ag_tbl := ag_in 316 (by decide +kernel) (by decide +kernel)
theorem ag_st_arraycopyName : Cond.static arraycopyName ∈ ag_tbl := ag_in 317 (by decide +kernel) (by decide +kernel)
theorem ag_nt_arraycopyName : Cond.native arraycopyName ∈ ag_tbl := ag_in 318 (by decide +kernel) (by decide +kernel)
theorem ag_ml_X5_67 : Cond.methodLink RX5 67 yX5_writeThoseOf ∈ ag_tbl := ag_in 319 (by decide +kernel) (by decide +kernel)
theorem ag_im_X5_writeThoseOf : Cond.instanceMethod yX5_writeThoseOf ∈ ag_tbl := ag_in 321 (by decide +kernel) (by decide +kernel)
theorem ag_co_X5_writeThoseOf : Cond.code yX5_writeThoseOf cX5_writeThoseOf 3 none ∈ ag_tbl := ag_in 322 (by decide +kernel) (by decide +kernel)
theorem ag_ml_X5_87 : Cond.methodLink RX5 87 yX1_lives ∈ ag_tbl := ag_in 323 (by decide +kernel) (by decide +kernel)
theorem ag_im_X1_lives : Cond.instanceMethod yX1_lives ∈ ag_tbl := ag_in 324 (by decide +kernel) (by decide +kernel)
theorem ag_se_X1_lives : Cond.selects RX1 yX1_lives yX1_lives ∈ ag_tbl := ag_in 325 (by decide +kernel) (by decide +kernel)
theorem ag_co_X1_lives : Cond.code yX1_lives cX1_lives 3 (some .boolean) ∈ ag_tbl := ag_in 326 (by decide +kernel) (by decide +kernel)
theorem ag_ml_X5_94 : Cond.methodLink RX5 94 yX5_dueYear ∈ ag_tbl := ag_in 327 (by decide +kernel) (by decide +kernel)
theorem ag_im_X5_dueYear : Cond.instanceMethod yX5_dueYear ∈ ag_tbl := ag_in 328 (by decide +kernel) (by decide +kernel)
theorem ag_se_X5_dueYear : Cond.selects RX5 yX5_dueYear yX5_dueYear ∈ ag_tbl := ag_in 329 (by decide +kernel) (by decide +kernel)
theorem ag_co_X5_dueYear : Cond.code yX5_dueYear cX5_dueYear 7 (some .int) ∈ ag_tbl := ag_in 330 (by decide +kernel) (by decide +kernel)
theorem ag_ml_X5_130 : Cond.methodLink RX5 130 yX1_isThere ∈ ag_tbl := ag_in 331 (by decide +kernel) (by decide +kernel)
theorem ag_im_X1_isThere : Cond.instanceMethod yX1_isThere ∈ ag_tbl := ag_in 332 (by decide +kernel) (by decide +kernel)
theorem ag_se_X1_isThere : Cond.selects RX1 yX1_isThere yX1_isThere ∈ ag_tbl := ag_in 333 (by decide +kernel) (by decide +kernel)
theorem ag_co_X1_isThere : Cond.code yX1_isThere cX1_isThere 2 (some .boolean) ∈ ag_tbl := ag_in 334 (by decide +kernel) (by decide +kernel)
theorem ag_ml_X5_133 : Cond.methodLink RX5 133 yX1_toldAge ∈ ag_tbl := ag_in 335 (by decide +kernel) (by decide +kernel)
theorem ag_im_X1_toldAge : Cond.instanceMethod yX1_toldAge ∈ ag_tbl := ag_in 336 (by decide +kernel) (by decide +kernel)
theorem ag_se_X1_toldAge : Cond.selects RX1 yX1_toldAge yX1_toldAge ∈ ag_tbl := ag_in 337 (by decide +kernel) (by decide +kernel)
theorem ag_co_X1_toldAge : Cond.code yX1_toldAge cX1_toldAge 3 (some .int) ∈ ag_tbl := ag_in 338 (by decide +kernel) (by decide +kernel)
theorem ag_ml_X5_139 : Cond.methodLink RX5 139 Lib.Math.max.name ∈ ag_tbl := ag_in 339 (by decide +kernel) (by decide +kernel)
theorem ag_st_Math_max : Cond.static Lib.Math.max.name ∈ ag_tbl := ag_in 340 (by decide +kernel) (by decide +kernel)
theorem ag_co_Math_max : Cond.code Lib.Math.max.name Lib.Math.max.code 2 (some .int) ∈ ag_tbl := ag_in 341 (by decide +kernel) (by decide +kernel)
theorem ag_ml_X5_71 : Cond.methodLink RX5 71 yX5_openThoseDue ∈ ag_tbl := ag_in 342 (by decide +kernel) (by decide +kernel)
theorem ag_im_X5_openThoseDue : Cond.instanceMethod yX5_openThoseDue ∈ ag_tbl := ag_in 344 (by decide +kernel) (by decide +kernel)
theorem ag_co_X5_openThoseDue : Cond.code yX5_openThoseDue cX5_openThoseDue 3 none ∈ ag_tbl := ag_in 345 (by decide +kernel) (by decide +kernel)
theorem ag_ml_X5_97 : Cond.methodLink RX5 97 yX5_isWaiting ∈ ag_tbl := ag_in 346 (by decide +kernel) (by decide +kernel)
theorem ag_im_X5_isWaiting : Cond.instanceMethod yX5_isWaiting ∈ ag_tbl := ag_in 348 (by decide +kernel) (by decide +kernel)
theorem ag_co_X5_isWaiting : Cond.code yX5_isWaiting cX5_isWaiting 2 (some .boolean) ∈ ag_tbl := ag_in 349 (by decide +kernel) (by decide +kernel)
theorem ag_ml_X5_104 : Cond.methodLink RX5 104 yX5_hasNeeded ∈ ag_tbl := ag_in 350 (by decide +kernel) (by decide +kernel)
theorem ag_im_X5_hasNeeded : Cond.instanceMethod yX5_hasNeeded ∈ ag_tbl := ag_in 352 (by decide +kernel) (by decide +kernel)
theorem ag_co_X5_hasNeeded : Cond.code yX5_hasNeeded cX5_hasNeeded 3 (some .boolean) ∈ ag_tbl := ag_in 353 (by decide +kernel) (by decide +kernel)
theorem ag_ml_X5_107 : Cond.methodLink RX5 107 yX5_openOne ∈ ag_tbl := ag_in 354 (by decide +kernel) (by decide +kernel)
theorem ag_im_X5_openOne : Cond.instanceMethod yX5_openOne ∈ ag_tbl := ag_in 356 (by decide +kernel) (by decide +kernel)
theorem ag_co_X5_openOne : Cond.code yX5_openOne cX5_openOne 5 none ∈ ag_tbl := ag_in 357 (by decide +kernel) (by decide +kernel)
theorem ag_ml_X5_114 : Cond.methodLink RX5 114 yX5_grant ∈ ag_tbl := ag_in 358 (by decide +kernel) (by decide +kernel)
theorem ag_im_X5_grant : Cond.instanceMethod yX5_grant ∈ ag_tbl := ag_in 360 (by decide +kernel) (by decide +kernel)
theorem ag_co_X5_grant : Cond.code yX5_grant cX5_grant 4 none ∈ ag_tbl := ag_in 361 (by decide +kernel) (by decide +kernel)
theorem ag_ml_X5_74 : Cond.methodLink RX5 74 yX5_nextStir ∈ ag_tbl := ag_in 362 (by decide +kernel) (by decide +kernel)
theorem ag_im_X5_nextStir : Cond.instanceMethod yX5_nextStir ∈ ag_tbl := ag_in 364 (by decide +kernel) (by decide +kernel)
theorem ag_co_X5_nextStir : Cond.code yX5_nextStir cX5_nextStir 4 (some .int) ∈ ag_tbl := ag_in 365 (by decide +kernel) (by decide +kernel)
theorem ag_ml_X5_124 : Cond.methodLink RX5 124 Lib.Math.min.name ∈ ag_tbl := ag_in 366 (by decide +kernel) (by decide +kernel)
theorem ag_st_Math_min : Cond.static Lib.Math.min.name ∈ ag_tbl := ag_in 367 (by decide +kernel) (by decide +kernel)
theorem ag_co_Math_min : Cond.code Lib.Math.min.name Lib.Math.min.code 2 (some .int) ∈ ag_tbl := ag_in 368 (by decide +kernel) (by decide +kernel)
theorem ag_ml_L_18 : Cond.methodLink RL 18 yX6_wipe ∈ ag_tbl := ag_in 369 (by decide +kernel) (by decide +kernel)
theorem ag_im_X6_wipe : Cond.instanceMethod yX6_wipe ∈ ag_tbl := ag_in 370 (by decide +kernel) (by decide +kernel)
theorem ag_se_X6_wipe : Cond.selects RX6 yX6_wipe yX6_wipe ∈ ag_tbl := ag_in 371 (by decide +kernel) (by decide +kernel)
theorem ag_co_X6_wipe : Cond.code yX6_wipe cX6_wipe 2 (some .int) ∈ ag_tbl := ag_in 372 (by decide +kernel) (by decide +kernel)
theorem ag_ml_L_23 : Cond.methodLink RL 23 yX6_undo ∈ ag_tbl := ag_in 373 (by decide +kernel) (by decide +kernel)
theorem ag_im_X6_undo : Cond.instanceMethod yX6_undo ∈ ag_tbl := ag_in 374 (by decide +kernel) (by decide +kernel)
theorem ag_se_X6_undo : Cond.selects RX6 yX6_undo yX6_undo ∈ ag_tbl := ag_in 375 (by decide +kernel) (by decide +kernel)
theorem ag_co_X6_undo : Cond.code yX6_undo cX6_undo 1 (some .int) ∈ ag_tbl := ag_in 376 (by decide +kernel) (by decide +kernel)
theorem ag_ml_L_27 : Cond.methodLink RL 27 yX6_fault ∈ ag_tbl := ag_in 377 (by decide +kernel) (by decide +kernel)
theorem ag_im_X6_fault : Cond.instanceMethod yX6_fault ∈ ag_tbl := ag_in 378 (by decide +kernel) (by decide +kernel)
theorem ag_se_X6_fault : Cond.selects RX6 yX6_fault yX6_fault ∈ ag_tbl := ag_in 379 (by decide +kernel) (by decide +kernel)
theorem ag_co_X6_fault : Cond.code yX6_fault cX6_fault 1 (some .int) ∈ ag_tbl := ag_in 380 (by decide +kernel) (by decide +kernel)
theorem ag_ml_X6_64 : Cond.methodLink RX6 64 yX4_firstFault ∈ ag_tbl := ag_in 381 (by decide +kernel) (by decide +kernel)
theorem ag_ml_L_31 : Cond.methodLink RL 31 yX6_person ∈ ag_tbl := ag_in 382 (by decide +kernel) (by decide +kernel)
theorem ag_im_X6_person : Cond.instanceMethod yX6_person ∈ ag_tbl := ag_in 383 (by decide +kernel) (by decide +kernel)
theorem ag_se_X6_person : Cond.selects RX6 yX6_person yX6_person ∈ ag_tbl := ag_in 384 (by decide +kernel) (by decide +kernel)
theorem ag_co_X6_person : Cond.code yX6_person cX6_person 3 (some .int) ∈ ag_tbl := ag_in 385 (by decide +kernel) (by decide +kernel)
theorem ag_ml_X6_68 : Cond.methodLink RX6 68 yX1_isThere ∈ ag_tbl := ag_in 386 (by decide +kernel) (by decide +kernel)
theorem ag_ml_L_36 : Cond.methodLink RL 36 yX6_knows ∈ ag_tbl := ag_in 387 (by decide +kernel) (by decide +kernel)
theorem ag_im_X6_knows : Cond.instanceMethod yX6_knows ∈ ag_tbl := ag_in 388 (by decide +kernel) (by decide +kernel)
theorem ag_se_X6_knows : Cond.selects RX6 yX6_knows yX6_knows ∈ ag_tbl := ag_in 389 (by decide +kernel) (by decide +kernel)
theorem ag_co_X6_knows : Cond.code yX6_knows cX6_knows 4 (some .int) ∈ ag_tbl := ag_in 390 (by decide +kernel) (by decide +kernel)
theorem ag_ml_X6_83 : Cond.methodLink RX6 83 yX6_isBelow ∈ ag_tbl := ag_in 391 (by decide +kernel) (by decide +kernel)
theorem ag_st_X6_isBelow : Cond.static yX6_isBelow ∈ ag_tbl := ag_in 392 (by decide +kernel) (by decide +kernel)
theorem ag_co_X6_isBelow : Cond.code yX6_isBelow cX6_isBelow 2 (some .boolean) ∈ ag_tbl := ag_in 393 (by decide +kernel) (by decide +kernel)
theorem ag_ml_L_40 : Cond.methodLink RL 40 yX6_letter ∈ ag_tbl := ag_in 394 (by decide +kernel) (by decide +kernel)
theorem ag_im_X6_letter : Cond.instanceMethod yX6_letter ∈ ag_tbl := ag_in 395 (by decide +kernel) (by decide +kernel)
theorem ag_se_X6_letter : Cond.selects RX6 yX6_letter yX6_letter ∈ ag_tbl := ag_in 396 (by decide +kernel) (by decide +kernel)
theorem ag_co_X6_letter : Cond.code yX6_letter cX6_letter 7 (some .int) ∈ ag_tbl := ag_in 397 (by decide +kernel) (by decide +kernel)
theorem ag_ml_X6_93 : Cond.methodLink RX6 93 yX6_takeLetter ∈ ag_tbl := ag_in 398 (by decide +kernel) (by decide +kernel)
theorem ag_im_X6_takeLetter : Cond.instanceMethod yX6_takeLetter ∈ ag_tbl := ag_in 400 (by decide +kernel) (by decide +kernel)
theorem ag_co_X6_takeLetter : Cond.code yX6_takeLetter cX6_takeLetter 6 (some .int) ∈ ag_tbl := ag_in 401 (by decide +kernel) (by decide +kernel)
theorem ag_ml_X6_118 : Cond.methodLink RX6 118 yX2_setLast ∈ ag_tbl := ag_in 402 (by decide +kernel) (by decide +kernel)
theorem ag_im_X2_setLast : Cond.instanceMethod yX2_setLast ∈ ag_tbl := ag_in 403 (by decide +kernel) (by decide +kernel)
theorem ag_se_X2_setLast : Cond.selects RX2 yX2_setLast yX2_setLast ∈ ag_tbl := ag_in 404 (by decide +kernel) (by decide +kernel)
theorem ag_co_X2_setLast : Cond.code yX2_setLast cX2_setLast 7 none ∈ ag_tbl := ag_in 405 (by decide +kernel) (by decide +kernel)
theorem ag_ml_L_45 : Cond.methodLink RL 45 yX6_back ∈ ag_tbl := ag_in 406 (by decide +kernel) (by decide +kernel)
theorem ag_im_X6_back : Cond.instanceMethod yX6_back ∈ ag_tbl := ag_in 407 (by decide +kernel) (by decide +kernel)
theorem ag_se_X6_back : Cond.selects RX6 yX6_back yX6_back ∈ ag_tbl := ag_in 408 (by decide +kernel) (by decide +kernel)
theorem ag_co_X6_back : Cond.code yX6_back cX6_back 1 (some .int) ∈ ag_tbl := ag_in 409 (by decide +kernel) (by decide +kernel)
theorem ag_ml_L_49 : Cond.methodLink RL 49 yX6_read ∈ ag_tbl := ag_in 410 (by decide +kernel) (by decide +kernel)
theorem ag_im_X6_read : Cond.instanceMethod yX6_read ∈ ag_tbl := ag_in 411 (by decide +kernel) (by decide +kernel)
theorem ag_se_X6_read : Cond.selects RX6 yX6_read yX6_read ∈ ag_tbl := ag_in 412 (by decide +kernel) (by decide +kernel)
theorem ag_co_X6_read : Cond.code yX6_read cX6_read 6 (some .int) ∈ ag_tbl := ag_in 413 (by decide +kernel) (by decide +kernel)
theorem ag_ml_X6_106 : Cond.methodLink RX6 106 yX6_find ∈ ag_tbl := ag_in 414 (by decide +kernel) (by decide +kernel)
theorem ag_im_X6_find : Cond.instanceMethod yX6_find ∈ ag_tbl := ag_in 416 (by decide +kernel) (by decide +kernel)
theorem ag_co_X6_find : Cond.code yX6_find cX6_find 2 (some .int) ∈ ag_tbl := ag_in 417 (by decide +kernel) (by decide +kernel)
theorem ag_ml_L_53 : Cond.methodLink RL 53 yX6_age ∈ ag_tbl := ag_in 418 (by decide +kernel) (by decide +kernel)
theorem ag_im_X6_age : Cond.instanceMethod yX6_age ∈ ag_tbl := ag_in 419 (by decide +kernel) (by decide +kernel)
theorem ag_se_X6_age : Cond.selects RX6 yX6_age yX6_age ∈ ag_tbl := ag_in 420 (by decide +kernel) (by decide +kernel)
theorem ag_co_X6_age : Cond.code yX6_age cX6_age 3 (some .int) ∈ ag_tbl := ag_in 421 (by decide +kernel) (by decide +kernel)
theorem ag_ml_X6_122 : Cond.methodLink RX6 122 yX1_lives ∈ ag_tbl := ag_in 422 (by decide +kernel) (by decide +kernel)
theorem ag_ml_X6_125 : Cond.methodLink RX6 125 yX1_toldAge ∈ ag_tbl := ag_in 423 (by decide +kernel) (by decide +kernel)
theorem ag_ml_L_57 : Cond.methodLink RL 57 yX6_opened ∈ ag_tbl := ag_in 424 (by decide +kernel) (by decide +kernel)
theorem ag_im_X6_opened : Cond.instanceMethod yX6_opened ∈ ag_tbl := ag_in 425 (by decide +kernel) (by decide +kernel)
theorem ag_se_X6_opened : Cond.selects RX6 yX6_opened yX6_opened ∈ ag_tbl := ag_in 426 (by decide +kernel) (by decide +kernel)
theorem ag_co_X6_opened : Cond.code yX6_opened cX6_opened 2 (some .int) ∈ ag_tbl := ag_in 427 (by decide +kernel) (by decide +kernel)
theorem ag_ml_X6_129 : Cond.methodLink RX6 129 yX5_openingYear ∈ ag_tbl := ag_in 428 (by decide +kernel) (by decide +kernel)
theorem ag_im_X5_openingYear : Cond.instanceMethod yX5_openingYear ∈ ag_tbl := ag_in 429 (by decide +kernel) (by decide +kernel)
theorem ag_se_X5_openingYear : Cond.selects RX5 yX5_openingYear yX5_openingYear ∈ ag_tbl := ag_in 430 (by decide +kernel) (by decide +kernel)
theorem ag_co_X5_openingYear : Cond.code yX5_openingYear cX5_openingYear 2 (some .int) ∈ ag_tbl := ag_in 431 (by decide +kernel) (by decide +kernel)
theorem ag_ml_L_61 : Cond.methodLink RL 61 yX6_written ∈ ag_tbl := ag_in 432 (by decide +kernel) (by decide +kernel)
theorem ag_im_X6_written : Cond.instanceMethod yX6_written ∈ ag_tbl := ag_in 433 (by decide +kernel) (by decide +kernel)
theorem ag_se_X6_written : Cond.selects RX6 yX6_written yX6_written ∈ ag_tbl := ag_in 434 (by decide +kernel) (by decide +kernel)
theorem ag_co_X6_written : Cond.code yX6_written cX6_written 2 (some .int) ∈ ag_tbl := ag_in 435 (by decide +kernel) (by decide +kernel)
theorem ag_ml_L_65 : Cond.methodLink RL 65 yX6_waits ∈ ag_tbl := ag_in 436 (by decide +kernel) (by decide +kernel)
theorem ag_im_X6_waits : Cond.instanceMethod yX6_waits ∈ ag_tbl := ag_in 437 (by decide +kernel) (by decide +kernel)
theorem ag_se_X6_waits : Cond.selects RX6 yX6_waits yX6_waits ∈ ag_tbl := ag_in 438 (by decide +kernel) (by decide +kernel)
theorem ag_co_X6_waits : Cond.code yX6_waits cX6_waits 3 (some .int) ∈ ag_tbl := ag_in 439 (by decide +kernel) (by decide +kernel)
theorem ag_ml_X6_135 : Cond.methodLink RX6 135 yX5_waitingBehind ∈ ag_tbl := ag_in 440 (by decide +kernel) (by decide +kernel)
theorem ag_im_X5_waitingBehind : Cond.instanceMethod yX5_waitingBehind ∈ ag_tbl := ag_in 441 (by decide +kernel) (by decide +kernel)
theorem ag_se_X5_waitingBehind : Cond.selects RX5 yX5_waitingBehind yX5_waitingBehind ∈ ag_tbl := ag_in 442 (by decide +kernel) (by decide +kernel)
theorem ag_co_X5_waitingBehind : Cond.code yX5_waitingBehind cX5_waitingBehind 4 (some .int) ∈ ag_tbl := ag_in 443 (by decide +kernel) (by decide +kernel)
theorem ag_ml_X5_164 : Cond.methodLink RX5 164 yX5_openedBehind ∈ ag_tbl := ag_in 444 (by decide +kernel) (by decide +kernel)
theorem ag_im_X5_openedBehind : Cond.instanceMethod yX5_openedBehind ∈ ag_tbl := ag_in 445 (by decide +kernel) (by decide +kernel)
theorem ag_se_X5_openedBehind : Cond.selects RX5 yX5_openedBehind yX5_openedBehind ∈ ag_tbl := ag_in 446 (by decide +kernel) (by decide +kernel)
theorem ag_co_X5_openedBehind : Cond.code yX5_openedBehind cX5_openedBehind 4 (some .int) ∈ ag_tbl := ag_in 447 (by decide +kernel) (by decide +kernel)
theorem ag_ml_X6_138 : Cond.methodLink RX6 138 yX5_openedBehind ∈ ag_tbl := ag_in 448 (by decide +kernel) (by decide +kernel)
theorem ag_ml_L_69 : Cond.methodLink RL 69 yX6_known ∈ ag_tbl := ag_in 449 (by decide +kernel) (by decide +kernel)
theorem ag_im_X6_known : Cond.instanceMethod yX6_known ∈ ag_tbl := ag_in 450 (by decide +kernel) (by decide +kernel)
theorem ag_se_X6_known : Cond.selects RX6 yX6_known yX6_known ∈ ag_tbl := ag_in 451 (by decide +kernel) (by decide +kernel)
theorem ag_co_X6_known : Cond.code yX6_known cX6_known 3 (some .int) ∈ ag_tbl := ag_in 452 (by decide +kernel) (by decide +kernel)
theorem ag_ml_X6_141 : Cond.methodLink RX6 141 yX5_wordsBehind ∈ ag_tbl := ag_in 453 (by decide +kernel) (by decide +kernel)
theorem ag_im_X5_wordsBehind : Cond.instanceMethod yX5_wordsBehind ∈ ag_tbl := ag_in 454 (by decide +kernel) (by decide +kernel)
theorem ag_se_X5_wordsBehind : Cond.selects RX5 yX5_wordsBehind yX5_wordsBehind ∈ ag_tbl := ag_in 455 (by decide +kernel) (by decide +kernel)
theorem ag_co_X5_wordsBehind : Cond.code yX5_wordsBehind cX5_wordsBehind 5 (some .int) ∈ ag_tbl := ag_in 456 (by decide +kernel) (by decide +kernel)
theorem ag_ml_X5_160 : Cond.methodLink RX5 160 yX5_knew ∈ ag_tbl := ag_in 457 (by decide +kernel) (by decide +kernel)
theorem ag_im_X5_knew : Cond.instanceMethod yX5_knew ∈ ag_tbl := ag_in 458 (by decide +kernel) (by decide +kernel)
theorem ag_se_X5_knew : Cond.selects RX5 yX5_knew yX5_knew ∈ ag_tbl := ag_in 459 (by decide +kernel) (by decide +kernel)
theorem ag_co_X5_knew : Cond.code yX5_knew cX5_knew 5 (some .boolean) ∈ ag_tbl := ag_in 460 (by decide +kernel) (by decide +kernel)
theorem ag_ml_X5_157 : Cond.methodLink RX5 157 yX5_learningYear ∈ ag_tbl := ag_in 461 (by decide +kernel) (by decide +kernel)
theorem ag_im_X5_learningYear : Cond.instanceMethod yX5_learningYear ∈ ag_tbl := ag_in 462 (by decide +kernel) (by decide +kernel)
theorem ag_se_X5_learningYear : Cond.selects RX5 yX5_learningYear yX5_learningYear ∈ ag_tbl := ag_in 463 (by decide +kernel) (by decide +kernel)
theorem ag_co_X5_learningYear : Cond.code yX5_learningYear cX5_learningYear 3 (some .int) ∈ ag_tbl := ag_in 464 (by decide +kernel) (by decide +kernel)
theorem ag_ml_L_73 : Cond.methodLink RL 73 yX6_learned ∈ ag_tbl := ag_in 465 (by decide +kernel) (by decide +kernel)
theorem ag_im_X6_learned : Cond.instanceMethod yX6_learned ∈ ag_tbl := ag_in 466 (by decide +kernel) (by decide +kernel)
theorem ag_se_X6_learned : Cond.selects RX6 yX6_learned yX6_learned ∈ ag_tbl := ag_in 467 (by decide +kernel) (by decide +kernel)
theorem ag_co_X6_learned : Cond.code yX6_learned cX6_learned 3 (some .int) ∈ ag_tbl := ag_in 468 (by decide +kernel) (by decide +kernel)
theorem ag_ml_X6_144 : Cond.methodLink RX6 144 yX5_learningYear ∈ ag_tbl := ag_in 469 (by decide +kernel) (by decide +kernel)
theorem ag_ml_L_77 : Cond.methodLink RL 77 yX6_sealed ∈ ag_tbl := ag_in 470 (by decide +kernel) (by decide +kernel)
theorem ag_im_X6_sealed : Cond.instanceMethod yX6_sealed ∈ ag_tbl := ag_in 471 (by decide +kernel) (by decide +kernel)
theorem ag_se_X6_sealed : Cond.selects RX6 yX6_sealed yX6_sealed ∈ ag_tbl := ag_in 472 (by decide +kernel) (by decide +kernel)
theorem ag_co_X6_sealed : Cond.code yX6_sealed cX6_sealed 1 (some .int) ∈ ag_tbl := ag_in 473 (by decide +kernel) (by decide +kernel)
theorem ag_ml_X6_147 : Cond.methodLink RX6 147 yX5_sealedBits ∈ ag_tbl := ag_in 474 (by decide +kernel) (by decide +kernel)
theorem ag_im_X5_sealedBits : Cond.instanceMethod yX5_sealedBits ∈ ag_tbl := ag_in 475 (by decide +kernel) (by decide +kernel)
theorem ag_se_X5_sealedBits : Cond.selects RX5 yX5_sealedBits yX5_sealedBits ∈ ag_tbl := ag_in 476 (by decide +kernel) (by decide +kernel)
theorem ag_co_X5_sealedBits : Cond.code yX5_sealedBits cX5_sealedBits 1 (some .int) ∈ ag_tbl := ag_in 477 (by decide +kernel) (by decide +kernel)
theorem ag_ml_L_81 : Cond.methodLink RL 81 yX6_loud ∈ ag_tbl := ag_in 478 (by decide +kernel) (by decide +kernel)
theorem ag_im_X6_loud : Cond.instanceMethod yX6_loud ∈ ag_tbl := ag_in 479 (by decide +kernel) (by decide +kernel)
theorem ag_se_X6_loud : Cond.selects RX6 yX6_loud yX6_loud ∈ ag_tbl := ag_in 480 (by decide +kernel) (by decide +kernel)
theorem ag_co_X6_loud : Cond.code yX6_loud cX6_loud 3 (some .int) ∈ ag_tbl := ag_in 481 (by decide +kernel) (by decide +kernel)
theorem ag_ml_X6_153 : Cond.methodLink RX6 153 yX5_loudestYear ∈ ag_tbl := ag_in 482 (by decide +kernel) (by decide +kernel)
theorem ag_im_X5_loudestYear : Cond.instanceMethod yX5_loudestYear ∈ ag_tbl := ag_in 483 (by decide +kernel) (by decide +kernel)
theorem ag_se_X5_loudestYear : Cond.selects RX5 yX5_loudestYear yX5_loudestYear ∈ ag_tbl := ag_in 484 (by decide +kernel) (by decide +kernel)
theorem ag_co_X5_loudestYear : Cond.code yX5_loudestYear cX5_loudestYear 6 (some .int) ∈ ag_tbl := ag_in 485 (by decide +kernel) (by decide +kernel)
theorem ag_ml_X5_167 : Cond.methodLink RX5 167 yX5_openingYear ∈ ag_tbl := ag_in 486 (by decide +kernel) (by decide +kernel)
theorem ag_ml_X5_170 : Cond.methodLink RX5 170 yX5_openedWithin ∈ ag_tbl := ag_in 487 (by decide +kernel) (by decide +kernel)
theorem ag_im_X5_openedWithin : Cond.instanceMethod yX5_openedWithin ∈ ag_tbl := ag_in 488 (by decide +kernel) (by decide +kernel)
theorem ag_se_X5_openedWithin : Cond.selects RX5 yX5_openedWithin yX5_openedWithin ∈ ag_tbl := ag_in 489 (by decide +kernel) (by decide +kernel)
theorem ag_co_X5_openedWithin : Cond.code yX5_openedWithin cX5_openedWithin 4 (some .int) ∈ ag_tbl := ag_in 490 (by decide +kernel) (by decide +kernel)
theorem ag_ml_X6_156 : Cond.methodLink RX6 156 yX5_openedWithin ∈ ag_tbl := ag_in 491 (by decide +kernel) (by decide +kernel)
theorem ag_ml_L_85 : Cond.methodLink RL 85 yX6_tooSoon ∈ ag_tbl := ag_in 492 (by decide +kernel) (by decide +kernel)
theorem ag_im_X6_tooSoon : Cond.instanceMethod yX6_tooSoon ∈ ag_tbl := ag_in 493 (by decide +kernel) (by decide +kernel)
theorem ag_se_X6_tooSoon : Cond.selects RX6 yX6_tooSoon yX6_tooSoon ∈ ag_tbl := ag_in 494 (by decide +kernel) (by decide +kernel)
theorem ag_co_X6_tooSoon : Cond.code yX6_tooSoon cX6_tooSoon 4 (some .int) ∈ ag_tbl := ag_in 495 (by decide +kernel) (by decide +kernel)
theorem ag_ml_X6_159 : Cond.methodLink RX6 159 yX5_takeFrom ∈ ag_tbl := ag_in 496 (by decide +kernel) (by decide +kernel)
theorem ag_im_X5_takeFrom : Cond.instanceMethod yX5_takeFrom ∈ ag_tbl := ag_in 497 (by decide +kernel) (by decide +kernel)
theorem ag_se_X5_takeFrom : Cond.selects RX5 yX5_takeFrom yX5_takeFrom ∈ ag_tbl := ag_in 498 (by decide +kernel) (by decide +kernel)
theorem ag_co_X5_takeFrom : Cond.code yX5_takeFrom cX5_takeFrom 2 none ∈ ag_tbl := ag_in 499 (by decide +kernel) (by decide +kernel)
theorem ag_ml_X5_51 : Cond.methodLink RX5 51 yX1_takeFrom ∈ ag_tbl := ag_in 500 (by decide +kernel) (by decide +kernel)
theorem ag_im_X1_takeFrom : Cond.instanceMethod yX1_takeFrom ∈ ag_tbl := ag_in 501 (by decide +kernel) (by decide +kernel)
theorem ag_se_X1_takeFrom : Cond.selects RX1 yX1_takeFrom yX1_takeFrom ∈ ag_tbl := ag_in 502 (by decide +kernel) (by decide +kernel)
theorem ag_co_X1_takeFrom : Cond.code yX1_takeFrom cX1_takeFrom 2 none ∈ ag_tbl := ag_in 503 (by decide +kernel) (by decide +kernel)
theorem ag_ml_X1_43 : Cond.methodLink RX1 43 arraycopyName ∈ ag_tbl := ag_in 504 (by decide +kernel) (by decide +kernel)
theorem ag_ml_X5_55 : Cond.methodLink RX5 55 yX2_takeFrom ∈ ag_tbl := ag_in 505 (by decide +kernel) (by decide +kernel)
theorem ag_im_X2_takeFrom : Cond.instanceMethod yX2_takeFrom ∈ ag_tbl := ag_in 506 (by decide +kernel) (by decide +kernel)
theorem ag_se_X2_takeFrom : Cond.selects RX2 yX2_takeFrom yX2_takeFrom ∈ ag_tbl := ag_in 507 (by decide +kernel) (by decide +kernel)
theorem ag_co_X2_takeFrom : Cond.code yX2_takeFrom cX2_takeFrom 2 none ∈ ag_tbl := ag_in 508 (by decide +kernel) (by decide +kernel)
theorem ag_ml_X2_31 : Cond.methodLink RX2 31 arraycopyName ∈ ag_tbl := ag_in 509 (by decide +kernel) (by decide +kernel)
theorem ag_ml_X6_163 : Cond.methodLink RX6 163 yX6_opensWithGrace ∈ ag_tbl := ag_in 510 (by decide +kernel) (by decide +kernel)
theorem ag_im_X6_opensWithGrace : Cond.instanceMethod yX6_opensWithGrace ∈ ag_tbl := ag_in 512 (by decide +kernel) (by decide +kernel)
theorem ag_co_X6_opensWithGrace : Cond.code yX6_opensWithGrace cX6_opensWithGrace 3 (some .boolean) ∈ ag_tbl := ag_in 513 (by decide +kernel) (by decide +kernel)
theorem ag_ml_L_89 : Cond.methodLink RL 89 yX6_send ∈ ag_tbl := ag_in 514 (by decide +kernel) (by decide +kernel)
theorem ag_im_X6_send : Cond.instanceMethod yX6_send ∈ ag_tbl := ag_in 515 (by decide +kernel) (by decide +kernel)
theorem ag_se_X6_send : Cond.selects RX6 yX6_send yX6_send ∈ ag_tbl := ag_in 516 (by decide +kernel) (by decide +kernel)
theorem ag_co_X6_send : Cond.code yX6_send cX6_send 5 (some .int) ∈ ag_tbl := ag_in 517 (by decide +kernel) (by decide +kernel)
theorem ag_ml_X6_169 : Cond.methodLink RX6 169 yX6_bestSend ∈ ag_tbl := ag_in 518 (by decide +kernel) (by decide +kernel)
theorem ag_im_X6_bestSend : Cond.instanceMethod yX6_bestSend ∈ ag_tbl := ag_in 520 (by decide +kernel) (by decide +kernel)
theorem ag_co_X6_bestSend : Cond.code yX6_bestSend cX6_bestSend 9 (some .int) ∈ ag_tbl := ag_in 521 (by decide +kernel) (by decide +kernel)
theorem ag_ml_X6_175 : Cond.methodLink RX6 175 yX5_couldWrite ∈ ag_tbl := ag_in 522 (by decide +kernel) (by decide +kernel)
theorem ag_im_X5_couldWrite : Cond.instanceMethod yX5_couldWrite ∈ ag_tbl := ag_in 523 (by decide +kernel) (by decide +kernel)
theorem ag_se_X5_couldWrite : Cond.selects RX5 yX5_couldWrite yX5_couldWrite ∈ ag_tbl := ag_in 524 (by decide +kernel) (by decide +kernel)
theorem ag_co_X5_couldWrite : Cond.code yX5_couldWrite cX5_couldWrite 4 (some .boolean) ∈ ag_tbl := ag_in 525 (by decide +kernel) (by decide +kernel)
theorem ag_ml_X6_179 : Cond.methodLink RX6 179 yX6_learnedBySend ∈ ag_tbl := ag_in 526 (by decide +kernel) (by decide +kernel)
theorem ag_im_X6_learnedBySend : Cond.instanceMethod yX6_learnedBySend ∈ ag_tbl := ag_in 528 (by decide +kernel) (by decide +kernel)
theorem ag_co_X6_learnedBySend : Cond.code yX6_learnedBySend cX6_learnedBySend 7 (some .int) ∈ ag_tbl := ag_in 529 (by decide +kernel) (by decide +kernel)
theorem ag_ml_X6_182 : Cond.methodLink RX6 182 yX5_dueYear ∈ ag_tbl := ag_in 530 (by decide +kernel) (by decide +kernel)
theorem ag_ml_X6_185 : Cond.methodLink RX6 185 Lib.Math.min.name ∈ ag_tbl := ag_in 531 (by decide +kernel) (by decide +kernel)
theorem ag_ml_L_94 : Cond.methodLink RL 94 yX6_trust ∈ ag_tbl := ag_in 532 (by decide +kernel) (by decide +kernel)
theorem ag_im_X6_trust : Cond.instanceMethod yX6_trust ∈ ag_tbl := ag_in 533 (by decide +kernel) (by decide +kernel)
theorem ag_se_X6_trust : Cond.selects RX6 yX6_trust yX6_trust ∈ ag_tbl := ag_in 534 (by decide +kernel) (by decide +kernel)
theorem ag_co_X6_trust : Cond.code yX6_trust cX6_trust 5 (some .int) ∈ ag_tbl := ag_in 535 (by decide +kernel) (by decide +kernel)
theorem ag_ml_X6_190 : Cond.methodLink RX6 190 yJ6_bitCount_0f7a4 ∈ ag_tbl := ag_in 536 (by decide +kernel) (by decide +kernel)
theorem ag_st_J6_bitCount_0f7a4 : Cond.static yJ6_bitCount_0f7a4 ∈ ag_tbl := ag_in 537 (by decide +kernel) (by decide +kernel)
theorem ag_co_J6_bitCount_0f7a4 : Cond.code yJ6_bitCount_0f7a4 cJ6_bitCount_0f7a4 1 (some .int) ∈ ag_tbl := ag_in 538 (by decide +kernel) (by decide +kernel)
theorem ag_kc_J6_265 : Cond.constant RJ6 265 (1431655765) ∈ ag_tbl := ag_in 539 (by decide +kernel) (by decide +kernel)
theorem ag_kc_J6_266 : Cond.constant RJ6 266 (858993459) ∈ ag_tbl := ag_in 540 (by decide +kernel) (by decide +kernel)
theorem ag_kc_J6_267 : Cond.constant RJ6 267 (252645135) ∈ ag_tbl := ag_in 541 (by decide +kernel) (by decide +kernel)
theorem ag_ml_X6_195 : Cond.methodLink RX6 195 yX6_knowsByTrust ∈ ag_tbl := ag_in 542 (by decide +kernel) (by decide +kernel)
theorem ag_im_X6_knowsByTrust : Cond.instanceMethod yX6_knowsByTrust ∈ ag_tbl := ag_in 544 (by decide +kernel) (by decide +kernel)
theorem ag_co_X6_knowsByTrust : Cond.code yX6_knowsByTrust cX6_knowsByTrust 5 (some .boolean) ∈ ag_tbl := ag_in 545 (by decide +kernel) (by decide +kernel)
theorem ag_ml_L_98 : Cond.methodLink RL 98 yX6_teach ∈ ag_tbl := ag_in 546 (by decide +kernel) (by decide +kernel)
theorem ag_im_X6_teach : Cond.instanceMethod yX6_teach ∈ ag_tbl := ag_in 547 (by decide +kernel) (by decide +kernel)
theorem ag_se_X6_teach : Cond.selects RX6 yX6_teach yX6_teach ∈ ag_tbl := ag_in 548 (by decide +kernel) (by decide +kernel)
theorem ag_co_X6_teach : Cond.code yX6_teach cX6_teach 10 (some .int) ∈ ag_tbl := ag_in 549 (by decide +kernel) (by decide +kernel)
theorem ag_ml_X6_201 : Cond.methodLink RX6 201 yX5_helpfulFor ∈ ag_tbl := ag_in 550 (by decide +kernel) (by decide +kernel)
theorem ag_im_X5_helpfulFor : Cond.instanceMethod yX5_helpfulFor ∈ ag_tbl := ag_in 551 (by decide +kernel) (by decide +kernel)
theorem ag_se_X5_helpfulFor : Cond.selects RX5 yX5_helpfulFor yX5_helpfulFor ∈ ag_tbl := ag_in 552 (by decide +kernel) (by decide +kernel)
theorem ag_co_X5_helpfulFor : Cond.code yX5_helpfulFor cX5_helpfulFor 7 (some .int) ∈ ag_tbl := ag_in 553 (by decide +kernel) (by decide +kernel)
theorem ag_ml_X5_145 : Cond.methodLink RX5 145 yJ7_fill_53178 ∈ ag_tbl := ag_in 554 (by decide +kernel) (by decide +kernel)
theorem ag_st_J7_fill_53178 : Cond.static yJ7_fill_53178 ∈ ag_tbl := ag_in 555 (by decide +kernel) (by decide +kernel)
theorem ag_co_J7_fill_53178 : Cond.code yJ7_fill_53178 cJ7_fill_53178 4 none ∈ ag_tbl := ag_in 556 (by decide +kernel) (by decide +kernel)
theorem ag_ml_X5_151 : Cond.methodLink RX5 151 yX5_bringsWanted ∈ ag_tbl := ag_in 557 (by decide +kernel) (by decide +kernel)
theorem ag_im_X5_bringsWanted : Cond.instanceMethod yX5_bringsWanted ∈ ag_tbl := ag_in 559 (by decide +kernel) (by decide +kernel)
theorem ag_co_X5_bringsWanted : Cond.code yX5_bringsWanted cX5_bringsWanted 6 (some .boolean) ∈ ag_tbl := ag_in 560 (by decide +kernel) (by decide +kernel)
theorem ag_ml_X5_154 : Cond.methodLink RX5 154 yX5_want ∈ ag_tbl := ag_in 561 (by decide +kernel) (by decide +kernel)
theorem ag_im_X5_want : Cond.instanceMethod yX5_want ∈ ag_tbl := ag_in 563 (by decide +kernel) (by decide +kernel)
theorem ag_co_X5_want : Cond.code yX5_want cX5_want 3 none ∈ ag_tbl := ag_in 564 (by decide +kernel) (by decide +kernel)
theorem ag_ml_X6_205 : Cond.methodLink RX6 205 yX6_teaches ∈ ag_tbl := ag_in 565 (by decide +kernel) (by decide +kernel)
theorem ag_im_X6_teaches : Cond.instanceMethod yX6_teaches ∈ ag_tbl := ag_in 567 (by decide +kernel) (by decide +kernel)
theorem ag_co_X6_teaches : Cond.code yX6_teaches cX6_teaches 5 (some .boolean) ∈ ag_tbl := ag_in 568 (by decide +kernel) (by decide +kernel)
theorem ag_ml_X6_209 : Cond.methodLink RX6 209 yX6_nextWithin ∈ ag_tbl := ag_in 569 (by decide +kernel) (by decide +kernel)
theorem ag_st_X6_nextWithin : Cond.static yX6_nextWithin ∈ ag_tbl := ag_in 570 (by decide +kernel) (by decide +kernel)
theorem ag_co_X6_nextWithin : Cond.code yX6_nextWithin cX6_nextWithin 2 (some .int) ∈ ag_tbl := ag_in 571 (by decide +kernel) (by decide +kernel)
theorem ag_ml_L_102 : Cond.methodLink RL 102 yX6_done ∈ ag_tbl := ag_in 572 (by decide +kernel) (by decide +kernel)
theorem ag_im_X6_done : Cond.instanceMethod yX6_done ∈ ag_tbl := ag_in 573 (by decide +kernel) (by decide +kernel)
theorem ag_se_X6_done : Cond.selects RX6 yX6_done yX6_done ∈ ag_tbl := ag_in 574 (by decide +kernel) (by decide +kernel)
theorem ag_co_X6_done : Cond.code yX6_done cX6_done 5 (some .int) ∈ ag_tbl := ag_in 575 (by decide +kernel) (by decide +kernel)
theorem ag_ml_X6_216 : Cond.methodLink RX6 216 yX0_addOne ∈ ag_tbl := ag_in 576 (by decide +kernel) (by decide +kernel)
theorem ag_im_X0_addOne : Cond.instanceMethod yX0_addOne ∈ ag_tbl := ag_in 577 (by decide +kernel) (by decide +kernel)
theorem ag_se_X0_addOne : Cond.selects RX0 yX0_addOne yX0_addOne ∈ ag_tbl := ag_in 578 (by decide +kernel) (by decide +kernel)
theorem ag_co_X0_addOne : Cond.code yX0_addOne cX0_addOne 5 none ∈ ag_tbl := ag_in 579 (by decide +kernel) (by decide +kernel)
theorem ag_ml_L_107 : Cond.methodLink RL 107 yX6_forget ∈ ag_tbl := ag_in 580 (by decide +kernel) (by decide +kernel)
theorem ag_im_X6_forget : Cond.instanceMethod yX6_forget ∈ ag_tbl := ag_in 581 (by decide +kernel) (by decide +kernel)
theorem ag_se_X6_forget : Cond.selects RX6 yX6_forget yX6_forget ∈ ag_tbl := ag_in 582 (by decide +kernel) (by decide +kernel)
theorem ag_co_X6_forget : Cond.code yX6_forget cX6_forget 2 (some .int) ∈ ag_tbl := ag_in 583 (by decide +kernel) (by decide +kernel)
theorem ag_ml_L_111 : Cond.methodLink RL 111 yX6_said ∈ ag_tbl := ag_in 584 (by decide +kernel) (by decide +kernel)
theorem ag_im_X6_said : Cond.instanceMethod yX6_said ∈ ag_tbl := ag_in 585 (by decide +kernel) (by decide +kernel)
theorem ag_se_X6_said : Cond.selects RX6 yX6_said yX6_said ∈ ag_tbl := ag_in 586 (by decide +kernel) (by decide +kernel)
theorem ag_co_X6_said : Cond.code yX6_said cX6_said 4 (some .int) ∈ ag_tbl := ag_in 587 (by decide +kernel) (by decide +kernel)
theorem ag_ml_X6_223 : Cond.methodLink RX6 223 yX0_cameOutIn ∈ ag_tbl := ag_in 588 (by decide +kernel) (by decide +kernel)
theorem ag_im_X0_cameOutIn : Cond.instanceMethod yX0_cameOutIn ∈ ag_tbl := ag_in 589 (by decide +kernel) (by decide +kernel)
theorem ag_se_X0_cameOutIn : Cond.selects RX0 yX0_cameOutIn yX0_cameOutIn ∈ ag_tbl := ag_in 590 (by decide +kernel) (by decide +kernel)
theorem ag_co_X0_cameOutIn : Cond.code yX0_cameOutIn cX0_cameOutIn 3 (some .boolean) ∈ ag_tbl := ag_in 591 (by decide +kernel) (by decide +kernel)
theorem ag_ml_X0_28 : Cond.methodLink RX0 28 yX5_knew ∈ ag_tbl := ag_in 592 (by decide +kernel) (by decide +kernel)
theorem ag_ml_L_115 : Cond.methodLink RL 115 yX6_forged ∈ ag_tbl := ag_in 593 (by decide +kernel) (by decide +kernel)
theorem ag_im_X6_forged : Cond.instanceMethod yX6_forged ∈ ag_tbl := ag_in 594 (by decide +kernel) (by decide +kernel)
theorem ag_se_X6_forged : Cond.selects RX6 yX6_forged yX6_forged ∈ ag_tbl := ag_in 595 (by decide +kernel) (by decide +kernel)
theorem ag_co_X6_forged : Cond.code yX6_forged cX6_forged 3 (some .int) ∈ ag_tbl := ag_in 596 (by decide +kernel) (by decide +kernel)
theorem ag_ml_X6_230 : Cond.methodLink RX6 230 yJ7_fill_53178 ∈ ag_tbl := ag_in 597 (by decide +kernel) (by decide +kernel)
theorem ag_ml_L_119 : Cond.methodLink RL 119 yX6_chance ∈ ag_tbl := ag_in 598 (by decide +kernel) (by decide +kernel)
theorem ag_im_X6_chance : Cond.instanceMethod yX6_chance ∈ ag_tbl := ag_in 599 (by decide +kernel) (by decide +kernel)
theorem ag_se_X6_chance : Cond.selects RX6 yX6_chance yX6_chance ∈ ag_tbl := ag_in 600 (by decide +kernel) (by decide +kernel)
theorem ag_co_X6_chance : Cond.code yX6_chance cX6_chance 11 (some .long) ∈ ag_tbl := ag_in 601 (by decide +kernel) (by decide +kernel)
theorem ag_kl_X6_236 : Cond.constantLong RX6 236 (-9223372036854775806) ∈ ag_tbl := ag_in 602 (by decide +kernel) (by decide +kernel)
theorem ag_ml_X6_238 : Cond.methodLink RX6 238 yX5_involvedIn ∈ ag_tbl := ag_in 603 (by decide +kernel) (by decide +kernel)
theorem ag_im_X5_involvedIn : Cond.instanceMethod yX5_involvedIn ∈ ag_tbl := ag_in 604 (by decide +kernel) (by decide +kernel)
theorem ag_se_X5_involvedIn : Cond.selects RX5 yX5_involvedIn yX5_involvedIn ∈ ag_tbl := ag_in 605 (by decide +kernel) (by decide +kernel)
theorem ag_co_X5_involvedIn : Cond.code yX5_involvedIn cX5_involvedIn 4 (some .int) ∈ ag_tbl := ag_in 606 (by decide +kernel) (by decide +kernel)
theorem ag_ml_X6_241 : Cond.methodLink RX6 241 yX6_weightOfKnowing ∈ ag_tbl := ag_in 607 (by decide +kernel) (by decide +kernel)
theorem ag_im_X6_weightOfKnowing : Cond.instanceMethod yX6_weightOfKnowing ∈ ag_tbl := ag_in 609 (by decide +kernel) (by decide +kernel)
theorem ag_co_X6_weightOfKnowing : Cond.code yX6_weightOfKnowing cX6_weightOfKnowing 13 (some .long) ∈ ag_tbl := ag_in 610 (by decide +kernel) (by decide +kernel)
theorem ag_ml_X6_245 : Cond.methodLink RX6 245 yX6_power ∈ ag_tbl := ag_in 611 (by decide +kernel) (by decide +kernel)
theorem ag_st_X6_power : Cond.static yX6_power ∈ ag_tbl := ag_in 612 (by decide +kernel) (by decide +kernel)
theorem ag_co_X6_power : Cond.code yX6_power cX6_power 5 (some .long) ∈ ag_tbl := ag_in 613 (by decide +kernel) (by decide +kernel)
theorem ag_ml_X6_249 : Cond.methodLink RX6 249 yX6_knowsWithShorter ∈ ag_tbl := ag_in 614 (by decide +kernel) (by decide +kernel)
theorem ag_im_X6_knowsWithShorter : Cond.instanceMethod yX6_knowsWithShorter ∈ ag_tbl := ag_in 616 (by decide +kernel) (by decide +kernel)
theorem ag_co_X6_knowsWithShorter : Cond.code yX6_knowsWithShorter cX6_knowsWithShorter 4 (some .boolean) ∈ ag_tbl := ag_in 617 (by decide +kernel) (by decide +kernel)
theorem ag_ml_X6_252 : Cond.methodLink RX6 252 yX1_shorten ∈ ag_tbl := ag_in 618 (by decide +kernel) (by decide +kernel)
theorem ag_im_X1_shorten : Cond.instanceMethod yX1_shorten ∈ ag_tbl := ag_in 619 (by decide +kernel) (by decide +kernel)
theorem ag_se_X1_shorten : Cond.selects RX1 yX1_shorten yX1_shorten ∈ ag_tbl := ag_in 620 (by decide +kernel) (by decide +kernel)
theorem ag_co_X1_shorten : Cond.code yX1_shorten cX1_shorten 5 none ∈ ag_tbl := ag_in 621 (by decide +kernel) (by decide +kernel)
theorem ag_ml_X1_37 : Cond.methodLink RX1 37 Lib.Math.max.name ∈ ag_tbl := ag_in 622 (by decide +kernel) (by decide +kernel)
theorem ag_ml_L_124 : Cond.methodLink RL 124 yX6_drawn ∈ ag_tbl := ag_in 623 (by decide +kernel) (by decide +kernel)
theorem ag_im_X6_drawn : Cond.instanceMethod yX6_drawn ∈ ag_tbl := ag_in 624 (by decide +kernel) (by decide +kernel)
theorem ag_se_X6_drawn : Cond.selects RX6 yX6_drawn yX6_drawn ∈ ag_tbl := ag_in 625 (by decide +kernel) (by decide +kernel)
theorem ag_co_X6_drawn : Cond.code yX6_drawn cX6_drawn 6 (some .int) ∈ ag_tbl := ag_in 626 (by decide +kernel) (by decide +kernel)
theorem ag_kc_X6_256 : Cond.constant RX6 256 (1103515245) ∈ ag_tbl := ag_in 627 (by decide +kernel) (by decide +kernel)
theorem ag_ml_L_128 : Cond.methodLink RL 128 yX6_sheet ∈ ag_tbl := ag_in 628 (by decide +kernel) (by decide +kernel)
theorem ag_im_X6_sheet : Cond.instanceMethod yX6_sheet ∈ ag_tbl := ag_in 629 (by decide +kernel) (by decide +kernel)
theorem ag_se_X6_sheet : Cond.selects RX6 yX6_sheet yX6_sheet ∈ ag_tbl := ag_in 630 (by decide +kernel) (by decide +kernel)
theorem ag_co_X6_sheet : Cond.code yX6_sheet cX6_sheet 4 (some .int) ∈ ag_tbl := ag_in 631 (by decide +kernel) (by decide +kernel)
theorem ag_ml_X6_257 : Cond.methodLink RX6 257 yX3_begin ∈ ag_tbl := ag_in 632 (by decide +kernel) (by decide +kernel)
theorem ag_im_X3_begin : Cond.instanceMethod yX3_begin ∈ ag_tbl := ag_in 633 (by decide +kernel) (by decide +kernel)
theorem ag_se_X3_begin : Cond.selects RX3 yX3_begin yX3_begin ∈ ag_tbl := ag_in 634 (by decide +kernel) (by decide +kernel)
theorem ag_co_X3_begin : Cond.code yX3_begin cX3_begin 3 none ∈ ag_tbl := ag_in 635 (by decide +kernel) (by decide +kernel)
theorem ag_ml_X3_26 : Cond.methodLink RX3 26 yJ7_fill_53178 ∈ ag_tbl := ag_in 636 (by decide +kernel) (by decide +kernel)
theorem ag_ml_L_132 : Cond.methodLink RL 132 yX6_lose ∈ ag_tbl := ag_in 637 (by decide +kernel) (by decide +kernel)
theorem ag_im_X6_lose : Cond.instanceMethod yX6_lose ∈ ag_tbl := ag_in 638 (by decide +kernel) (by decide +kernel)
theorem ag_se_X6_lose : Cond.selects RX6 yX6_lose yX6_lose ∈ ag_tbl := ag_in 639 (by decide +kernel) (by decide +kernel)
theorem ag_co_X6_lose : Cond.code yX6_lose cX6_lose 2 (some .int) ∈ ag_tbl := ag_in 640 (by decide +kernel) (by decide +kernel)
theorem ag_ml_L_136 : Cond.methodLink RL 136 yX6_put ∈ ag_tbl := ag_in 641 (by decide +kernel) (by decide +kernel)
theorem ag_im_X6_put : Cond.instanceMethod yX6_put ∈ ag_tbl := ag_in 642 (by decide +kernel) (by decide +kernel)
theorem ag_se_X6_put : Cond.selects RX6 yX6_put yX6_put ∈ ag_tbl := ag_in 643 (by decide +kernel) (by decide +kernel)
theorem ag_co_X6_put : Cond.code yX6_put cX6_put 6 (some .int) ∈ ag_tbl := ag_in 644 (by decide +kernel) (by decide +kernel)
theorem ag_ml_X6_261 : Cond.methodLink RX6 261 yX3_findingAt ∈ ag_tbl := ag_in 645 (by decide +kernel) (by decide +kernel)
theorem ag_im_X3_findingAt : Cond.instanceMethod yX3_findingAt ∈ ag_tbl := ag_in 646 (by decide +kernel) (by decide +kernel)
theorem ag_se_X3_findingAt : Cond.selects RX3 yX3_findingAt yX3_findingAt ∈ ag_tbl := ag_in 647 (by decide +kernel) (by decide +kernel)
theorem ag_co_X3_findingAt : Cond.code yX3_findingAt cX3_findingAt 3 (some .int) ∈ ag_tbl := ag_in 648 (by decide +kernel) (by decide +kernel)
theorem ag_nest : Cond.methodLinkNest RX3 32 yX6_isBelow RX6 ∈ lw_tbl := List.mem_of_getElem? (i := 649) (by decide +kernel)
theorem ag_ml_X6_264 : Cond.methodLink RX6 264 yX3_setItem ∈ ag_tbl := ag_in 650 (by decide +kernel) (by decide +kernel)
theorem ag_im_X3_setItem : Cond.instanceMethod yX3_setItem ∈ ag_tbl := ag_in 651 (by decide +kernel) (by decide +kernel)
theorem ag_se_X3_setItem : Cond.selects RX3 yX3_setItem yX3_setItem ∈ ag_tbl := ag_in 652 (by decide +kernel) (by decide +kernel)
theorem ag_co_X3_setItem : Cond.code yX3_setItem cX3_setItem 3 none ∈ ag_tbl := ag_in 653 (by decide +kernel) (by decide +kernel)
theorem ag_ml_L_140 : Cond.methodLink RL 140 yX6_get ∈ ag_tbl := ag_in 654 (by decide +kernel) (by decide +kernel)
theorem ag_im_X6_get : Cond.instanceMethod yX6_get ∈ ag_tbl := ag_in 655 (by decide +kernel) (by decide +kernel)
theorem ag_se_X6_get : Cond.selects RX6 yX6_get yX6_get ∈ ag_tbl := ag_in 656 (by decide +kernel) (by decide +kernel)
theorem ag_co_X6_get : Cond.code yX6_get cX6_get 5 (some .int) ∈ ag_tbl := ag_in 657 (by decide +kernel) (by decide +kernel)
theorem ag_kc_X6_267 : Cond.constant RX6 267 (-2147483648) ∈ ag_tbl := ag_in 658 (by decide +kernel) (by decide +kernel)
theorem ag_ml_L_144 : Cond.methodLink RL 144 yX6_copy ∈ ag_tbl := ag_in 659 (by decide +kernel) (by decide +kernel)
theorem ag_im_X6_copy : Cond.instanceMethod yX6_copy ∈ ag_tbl := ag_in 660 (by decide +kernel) (by decide +kernel)
theorem ag_se_X6_copy : Cond.selects RX6 yX6_copy yX6_copy ∈ ag_tbl := ag_in 661 (by decide +kernel) (by decide +kernel)
theorem ag_co_X6_copy : Cond.code yX6_copy cX6_copy 8 (some .int) ∈ ag_tbl := ag_in 662 (by decide +kernel) (by decide +kernel)
theorem ag_ml_X6_271 : Cond.methodLink RX6 271 yX3_hasStretch ∈ ag_tbl := ag_in 663 (by decide +kernel) (by decide +kernel)
theorem ag_im_X3_hasStretch : Cond.instanceMethod yX3_hasStretch ∈ ag_tbl := ag_in 664 (by decide +kernel) (by decide +kernel)
theorem ag_se_X3_hasStretch : Cond.selects RX3 yX3_hasStretch yX3_hasStretch ∈ ag_tbl := ag_in 665 (by decide +kernel) (by decide +kernel)
theorem ag_co_X3_hasStretch : Cond.code yX3_hasStretch cX3_hasStretch 3 (some .boolean) ∈ ag_tbl := ag_in 666 (by decide +kernel) (by decide +kernel)
theorem ag_ml_X6_274 : Cond.methodLink RX6 274 arraycopyName ∈ ag_tbl := ag_in 667 (by decide +kernel) (by decide +kernel)
theorem ag_ml_L_148 : Cond.methodLink RL 148 yX6_write ∈ ag_tbl := ag_in 668 (by decide +kernel) (by decide +kernel)
theorem ag_im_X6_write : Cond.instanceMethod yX6_write ∈ ag_tbl := ag_in 669 (by decide +kernel) (by decide +kernel)
theorem ag_se_X6_write : Cond.selects RX6 yX6_write yX6_write ∈ ag_tbl := ag_in 670 (by decide +kernel) (by decide +kernel)
theorem ag_co_X6_write : Cond.code yX6_write cX6_write 5 (some .int) ∈ ag_tbl := ag_in 671 (by decide +kernel) (by decide +kernel)
theorem ag_ml_L_152 : Cond.methodLink RL 152 yX6_count ∈ ag_tbl := ag_in 672 (by decide +kernel) (by decide +kernel)
theorem ag_im_X6_count : Cond.instanceMethod yX6_count ∈ ag_tbl := ag_in 673 (by decide +kernel) (by decide +kernel)
theorem ag_se_X6_count : Cond.selects RX6 yX6_count yX6_count ∈ ag_tbl := ag_in 674 (by decide +kernel) (by decide +kernel)
theorem ag_co_X6_count : Cond.code yX6_count cX6_count 2 (some .int) ∈ ag_tbl := ag_in 675 (by decide +kernel) (by decide +kernel)
theorem ag_ml_X6_280 : Cond.methodLink RX6 280 yX1_elders ∈ ag_tbl := ag_in 676 (by decide +kernel) (by decide +kernel)
theorem ag_im_X1_elders : Cond.instanceMethod yX1_elders ∈ ag_tbl := ag_in 677 (by decide +kernel) (by decide +kernel)
theorem ag_se_X1_elders : Cond.selects RX1 yX1_elders yX1_elders ∈ ag_tbl := ag_in 678 (by decide +kernel) (by decide +kernel)
theorem ag_co_X1_elders : Cond.code yX1_elders cX1_elders 3 (some .int) ∈ ag_tbl := ag_in 679 (by decide +kernel) (by decide +kernel)
theorem ag_ml_X6_283 : Cond.methodLink RX6 283 yX1_ownWords ∈ ag_tbl := ag_in 680 (by decide +kernel) (by decide +kernel)
theorem ag_im_X1_ownWords : Cond.instanceMethod yX1_ownWords ∈ ag_tbl := ag_in 681 (by decide +kernel) (by decide +kernel)
theorem ag_se_X1_ownWords : Cond.selects RX1 yX1_ownWords yX1_ownWords ∈ ag_tbl := ag_in 682 (by decide +kernel) (by decide +kernel)
theorem ag_co_X1_ownWords : Cond.code yX1_ownWords cX1_ownWords 3 (some .int) ∈ ag_tbl := ag_in 683 (by decide +kernel) (by decide +kernel)
theorem ag_ml_X1_31 : Cond.methodLink RX1 31 yJ6_bitCount_0f7a4 ∈ ag_tbl := ag_in 684 (by decide +kernel) (by decide +kernel)
theorem ag_ml_L_156 : Cond.methodLink RL 156 yX6_digest ∈ ag_tbl := ag_in 685 (by decide +kernel) (by decide +kernel)
theorem ag_im_X6_digest : Cond.instanceMethod yX6_digest ∈ ag_tbl := ag_in 686 (by decide +kernel) (by decide +kernel)
theorem ag_se_X6_digest : Cond.selects RX6 yX6_digest yX6_digest ∈ ag_tbl := ag_in 687 (by decide +kernel) (by decide +kernel)
theorem ag_co_X6_digest : Cond.code yX6_digest cX6_digest 4 (some .long) ∈ ag_tbl := ag_in 688 (by decide +kernel) (by decide +kernel)
theorem ag_kl_X6_286 : Cond.constantLong RX6 286 (17) ∈ ag_tbl := ag_in 689 (by decide +kernel) (by decide +kernel)
theorem ag_kl_X6_288 : Cond.constantLong RX6 288 (31) ∈ ag_tbl := ag_in 690 (by decide +kernel) (by decide +kernel)
theorem ag_ml_X6_290 : Cond.methodLink RX6 290 yX6_count ∈ ag_tbl := ag_in 691 (by decide +kernel) (by decide +kernel)
theorem ag_ml_X6_292 : Cond.methodLink RX6 292 yX6_fault ∈ ag_tbl := ag_in 692 (by decide +kernel) (by decide +kernel)
theorem ag_ml_X6_295 : Cond.methodLink RX6 295 yX6_mixPersons ∈ ag_tbl := ag_in 693 (by decide +kernel) (by decide +kernel)
theorem ag_im_X6_mixPersons : Cond.instanceMethod yX6_mixPersons ∈ ag_tbl := ag_in 695 (by decide +kernel) (by decide +kernel)
theorem ag_co_X6_mixPersons : Cond.code yX6_mixPersons cX6_mixPersons 6 (some .long) ∈ ag_tbl := ag_in 696 (by decide +kernel) (by decide +kernel)
theorem ag_ml_X6_338 : Cond.methodLink RX6 338 yX6_known ∈ ag_tbl := ag_in 697 (by decide +kernel) (by decide +kernel)
theorem ag_ml_X6_341 : Cond.methodLink RX6 341 yX6_learned ∈ ag_tbl := ag_in 698 (by decide +kernel) (by decide +kernel)
theorem ag_ml_X6_344 : Cond.methodLink RX6 344 yX6_age ∈ ag_tbl := ag_in 699 (by decide +kernel) (by decide +kernel)
theorem ag_ml_X6_299 : Cond.methodLink RX6 299 yX6_opened ∈ ag_tbl := ag_in 700 (by decide +kernel) (by decide +kernel)
theorem ag_ml_X6_302 : Cond.methodLink RX6 302 yX6_written ∈ ag_tbl := ag_in 701 (by decide +kernel) (by decide +kernel)
theorem ag_ml_X6_305 : Cond.methodLink RX6 305 yX6_said ∈ ag_tbl := ag_in 702 (by decide +kernel) (by decide +kernel)
theorem ag_ml_X6_308 : Cond.methodLink RX6 308 yX6_sealed ∈ ag_tbl := ag_in 703 (by decide +kernel) (by decide +kernel)
theorem ag_ml_X6_311 : Cond.methodLink RX6 311 yX6_loud ∈ ag_tbl := ag_in 704 (by decide +kernel) (by decide +kernel)
theorem ag_ml_X6_314 : Cond.methodLink RX6 314 yX6_tooSoon ∈ ag_tbl := ag_in 705 (by decide +kernel) (by decide +kernel)
theorem ag_ml_X6_317 : Cond.methodLink RX6 317 yX6_waits ∈ ag_tbl := ag_in 706 (by decide +kernel) (by decide +kernel)
theorem ag_ml_X6_320 : Cond.methodLink RX6 320 yX6_send ∈ ag_tbl := ag_in 707 (by decide +kernel) (by decide +kernel)
theorem ag_ml_X6_323 : Cond.methodLink RX6 323 yX6_trust ∈ ag_tbl := ag_in 708 (by decide +kernel) (by decide +kernel)
theorem ag_ml_X6_326 : Cond.methodLink RX6 326 yX6_teach ∈ ag_tbl := ag_in 709 (by decide +kernel) (by decide +kernel)
theorem ag_ml_X6_329 : Cond.methodLink RX6 329 yX6_forged ∈ ag_tbl := ag_in 710 (by decide +kernel) (by decide +kernel)
theorem ag_ml_X6_332 : Cond.methodLink RX6 332 yX6_chance ∈ ag_tbl := ag_in 711 (by decide +kernel) (by decide +kernel)
theorem ag_ml_X6_335 : Cond.methodLink RX6 335 yX6_drawn ∈ ag_tbl := ag_in 712 (by decide +kernel) (by decide +kernel)
theorem ag_cl_L_10 : Cond.classLink RL 10 RX7 ∈ ag_tbl := ag_in 713 (by decide +kernel) (by decide +kernel)
theorem ag_ins_X7 : Cond.instantiable RX7 37 ∈ ag_tbl := ag_in 714 (by decide +kernel) (by decide +kernel)
theorem ag_ml_L_12 : Cond.methodLink RL 12 yX7_init ∈ ag_tbl := ag_in 715 (by decide +kernel) (by decide +kernel)
theorem ag_im_X7_init : Cond.instanceMethod yX7_init ∈ ag_tbl := ag_in 716 (by decide +kernel) (by decide +kernel)
theorem ag_co_X7_init : Cond.code yX7_init cX7_init 1 none ∈ ag_tbl := ag_in 717 (by decide +kernel) (by decide +kernel)
theorem ag_ml_X7_1 : Cond.methodLink RX7 1 objectInit ∈ ag_tbl := ag_in 718 (by decide +kernel) (by decide +kernel)
theorem ag_ml_X7_80 : Cond.methodLink RX7 80 yX7_asTold ∈ ag_tbl := ag_in 719 (by decide +kernel) (by decide +kernel)
theorem ag_im_X7_asTold : Cond.instanceMethod yX7_asTold ∈ ag_tbl := ag_in 721 (by decide +kernel) (by decide +kernel)
theorem ag_co_X7_asTold : Cond.code yX7_asTold cX7_asTold 1 none ∈ ag_tbl := ag_in 722 (by decide +kernel) (by decide +kernel)
theorem ag_fl_X7_7 : Cond.fieldLink RX7 7 "AgeLettersModel" "text" "[I" ∈ ag_tbl := ag_in 723 (by decide +kernel) (by decide +kernel)
theorem ag_fl_X7_89 : Cond.fieldLink RX7 89 "AgeLettersModel" "typed" "I" ∈ ag_tbl := ag_in 724 (by decide +kernel) (by decide +kernel)
theorem ag_fl_X7_93 : Cond.fieldLink RX7 93 "AgeLettersModel" "persons" "I" ∈ ag_tbl := ag_in 725 (by decide +kernel) (by decide +kernel)
theorem ag_fl_X7_13 : Cond.fieldLink RX7 13 "AgeLettersModel" "born" "[I" ∈ ag_tbl := ag_in 726 (by decide +kernel) (by decide +kernel)
theorem ag_fl_X7_16 : Cond.fieldLink RX7 16 "AgeLettersModel" "ends" "[I" ∈ ag_tbl := ag_in 727 (by decide +kernel) (by decide +kernel)
theorem ag_fl_X7_19 : Cond.fieldLink RX7 19 "AgeLettersModel" "kinds" "[I" ∈ ag_tbl := ag_in 728 (by decide +kernel) (by decide +kernel)
theorem ag_fl_X7_22 : Cond.fieldLink RX7 22 "AgeLettersModel" "knowsOwn" "[I" ∈ ag_tbl := ag_in 729 (by decide +kernel) (by decide +kernel)
theorem ag_fl_X7_120 : Cond.fieldLink RX7 120 "AgeLettersModel" "letters" "I" ∈ ag_tbl := ag_in 730 (by decide +kernel) (by decide +kernel)
theorem ag_fl_X7_25 : Cond.fieldLink RX7 25 "AgeLettersModel" "writers" "[I" ∈ ag_tbl := ag_in 731 (by decide +kernel) (by decide +kernel)
theorem ag_fl_X7_28 : Cond.fieldLink RX7 28 "AgeLettersModel" "readers" "[I" ∈ ag_tbl := ag_in 732 (by decide +kernel) (by decide +kernel)
theorem ag_fl_X7_31 : Cond.fieldLink RX7 31 "AgeLettersModel" "years" "[I" ∈ ag_tbl := ag_in 733 (by decide +kernel) (by decide +kernel)
theorem ag_fl_X7_34 : Cond.fieldLink RX7 34 "AgeLettersModel" "words" "[I" ∈ ag_tbl := ag_in 734 (by decide +kernel) (by decide +kernel)
theorem ag_fl_X7_37 : Cond.fieldLink RX7 37 "AgeLettersModel" "needs" "[I" ∈ ag_tbl := ag_in 735 (by decide +kernel) (by decide +kernel)
theorem ag_fl_X7_137 : Cond.fieldLink RX7 137 "AgeLettersModel" "some" "I" ∈ ag_tbl := ag_in 736 (by decide +kernel) (by decide +kernel)
theorem ag_fl_X7_140 : Cond.fieldLink RX7 140 "AgeLettersModel" "forger" "I" ∈ ag_tbl := ag_in 737 (by decide +kernel) (by decide +kernel)
theorem ag_fl_X7_143 : Cond.fieldLink RX7 143 "AgeLettersModel" "shorter" "I" ∈ ag_tbl := ag_in 738 (by decide +kernel) (by decide +kernel)
theorem ag_fl_X7_146 : Cond.fieldLink RX7 146 "AgeLettersModel" "longer" "I" ∈ ag_tbl := ag_in 739 (by decide +kernel) (by decide +kernel)
theorem ag_fl_X7_149 : Cond.fieldLink RX7 149 "AgeLettersModel" "trusted" "I" ∈ ag_tbl := ag_in 740 (by decide +kernel) (by decide +kernel)
theorem ag_fl_X7_152 : Cond.fieldLink RX7 152 "AgeLettersModel" "trustedWord" "I" ∈ ag_tbl := ag_in 741 (by decide +kernel) (by decide +kernel)
theorem ag_fl_X7_40 : Cond.fieldLink RX7 40 "AgeLettersModel" "knownNow" "[I" ∈ ag_tbl := ag_in 742 (by decide +kernel) (by decide +kernel)
theorem ag_fl_X7_43 : Cond.fieldLink RX7 43 "AgeLettersModel" "openedIn" "[I" ∈ ag_tbl := ag_in 743 (by decide +kernel) (by decide +kernel)
theorem ag_fl_X7_46 : Cond.fieldLink RX7 46 "AgeLettersModel" "toldIn" "[I" ∈ ag_tbl := ag_in 744 (by decide +kernel) (by decide +kernel)
theorem ag_fl_X7_214 : Cond.fieldLink RX7 214 "AgeLettersModel" "sentLearned" "I" ∈ ag_tbl := ag_in 745 (by decide +kernel) (by decide +kernel)
theorem ag_fl_X7_217 : Cond.fieldLink RX7 217 "AgeLettersModel" "sentBy" "I" ∈ ag_tbl := ag_in 746 (by decide +kernel) (by decide +kernel)
theorem ag_fl_X7_220 : Cond.fieldLink RX7 220 "AgeLettersModel" "sentIn" "I" ∈ ag_tbl := ag_in 747 (by decide +kernel) (by decide +kernel)
theorem ag_fl_X7_49 : Cond.fieldLink RX7 49 "AgeLettersModel" "firstKnown" "[I" ∈ ag_tbl := ag_in 748 (by decide +kernel) (by decide +kernel)
theorem ag_fl_X7_238 : Cond.fieldLink RX7 238 "AgeLettersModel" "dones" "I" ∈ ag_tbl := ag_in 749 (by decide +kernel) (by decide +kernel)
theorem ag_fl_X7_52 : Cond.fieldLink RX7 52 "AgeLettersModel" "doneYear" "[I" ∈ ag_tbl := ag_in 750 (by decide +kernel) (by decide +kernel)
theorem ag_fl_X7_55 : Cond.fieldLink RX7 55 "AgeLettersModel" "donePerson" "[I" ∈ ag_tbl := ag_in 751 (by decide +kernel) (by decide +kernel)
theorem ag_fl_X7_58 : Cond.fieldLink RX7 58 "AgeLettersModel" "doneWord" "[I" ∈ ag_tbl := ag_in 752 (by decide +kernel) (by decide +kernel)
theorem ag_fl_X7_61 : Cond.fieldLink RX7 61 "AgeLettersModel" "doneIs" "[I" ∈ ag_tbl := ag_in 753 (by decide +kernel) (by decide +kernel)
theorem ag_fl_X7_64 : Cond.fieldLink RX7 64 "AgeLettersModel" "isThere" "[Z" ∈ ag_tbl := ag_in 754 (by decide +kernel) (by decide +kernel)
theorem ag_fl_X7_68 : Cond.fieldLink RX7 68 "AgeLettersModel" "forms" "[I" ∈ ag_tbl := ag_in 755 (by decide +kernel) (by decide +kernel)
theorem ag_fl_X7_71 : Cond.fieldLink RX7 71 "AgeLettersModel" "sizes" "[I" ∈ ag_tbl := ag_in 756 (by decide +kernel) (by decide +kernel)
theorem ag_fl_X7_74 : Cond.fieldLink RX7 74 "AgeLettersModel" "items" "[I" ∈ ag_tbl := ag_in 757 (by decide +kernel) (by decide +kernel)
theorem ag_fl_X7_77 : Cond.fieldLink RX7 77 "AgeLettersModel" "moved" "[I" ∈ ag_tbl := ag_in 758 (by decide +kernel) (by decide +kernel)
theorem ag_fl_X7_269 : Cond.fieldLink RX7 269 "AgeLettersModel" "finding" "I" ∈ ag_tbl := ag_in 759 (by decide +kernel) (by decide +kernel)
theorem ag_ac_boolean : Cond.arrayClass .boolean ∈ ag_tbl := ag_in 835 (by decide +kernel) (by decide +kernel)
theorem ag_ml_L_17 : Cond.methodLink RL 17 yX7_type ∈ ag_tbl := ag_in 836 (by decide +kernel) (by decide +kernel)
theorem ag_im_X7_type : Cond.instanceMethod yX7_type ∈ ag_tbl := ag_in 837 (by decide +kernel) (by decide +kernel)
theorem ag_se_X7_type : Cond.selects RX7 yX7_type yX7_type ∈ ag_tbl := ag_in 838 (by decide +kernel) (by decide +kernel)
theorem ag_co_X7_type : Cond.code yX7_type cX7_type 2 (some .int) ∈ ag_tbl := ag_in 839 (by decide +kernel) (by decide +kernel)
theorem ag_ml_X7_85 : Cond.methodLink RX7 85 yX7_in ∈ ag_tbl := ag_in 840 (by decide +kernel) (by decide +kernel)
theorem ag_st_X7_in : Cond.static yX7_in ∈ ag_tbl := ag_in 841 (by decide +kernel) (by decide +kernel)
theorem ag_co_X7_in : Cond.code yX7_in cX7_in 3 (some .boolean) ∈ ag_tbl := ag_in 842 (by decide +kernel) (by decide +kernel)
theorem ag_ml_L_22 : Cond.methodLink RL 22 yX7_wipe ∈ ag_tbl := ag_in 843 (by decide +kernel) (by decide +kernel)
theorem ag_im_X7_wipe : Cond.instanceMethod yX7_wipe ∈ ag_tbl := ag_in 844 (by decide +kernel) (by decide +kernel)
theorem ag_se_X7_wipe : Cond.selects RX7 yX7_wipe yX7_wipe ∈ ag_tbl := ag_in 845 (by decide +kernel) (by decide +kernel)
theorem ag_co_X7_wipe : Cond.code yX7_wipe cX7_wipe 2 (some .int) ∈ ag_tbl := ag_in 846 (by decide +kernel) (by decide +kernel)
theorem ag_ml_L_26 : Cond.methodLink RL 26 yX7_undo ∈ ag_tbl := ag_in 847 (by decide +kernel) (by decide +kernel)
theorem ag_im_X7_undo : Cond.instanceMethod yX7_undo ∈ ag_tbl := ag_in 848 (by decide +kernel) (by decide +kernel)
theorem ag_se_X7_undo : Cond.selects RX7 yX7_undo yX7_undo ∈ ag_tbl := ag_in 849 (by decide +kernel) (by decide +kernel)
theorem ag_co_X7_undo : Cond.code yX7_undo cX7_undo 1 (some .int) ∈ ag_tbl := ag_in 850 (by decide +kernel) (by decide +kernel)
theorem ag_ml_L_30 : Cond.methodLink RL 30 yX7_fault ∈ ag_tbl := ag_in 851 (by decide +kernel) (by decide +kernel)
theorem ag_im_X7_fault : Cond.instanceMethod yX7_fault ∈ ag_tbl := ag_in 852 (by decide +kernel) (by decide +kernel)
theorem ag_se_X7_fault : Cond.selects RX7 yX7_fault yX7_fault ∈ ag_tbl := ag_in 853 (by decide +kernel) (by decide +kernel)
theorem ag_co_X7_fault : Cond.code yX7_fault cX7_fault 1 (some .int) ∈ ag_tbl := ag_in 854 (by decide +kernel) (by decide +kernel)
theorem ag_ml_X7_100 : Cond.methodLink RX7 100 yX7_faultNow ∈ ag_tbl := ag_in 855 (by decide +kernel) (by decide +kernel)
theorem ag_im_X7_faultNow : Cond.instanceMethod yX7_faultNow ∈ ag_tbl := ag_in 857 (by decide +kernel) (by decide +kernel)
theorem ag_co_X7_faultNow : Cond.code yX7_faultNow cX7_faultNow 7 (some .int) ∈ ag_tbl := ag_in 858 (by decide +kernel) (by decide +kernel)
theorem ag_ml_X7_96 : Cond.methodLink RX7 96 yX7_figureAt ∈ ag_tbl := ag_in 859 (by decide +kernel) (by decide +kernel)
theorem ag_im_X7_figureAt : Cond.instanceMethod yX7_figureAt ∈ ag_tbl := ag_in 861 (by decide +kernel) (by decide +kernel)
theorem ag_co_X7_figureAt : Cond.code yX7_figureAt cX7_figureAt 3 (some .int) ∈ ag_tbl := ag_in 862 (by decide +kernel) (by decide +kernel)
theorem ag_ml_L_35 : Cond.methodLink RL 35 yX7_person ∈ ag_tbl := ag_in 863 (by decide +kernel) (by decide +kernel)
theorem ag_im_X7_person : Cond.instanceMethod yX7_person ∈ ag_tbl := ag_in 864 (by decide +kernel) (by decide +kernel)
theorem ag_se_X7_person : Cond.selects RX7 yX7_person yX7_person ∈ ag_tbl := ag_in 865 (by decide +kernel) (by decide +kernel)
theorem ag_co_X7_person : Cond.code yX7_person cX7_person 3 (some .int) ∈ ag_tbl := ag_in 866 (by decide +kernel) (by decide +kernel)
theorem ag_ml_X7_107 : Cond.methodLink RX7 107 yX7_isPerson ∈ ag_tbl := ag_in 867 (by decide +kernel) (by decide +kernel)
theorem ag_im_X7_isPerson : Cond.instanceMethod yX7_isPerson ∈ ag_tbl := ag_in 869 (by decide +kernel) (by decide +kernel)
theorem ag_co_X7_isPerson : Cond.code yX7_isPerson cX7_isPerson 2 (some .boolean) ∈ ag_tbl := ag_in 870 (by decide +kernel) (by decide +kernel)
theorem ag_ml_X7_104 : Cond.methodLink RX7 104 yX7_reads ∈ ag_tbl := ag_in 871 (by decide +kernel) (by decide +kernel)
theorem ag_im_X7_reads : Cond.instanceMethod yX7_reads ∈ ag_tbl := ag_in 873 (by decide +kernel) (by decide +kernel)
theorem ag_co_X7_reads : Cond.code yX7_reads cX7_reads 2 none ∈ ag_tbl := ag_in 874 (by decide +kernel) (by decide +kernel)
theorem ag_ml_L_39 : Cond.methodLink RL 39 yX7_knows ∈ ag_tbl := ag_in 875 (by decide +kernel) (by decide +kernel)
theorem ag_im_X7_knows : Cond.instanceMethod yX7_knows ∈ ag_tbl := ag_in 876 (by decide +kernel) (by decide +kernel)
theorem ag_se_X7_knows : Cond.selects RX7 yX7_knows yX7_knows ∈ ag_tbl := ag_in 877 (by decide +kernel) (by decide +kernel)
theorem ag_co_X7_knows : Cond.code yX7_knows cX7_knows 4 (some .int) ∈ ag_tbl := ag_in 878 (by decide +kernel) (by decide +kernel)
theorem ag_ml_X7_111 : Cond.methodLink RX7 111 yX7_isTen ∈ ag_tbl := ag_in 879 (by decide +kernel) (by decide +kernel)
theorem ag_st_X7_isTen : Cond.static yX7_isTen ∈ ag_tbl := ag_in 880 (by decide +kernel) (by decide +kernel)
theorem ag_co_X7_isTen : Cond.code yX7_isTen cX7_isTen 1 (some .boolean) ∈ ag_tbl := ag_in 881 (by decide +kernel) (by decide +kernel)
theorem ag_ml_L_44 : Cond.methodLink RL 44 yX7_letter ∈ ag_tbl := ag_in 882 (by decide +kernel) (by decide +kernel)
theorem ag_im_X7_letter : Cond.instanceMethod yX7_letter ∈ ag_tbl := ag_in 883 (by decide +kernel) (by decide +kernel)
theorem ag_se_X7_letter : Cond.selects RX7 yX7_letter yX7_letter ∈ ag_tbl := ag_in 884 (by decide +kernel) (by decide +kernel)
theorem ag_co_X7_letter : Cond.code yX7_letter cX7_letter 6 (some .int) ∈ ag_tbl := ag_in 885 (by decide +kernel) (by decide +kernel)
theorem ag_ml_X7_114 : Cond.methodLink RX7 114 yX7_isYear ∈ ag_tbl := ag_in 886 (by decide +kernel) (by decide +kernel)
theorem ag_st_X7_isYear : Cond.static yX7_isYear ∈ ag_tbl := ag_in 887 (by decide +kernel) (by decide +kernel)
theorem ag_co_X7_isYear : Cond.code yX7_isYear cX7_isYear 1 (some .boolean) ∈ ag_tbl := ag_in 888 (by decide +kernel) (by decide +kernel)
theorem ag_ml_X7_117 : Cond.methodLink RX7 117 yX7_isWord ∈ ag_tbl := ag_in 889 (by decide +kernel) (by decide +kernel)
theorem ag_st_X7_isWord : Cond.static yX7_isWord ∈ ag_tbl := ag_in 890 (by decide +kernel) (by decide +kernel)
theorem ag_co_X7_isWord : Cond.code yX7_isWord cX7_isWord 1 (some .boolean) ∈ ag_tbl := ag_in 891 (by decide +kernel) (by decide +kernel)
theorem ag_ml_X7_123 : Cond.methodLink RX7 123 yX7_lays ∈ ag_tbl := ag_in 892 (by decide +kernel) (by decide +kernel)
theorem ag_im_X7_lays : Cond.instanceMethod yX7_lays ∈ ag_tbl := ag_in 894 (by decide +kernel) (by decide +kernel)
theorem ag_co_X7_lays : Cond.code yX7_lays cX7_lays 7 none ∈ ag_tbl := ag_in 895 (by decide +kernel) (by decide +kernel)
theorem ag_ml_L_48 : Cond.methodLink RL 48 yX7_back ∈ ag_tbl := ag_in 896 (by decide +kernel) (by decide +kernel)
theorem ag_im_X7_back : Cond.instanceMethod yX7_back ∈ ag_tbl := ag_in 897 (by decide +kernel) (by decide +kernel)
theorem ag_se_X7_back : Cond.selects RX7 yX7_back yX7_back ∈ ag_tbl := ag_in 898 (by decide +kernel) (by decide +kernel)
theorem ag_co_X7_back : Cond.code yX7_back cX7_back 1 (some .int) ∈ ag_tbl := ag_in 899 (by decide +kernel) (by decide +kernel)
theorem ag_ml_L_52 : Cond.methodLink RL 52 yX7_read ∈ ag_tbl := ag_in 900 (by decide +kernel) (by decide +kernel)
theorem ag_im_X7_read : Cond.instanceMethod yX7_read ∈ ag_tbl := ag_in 901 (by decide +kernel) (by decide +kernel)
theorem ag_se_X7_read : Cond.selects RX7 yX7_read yX7_read ∈ ag_tbl := ag_in 902 (by decide +kernel) (by decide +kernel)
theorem ag_co_X7_read : Cond.code yX7_read cX7_read 5 (some .int) ∈ ag_tbl := ag_in 903 (by decide +kernel) (by decide +kernel)
theorem ag_ml_X7_127 : Cond.methodLink RX7 127 yX7_isSheet ∈ ag_tbl := ag_in 904 (by decide +kernel) (by decide +kernel)
theorem ag_st_X7_isSheet : Cond.static yX7_isSheet ∈ ag_tbl := ag_in 905 (by decide +kernel) (by decide +kernel)
theorem ag_co_X7_isSheet : Cond.code yX7_isSheet cX7_isSheet 1 (some .boolean) ∈ ag_tbl := ag_in 906 (by decide +kernel) (by decide +kernel)
theorem ag_ml_X7_130 : Cond.methodLink RX7 130 yX7_meets ∈ ag_tbl := ag_in 907 (by decide +kernel) (by decide +kernel)
theorem ag_im_X7_meets : Cond.instanceMethod yX7_meets ∈ ag_tbl := ag_in 909 (by decide +kernel) (by decide +kernel)
theorem ag_co_X7_meets : Cond.code yX7_meets cX7_meets 2 (some .int) ∈ ag_tbl := ag_in 910 (by decide +kernel) (by decide +kernel)
theorem ag_ml_X7_133 : Cond.methodLink RX7 133 yX7_letter ∈ ag_tbl := ag_in 911 (by decide +kernel) (by decide +kernel)
theorem ag_ml_L_56 : Cond.methodLink RL 56 yX7_age ∈ ag_tbl := ag_in 912 (by decide +kernel) (by decide +kernel)
theorem ag_im_X7_age : Cond.instanceMethod yX7_age ∈ ag_tbl := ag_in 913 (by decide +kernel) (by decide +kernel)
theorem ag_se_X7_age : Cond.selects RX7 yX7_age yX7_age ∈ ag_tbl := ag_in 914 (by decide +kernel) (by decide +kernel)
theorem ag_co_X7_age : Cond.code yX7_age cX7_age 3 (some .int) ∈ ag_tbl := ag_in 915 (by decide +kernel) (by decide +kernel)
theorem ag_ml_X7_176 : Cond.methodLink RX7 176 yX7_ageOf ∈ ag_tbl := ag_in 916 (by decide +kernel) (by decide +kernel)
theorem ag_im_X7_ageOf : Cond.instanceMethod yX7_ageOf ∈ ag_tbl := ag_in 918 (by decide +kernel) (by decide +kernel)
theorem ag_co_X7_ageOf : Cond.code yX7_ageOf cX7_ageOf 3 (some .int) ∈ ag_tbl := ag_in 919 (by decide +kernel) (by decide +kernel)
theorem ag_ml_X7_162 : Cond.methodLink RX7 162 yX7_lives ∈ ag_tbl := ag_in 920 (by decide +kernel) (by decide +kernel)
theorem ag_im_X7_lives : Cond.instanceMethod yX7_lives ∈ ag_tbl := ag_in 922 (by decide +kernel) (by decide +kernel)
theorem ag_co_X7_lives : Cond.code yX7_lives cX7_lives 3 (some .boolean) ∈ ag_tbl := ag_in 923 (by decide +kernel) (by decide +kernel)
theorem ag_ml_X7_159 : Cond.methodLink RX7 159 yX7_endOf ∈ ag_tbl := ag_in 924 (by decide +kernel) (by decide +kernel)
theorem ag_im_X7_endOf : Cond.instanceMethod yX7_endOf ∈ ag_tbl := ag_in 926 (by decide +kernel) (by decide +kernel)
theorem ag_co_X7_endOf : Cond.code yX7_endOf cX7_endOf 3 (some .int) ∈ ag_tbl := ag_in 927 (by decide +kernel) (by decide +kernel)
theorem ag_ml_X7_155 : Cond.methodLink RX7 155 yX7_isIn ∈ ag_tbl := ag_in 928 (by decide +kernel) (by decide +kernel)
theorem ag_st_X7_isIn : Cond.static yX7_isIn ∈ ag_tbl := ag_in 929 (by decide +kernel) (by decide +kernel)
theorem ag_co_X7_isIn : Cond.code yX7_isIn cX7_isIn 2 (some .boolean) ∈ ag_tbl := ag_in 930 (by decide +kernel) (by decide +kernel)
theorem ag_ml_X7_165 : Cond.methodLink RX7 165 yX7_tells ∈ ag_tbl := ag_in 931 (by decide +kernel) (by decide +kernel)
theorem ag_im_X7_tells : Cond.instanceMethod yX7_tells ∈ ag_tbl := ag_in 933 (by decide +kernel) (by decide +kernel)
theorem ag_co_X7_tells : Cond.code yX7_tells cX7_tells 4 (some .int) ∈ ag_tbl := ag_in 934 (by decide +kernel) (by decide +kernel)
theorem ag_ml_L_60 : Cond.methodLink RL 60 yX7_opened ∈ ag_tbl := ag_in 935 (by decide +kernel) (by decide +kernel)
theorem ag_im_X7_opened : Cond.instanceMethod yX7_opened ∈ ag_tbl := ag_in 936 (by decide +kernel) (by decide +kernel)
theorem ag_se_X7_opened : Cond.selects RX7 yX7_opened yX7_opened ∈ ag_tbl := ag_in 937 (by decide +kernel) (by decide +kernel)
theorem ag_co_X7_opened : Cond.code yX7_opened cX7_opened 2 (some .int) ∈ ag_tbl := ag_in 938 (by decide +kernel) (by decide +kernel)
theorem ag_ml_X7_183 : Cond.methodLink RX7 183 yX7_openedOf ∈ ag_tbl := ag_in 939 (by decide +kernel) (by decide +kernel)
theorem ag_im_X7_openedOf : Cond.instanceMethod yX7_openedOf ∈ ag_tbl := ag_in 941 (by decide +kernel) (by decide +kernel)
theorem ag_co_X7_openedOf : Cond.code yX7_openedOf cX7_openedOf 2 (some .int) ∈ ag_tbl := ag_in 942 (by decide +kernel) (by decide +kernel)
theorem ag_ml_X7_179 : Cond.methodLink RX7 179 yX7_runsTo ∈ ag_tbl := ag_in 943 (by decide +kernel) (by decide +kernel)
theorem ag_im_X7_runsTo : Cond.instanceMethod yX7_runsTo ∈ ag_tbl := ag_in 945 (by decide +kernel) (by decide +kernel)
theorem ag_co_X7_runsTo : Cond.code yX7_runsTo cX7_runsTo 2 none ∈ ag_tbl := ag_in 946 (by decide +kernel) (by decide +kernel)
theorem ag_ml_X7_173 : Cond.methodLink RX7 173 yX7_runs ∈ ag_tbl := ag_in 947 (by decide +kernel) (by decide +kernel)
theorem ag_im_X7_runs : Cond.instanceMethod yX7_runs ∈ ag_tbl := ag_in 949 (by decide +kernel) (by decide +kernel)
theorem ag_co_X7_runs : Cond.code yX7_runs cX7_runs 6 none ∈ ag_tbl := ag_in 950 (by decide +kernel) (by decide +kernel)
theorem ag_ml_X7_169 : Cond.methodLink RX7 169 yX7_opens ∈ ag_tbl := ag_in 951 (by decide +kernel) (by decide +kernel)
theorem ag_im_X7_opens : Cond.instanceMethod yX7_opens ∈ ag_tbl := ag_in 953 (by decide +kernel) (by decide +kernel)
theorem ag_co_X7_opens : Cond.code yX7_opens cX7_opens 7 none ∈ ag_tbl := ag_in 954 (by decide +kernel) (by decide +kernel)
theorem ag_ml_L_64 : Cond.methodLink RL 64 yX7_written ∈ ag_tbl := ag_in 955 (by decide +kernel) (by decide +kernel)
theorem ag_im_X7_written : Cond.instanceMethod yX7_written ∈ ag_tbl := ag_in 956 (by decide +kernel) (by decide +kernel)
theorem ag_se_X7_written : Cond.selects RX7 yX7_written yX7_written ∈ ag_tbl := ag_in 957 (by decide +kernel) (by decide +kernel)
theorem ag_co_X7_written : Cond.code yX7_written cX7_written 2 (some .int) ∈ ag_tbl := ag_in 958 (by decide +kernel) (by decide +kernel)
theorem ag_ml_X7_186 : Cond.methodLink RX7 186 yX7_writtenOf ∈ ag_tbl := ag_in 959 (by decide +kernel) (by decide +kernel)
theorem ag_im_X7_writtenOf : Cond.instanceMethod yX7_writtenOf ∈ ag_tbl := ag_in 961 (by decide +kernel) (by decide +kernel)
theorem ag_co_X7_writtenOf : Cond.code yX7_writtenOf cX7_writtenOf 2 (some .int) ∈ ag_tbl := ag_in 962 (by decide +kernel) (by decide +kernel)
theorem ag_ml_L_68 : Cond.methodLink RL 68 yX7_waits ∈ ag_tbl := ag_in 963 (by decide +kernel) (by decide +kernel)
theorem ag_im_X7_waits : Cond.instanceMethod yX7_waits ∈ ag_tbl := ag_in 964 (by decide +kernel) (by decide +kernel)
theorem ag_se_X7_waits : Cond.selects RX7 yX7_waits yX7_waits ∈ ag_tbl := ag_in 965 (by decide +kernel) (by decide +kernel)
theorem ag_co_X7_waits : Cond.code yX7_waits cX7_waits 3 (some .int) ∈ ag_tbl := ag_in 966 (by decide +kernel) (by decide +kernel)
theorem ag_ml_X7_192 : Cond.methodLink RX7 192 yX7_waitsOf ∈ ag_tbl := ag_in 967 (by decide +kernel) (by decide +kernel)
theorem ag_im_X7_waitsOf : Cond.instanceMethod yX7_waitsOf ∈ ag_tbl := ag_in 969 (by decide +kernel) (by decide +kernel)
theorem ag_co_X7_waitsOf : Cond.code yX7_waitsOf cX7_waitsOf 3 (some .int) ∈ ag_tbl := ag_in 970 (by decide +kernel) (by decide +kernel)
theorem ag_ml_X7_189 : Cond.methodLink RX7 189 yX7_bitsNow ∈ ag_tbl := ag_in 971 (by decide +kernel) (by decide +kernel)
theorem ag_im_X7_bitsNow : Cond.instanceMethod yX7_bitsNow ∈ ag_tbl := ag_in 973 (by decide +kernel) (by decide +kernel)
theorem ag_co_X7_bitsNow : Cond.code yX7_bitsNow cX7_bitsNow 5 (some .int) ∈ ag_tbl := ag_in 974 (by decide +kernel) (by decide +kernel)
theorem ag_ml_L_72 : Cond.methodLink RL 72 yX7_known ∈ ag_tbl := ag_in 975 (by decide +kernel) (by decide +kernel)
theorem ag_im_X7_known : Cond.instanceMethod yX7_known ∈ ag_tbl := ag_in 976 (by decide +kernel) (by decide +kernel)
theorem ag_se_X7_known : Cond.selects RX7 yX7_known yX7_known ∈ ag_tbl := ag_in 977 (by decide +kernel) (by decide +kernel)
theorem ag_co_X7_known : Cond.code yX7_known cX7_known 3 (some .int) ∈ ag_tbl := ag_in 978 (by decide +kernel) (by decide +kernel)
theorem ag_ml_X7_195 : Cond.methodLink RX7 195 yX7_knownOf ∈ ag_tbl := ag_in 979 (by decide +kernel) (by decide +kernel)
theorem ag_im_X7_knownOf : Cond.instanceMethod yX7_knownOf ∈ ag_tbl := ag_in 981 (by decide +kernel) (by decide +kernel)
theorem ag_co_X7_knownOf : Cond.code yX7_knownOf cX7_knownOf 3 (some .int) ∈ ag_tbl := ag_in 982 (by decide +kernel) (by decide +kernel)
theorem ag_ml_L_76 : Cond.methodLink RL 76 yX7_learned ∈ ag_tbl := ag_in 983 (by decide +kernel) (by decide +kernel)
theorem ag_im_X7_learned : Cond.instanceMethod yX7_learned ∈ ag_tbl := ag_in 984 (by decide +kernel) (by decide +kernel)
theorem ag_se_X7_learned : Cond.selects RX7 yX7_learned yX7_learned ∈ ag_tbl := ag_in 985 (by decide +kernel) (by decide +kernel)
theorem ag_co_X7_learned : Cond.code yX7_learned cX7_learned 3 (some .int) ∈ ag_tbl := ag_in 986 (by decide +kernel) (by decide +kernel)
theorem ag_ml_X7_202 : Cond.methodLink RX7 202 yX7_learnedOf ∈ ag_tbl := ag_in 987 (by decide +kernel) (by decide +kernel)
theorem ag_im_X7_learnedOf : Cond.instanceMethod yX7_learnedOf ∈ ag_tbl := ag_in 989 (by decide +kernel) (by decide +kernel)
theorem ag_co_X7_learnedOf : Cond.code yX7_learnedOf cX7_learnedOf 3 (some .int) ∈ ag_tbl := ag_in 990 (by decide +kernel) (by decide +kernel)
theorem ag_ml_X7_198 : Cond.methodLink RX7 198 yX7_learnsIn ∈ ag_tbl := ag_in 991 (by decide +kernel) (by decide +kernel)
theorem ag_im_X7_learnsIn : Cond.instanceMethod yX7_learnsIn ∈ ag_tbl := ag_in 993 (by decide +kernel) (by decide +kernel)
theorem ag_co_X7_learnsIn : Cond.code yX7_learnsIn cX7_learnsIn 8 (some .int) ∈ ag_tbl := ag_in 994 (by decide +kernel) (by decide +kernel)
theorem ag_ml_L_80 : Cond.methodLink RL 80 yX7_sealed ∈ ag_tbl := ag_in 995 (by decide +kernel) (by decide +kernel)
theorem ag_im_X7_sealed : Cond.instanceMethod yX7_sealed ∈ ag_tbl := ag_in 996 (by decide +kernel) (by decide +kernel)
theorem ag_se_X7_sealed : Cond.selects RX7 yX7_sealed yX7_sealed ∈ ag_tbl := ag_in 997 (by decide +kernel) (by decide +kernel)
theorem ag_co_X7_sealed : Cond.code yX7_sealed cX7_sealed 1 (some .int) ∈ ag_tbl := ag_in 998 (by decide +kernel) (by decide +kernel)
theorem ag_ml_X7_205 : Cond.methodLink RX7 205 yX7_sealedNow ∈ ag_tbl := ag_in 999 (by decide +kernel) (by decide +kernel)
theorem ag_im_X7_sealedNow : Cond.instanceMethod yX7_sealedNow ∈ ag_tbl := ag_in 1001 (by decide +kernel) (by decide +kernel)
theorem ag_co_X7_sealedNow : Cond.code yX7_sealedNow cX7_sealedNow 1 (some .int) ∈ ag_tbl := ag_in 1002 (by decide +kernel) (by decide +kernel)
theorem ag_ml_L_84 : Cond.methodLink RL 84 yX7_loud ∈ ag_tbl := ag_in 1003 (by decide +kernel) (by decide +kernel)
theorem ag_im_X7_loud : Cond.instanceMethod yX7_loud ∈ ag_tbl := ag_in 1004 (by decide +kernel) (by decide +kernel)
theorem ag_se_X7_loud : Cond.selects RX7 yX7_loud yX7_loud ∈ ag_tbl := ag_in 1005 (by decide +kernel) (by decide +kernel)
theorem ag_co_X7_loud : Cond.code yX7_loud cX7_loud 2 (some .int) ∈ ag_tbl := ag_in 1006 (by decide +kernel) (by decide +kernel)
theorem ag_ml_X7_208 : Cond.methodLink RX7 208 yX7_loudOf ∈ ag_tbl := ag_in 1007 (by decide +kernel) (by decide +kernel)
theorem ag_im_X7_loudOf : Cond.instanceMethod yX7_loudOf ∈ ag_tbl := ag_in 1009 (by decide +kernel) (by decide +kernel)
theorem ag_co_X7_loudOf : Cond.code yX7_loudOf cX7_loudOf 7 (some .int) ∈ ag_tbl := ag_in 1010 (by decide +kernel) (by decide +kernel)
theorem ag_ml_L_88 : Cond.methodLink RL 88 yX7_tooSoon ∈ ag_tbl := ag_in 1011 (by decide +kernel) (by decide +kernel)
theorem ag_im_X7_tooSoon : Cond.instanceMethod yX7_tooSoon ∈ ag_tbl := ag_in 1012 (by decide +kernel) (by decide +kernel)
theorem ag_se_X7_tooSoon : Cond.selects RX7 yX7_tooSoon yX7_tooSoon ∈ ag_tbl := ag_in 1013 (by decide +kernel) (by decide +kernel)
theorem ag_co_X7_tooSoon : Cond.code yX7_tooSoon cX7_tooSoon 1 (some .int) ∈ ag_tbl := ag_in 1014 (by decide +kernel) (by decide +kernel)
theorem ag_ml_X7_211 : Cond.methodLink RX7 211 yX7_tooSoonNow ∈ ag_tbl := ag_in 1015 (by decide +kernel) (by decide +kernel)
theorem ag_im_X7_tooSoonNow : Cond.instanceMethod yX7_tooSoonNow ∈ ag_tbl := ag_in 1017 (by decide +kernel) (by decide +kernel)
theorem ag_co_X7_tooSoonNow : Cond.code yX7_tooSoonNow cX7_tooSoonNow 4 (some .int) ∈ ag_tbl := ag_in 1018 (by decide +kernel) (by decide +kernel)
theorem ag_ml_L_93 : Cond.methodLink RL 93 yX7_send ∈ ag_tbl := ag_in 1019 (by decide +kernel) (by decide +kernel)
theorem ag_im_X7_send : Cond.instanceMethod yX7_send ∈ ag_tbl := ag_in 1020 (by decide +kernel) (by decide +kernel)
theorem ag_se_X7_send : Cond.selects RX7 yX7_send yX7_send ∈ ag_tbl := ag_in 1021 (by decide +kernel) (by decide +kernel)
theorem ag_co_X7_send : Cond.code yX7_send cX7_send 4 (some .int) ∈ ag_tbl := ag_in 1022 (by decide +kernel) (by decide +kernel)
theorem ag_ml_X7_226 : Cond.methodLink RX7 226 yX7_sendOf ∈ ag_tbl := ag_in 1023 (by decide +kernel) (by decide +kernel)
theorem ag_im_X7_sendOf : Cond.instanceMethod yX7_sendOf ∈ ag_tbl := ag_in 1025 (by decide +kernel) (by decide +kernel)
theorem ag_co_X7_sendOf : Cond.code yX7_sendOf cX7_sendOf 4 (some .int) ∈ ag_tbl := ag_in 1026 (by decide +kernel) (by decide +kernel)
theorem ag_ml_X7_223 : Cond.methodLink RX7 223 yX7_sends ∈ ag_tbl := ag_in 1027 (by decide +kernel) (by decide +kernel)
theorem ag_im_X7_sends : Cond.instanceMethod yX7_sends ∈ ag_tbl := ag_in 1029 (by decide +kernel) (by decide +kernel)
theorem ag_co_X7_sends : Cond.code yX7_sends cX7_sends 9 none ∈ ag_tbl := ag_in 1030 (by decide +kernel) (by decide +kernel)
theorem ag_ml_L_97 : Cond.methodLink RL 97 yX7_trust ∈ ag_tbl := ag_in 1031 (by decide +kernel) (by decide +kernel)
theorem ag_im_X7_trust : Cond.instanceMethod yX7_trust ∈ ag_tbl := ag_in 1032 (by decide +kernel) (by decide +kernel)
theorem ag_se_X7_trust : Cond.selects RX7 yX7_trust yX7_trust ∈ ag_tbl := ag_in 1033 (by decide +kernel) (by decide +kernel)
theorem ag_co_X7_trust : Cond.code yX7_trust cX7_trust 3 (some .int) ∈ ag_tbl := ag_in 1034 (by decide +kernel) (by decide +kernel)
theorem ag_ml_X7_232 : Cond.methodLink RX7 232 yX7_trustOf ∈ ag_tbl := ag_in 1035 (by decide +kernel) (by decide +kernel)
theorem ag_im_X7_trustOf : Cond.instanceMethod yX7_trustOf ∈ ag_tbl := ag_in 1037 (by decide +kernel) (by decide +kernel)
theorem ag_co_X7_trustOf : Cond.code yX7_trustOf cX7_trustOf 5 (some .int) ∈ ag_tbl := ag_in 1038 (by decide +kernel) (by decide +kernel)
theorem ag_ml_X7_229 : Cond.methodLink RX7 229 yX7_ones ∈ ag_tbl := ag_in 1039 (by decide +kernel) (by decide +kernel)
theorem ag_st_X7_ones : Cond.static yX7_ones ∈ ag_tbl := ag_in 1040 (by decide +kernel) (by decide +kernel)
theorem ag_co_X7_ones : Cond.code yX7_ones cX7_ones 3 (some .int) ∈ ag_tbl := ag_in 1041 (by decide +kernel) (by decide +kernel)
theorem ag_ml_L_101 : Cond.methodLink RL 101 yX7_teach ∈ ag_tbl := ag_in 1042 (by decide +kernel) (by decide +kernel)
theorem ag_im_X7_teach : Cond.instanceMethod yX7_teach ∈ ag_tbl := ag_in 1043 (by decide +kernel) (by decide +kernel)
theorem ag_se_X7_teach : Cond.selects RX7 yX7_teach yX7_teach ∈ ag_tbl := ag_in 1044 (by decide +kernel) (by decide +kernel)
theorem ag_co_X7_teach : Cond.code yX7_teach cX7_teach 4 (some .int) ∈ ag_tbl := ag_in 1045 (by decide +kernel) (by decide +kernel)
theorem ag_ml_X7_235 : Cond.methodLink RX7 235 yX7_teachOf ∈ ag_tbl := ag_in 1046 (by decide +kernel) (by decide +kernel)
theorem ag_im_X7_teachOf : Cond.instanceMethod yX7_teachOf ∈ ag_tbl := ag_in 1048 (by decide +kernel) (by decide +kernel)
theorem ag_co_X7_teachOf : Cond.code yX7_teachOf cX7_teachOf 6 (some .int) ∈ ag_tbl := ag_in 1049 (by decide +kernel) (by decide +kernel)
theorem ag_ml_L_106 : Cond.methodLink RL 106 yX7_done ∈ ag_tbl := ag_in 1050 (by decide +kernel) (by decide +kernel)
theorem ag_im_X7_done : Cond.instanceMethod yX7_done ∈ ag_tbl := ag_in 1051 (by decide +kernel) (by decide +kernel)
theorem ag_se_X7_done : Cond.selects RX7 yX7_done yX7_done ∈ ag_tbl := ag_in 1052 (by decide +kernel) (by decide +kernel)
theorem ag_co_X7_done : Cond.code yX7_done cX7_done 5 (some .int) ∈ ag_tbl := ag_in 1053 (by decide +kernel) (by decide +kernel)
theorem ag_ml_L_110 : Cond.methodLink RL 110 yX7_forget ∈ ag_tbl := ag_in 1054 (by decide +kernel) (by decide +kernel)
theorem ag_im_X7_forget : Cond.instanceMethod yX7_forget ∈ ag_tbl := ag_in 1055 (by decide +kernel) (by decide +kernel)
theorem ag_se_X7_forget : Cond.selects RX7 yX7_forget yX7_forget ∈ ag_tbl := ag_in 1056 (by decide +kernel) (by decide +kernel)
theorem ag_co_X7_forget : Cond.code yX7_forget cX7_forget 2 (some .int) ∈ ag_tbl := ag_in 1057 (by decide +kernel) (by decide +kernel)
theorem ag_ml_L_114 : Cond.methodLink RL 114 yX7_said ∈ ag_tbl := ag_in 1058 (by decide +kernel) (by decide +kernel)
theorem ag_im_X7_said : Cond.instanceMethod yX7_said ∈ ag_tbl := ag_in 1059 (by decide +kernel) (by decide +kernel)
theorem ag_se_X7_said : Cond.selects RX7 yX7_said yX7_said ∈ ag_tbl := ag_in 1060 (by decide +kernel) (by decide +kernel)
theorem ag_co_X7_said : Cond.code yX7_said cX7_said 2 (some .int) ∈ ag_tbl := ag_in 1061 (by decide +kernel) (by decide +kernel)
theorem ag_ml_X7_245 : Cond.methodLink RX7 245 yX7_saidOf ∈ ag_tbl := ag_in 1062 (by decide +kernel) (by decide +kernel)
theorem ag_im_X7_saidOf : Cond.instanceMethod yX7_saidOf ∈ ag_tbl := ag_in 1064 (by decide +kernel) (by decide +kernel)
theorem ag_co_X7_saidOf : Cond.code yX7_saidOf cX7_saidOf 5 (some .int) ∈ ag_tbl := ag_in 1065 (by decide +kernel) (by decide +kernel)
theorem ag_ml_X7_241 : Cond.methodLink RX7 241 yX7_isDone ∈ ag_tbl := ag_in 1066 (by decide +kernel) (by decide +kernel)
theorem ag_im_X7_isDone : Cond.instanceMethod yX7_isDone ∈ ag_tbl := ag_in 1068 (by decide +kernel) (by decide +kernel)
theorem ag_co_X7_isDone : Cond.code yX7_isDone cX7_isDone 3 (some .boolean) ∈ ag_tbl := ag_in 1069 (by decide +kernel) (by decide +kernel)
theorem ag_ml_L_118 : Cond.methodLink RL 118 yX7_forged ∈ ag_tbl := ag_in 1070 (by decide +kernel) (by decide +kernel)
theorem ag_im_X7_forged : Cond.instanceMethod yX7_forged ∈ ag_tbl := ag_in 1071 (by decide +kernel) (by decide +kernel)
theorem ag_se_X7_forged : Cond.selects RX7 yX7_forged yX7_forged ∈ ag_tbl := ag_in 1072 (by decide +kernel) (by decide +kernel)
theorem ag_co_X7_forged : Cond.code yX7_forged cX7_forged 1 (some .int) ∈ ag_tbl := ag_in 1073 (by decide +kernel) (by decide +kernel)
theorem ag_ml_X7_248 : Cond.methodLink RX7 248 yX7_forgedNow ∈ ag_tbl := ag_in 1074 (by decide +kernel) (by decide +kernel)
theorem ag_im_X7_forgedNow : Cond.instanceMethod yX7_forgedNow ∈ ag_tbl := ag_in 1076 (by decide +kernel) (by decide +kernel)
theorem ag_co_X7_forgedNow : Cond.code yX7_forgedNow cX7_forgedNow 3 (some .int) ∈ ag_tbl := ag_in 1077 (by decide +kernel) (by decide +kernel)
theorem ag_ml_L_123 : Cond.methodLink RL 123 yX7_chance ∈ ag_tbl := ag_in 1078 (by decide +kernel) (by decide +kernel)
theorem ag_im_X7_chance : Cond.instanceMethod yX7_chance ∈ ag_tbl := ag_in 1079 (by decide +kernel) (by decide +kernel)
theorem ag_se_X7_chance : Cond.selects RX7 yX7_chance yX7_chance ∈ ag_tbl := ag_in 1080 (by decide +kernel) (by decide +kernel)
theorem ag_co_X7_chance : Cond.code yX7_chance cX7_chance 6 (some .long) ∈ ag_tbl := ag_in 1081 (by decide +kernel) (by decide +kernel)
theorem ag_ml_X7_257 : Cond.methodLink RX7 257 yX7_chanceOf ∈ ag_tbl := ag_in 1082 (by decide +kernel) (by decide +kernel)
theorem ag_im_X7_chanceOf : Cond.instanceMethod yX7_chanceOf ∈ ag_tbl := ag_in 1084 (by decide +kernel) (by decide +kernel)
theorem ag_co_X7_chanceOf : Cond.code yX7_chanceOf cX7_chanceOf 13 (some .long) ∈ ag_tbl := ag_in 1085 (by decide +kernel) (by decide +kernel)
theorem ag_kl_X7_251 : Cond.constantLong RX7 251 (16) ∈ ag_tbl := ag_in 1086 (by decide +kernel) (by decide +kernel)
theorem ag_ml_X7_253 : Cond.methodLink RX7 253 yX7_lowest ∈ ag_tbl := ag_in 1087 (by decide +kernel) (by decide +kernel)
theorem ag_st_X7_lowest : Cond.static yX7_lowest ∈ ag_tbl := ag_in 1088 (by decide +kernel) (by decide +kernel)
theorem ag_co_X7_lowest : Cond.code yX7_lowest cX7_lowest 11 (some .long) ∈ ag_tbl := ag_in 1089 (by decide +kernel) (by decide +kernel)
theorem ag_ml_X7_261 : Cond.methodLink RX7 261 yX7_no ∈ ag_tbl := ag_in 1090 (by decide +kernel) (by decide +kernel)
theorem ag_st_X7_no : Cond.static yX7_no ∈ ag_tbl := ag_in 1091 (by decide +kernel) (by decide +kernel)
theorem ag_co_X7_no : Cond.code yX7_no cX7_no 1 (some .long) ∈ ag_tbl := ag_in 1092 (by decide +kernel) (by decide +kernel)
theorem ag_kl_X7_83 : Cond.constantLong RX7 83 (-9223372036854775808) ∈ ag_tbl := ag_in 1093 (by decide +kernel) (by decide +kernel)
theorem ag_ml_L_127 : Cond.methodLink RL 127 yX7_drawn ∈ ag_tbl := ag_in 1094 (by decide +kernel) (by decide +kernel)
theorem ag_im_X7_drawn : Cond.instanceMethod yX7_drawn ∈ ag_tbl := ag_in 1095 (by decide +kernel) (by decide +kernel)
theorem ag_se_X7_drawn : Cond.selects RX7 yX7_drawn yX7_drawn ∈ ag_tbl := ag_in 1096 (by decide +kernel) (by decide +kernel)
theorem ag_co_X7_drawn : Cond.code yX7_drawn cX7_drawn 3 (some .int) ∈ ag_tbl := ag_in 1097 (by decide +kernel) (by decide +kernel)
theorem ag_ml_X7_266 : Cond.methodLink RX7 266 yX7_drawnOf ∈ ag_tbl := ag_in 1098 (by decide +kernel) (by decide +kernel)
theorem ag_im_X7_drawnOf : Cond.instanceMethod yX7_drawnOf ∈ ag_tbl := ag_in 1100 (by decide +kernel) (by decide +kernel)
theorem ag_co_X7_drawnOf : Cond.code yX7_drawnOf cX7_drawnOf 6 (some .int) ∈ ag_tbl := ag_in 1101 (by decide +kernel) (by decide +kernel)
theorem ag_kc_X7_265 : Cond.constant RX7 265 (1103515245) ∈ ag_tbl := ag_in 1102 (by decide +kernel) (by decide +kernel)
theorem ag_ml_L_131 : Cond.methodLink RL 131 yX7_sheet ∈ ag_tbl := ag_in 1103 (by decide +kernel) (by decide +kernel)
theorem ag_im_X7_sheet : Cond.instanceMethod yX7_sheet ∈ ag_tbl := ag_in 1104 (by decide +kernel) (by decide +kernel)
theorem ag_se_X7_sheet : Cond.selects RX7 yX7_sheet yX7_sheet ∈ ag_tbl := ag_in 1105 (by decide +kernel) (by decide +kernel)
theorem ag_co_X7_sheet : Cond.code yX7_sheet cX7_sheet 5 (some .int) ∈ ag_tbl := ag_in 1106 (by decide +kernel) (by decide +kernel)
theorem ag_ml_L_135 : Cond.methodLink RL 135 yX7_lose ∈ ag_tbl := ag_in 1107 (by decide +kernel) (by decide +kernel)
theorem ag_im_X7_lose : Cond.instanceMethod yX7_lose ∈ ag_tbl := ag_in 1108 (by decide +kernel) (by decide +kernel)
theorem ag_se_X7_lose : Cond.selects RX7 yX7_lose yX7_lose ∈ ag_tbl := ag_in 1109 (by decide +kernel) (by decide +kernel)
theorem ag_co_X7_lose : Cond.code yX7_lose cX7_lose 2 (some .int) ∈ ag_tbl := ag_in 1110 (by decide +kernel) (by decide +kernel)
theorem ag_ml_L_139 : Cond.methodLink RL 139 yX7_put ∈ ag_tbl := ag_in 1111 (by decide +kernel) (by decide +kernel)
theorem ag_im_X7_put : Cond.instanceMethod yX7_put ∈ ag_tbl := ag_in 1112 (by decide +kernel) (by decide +kernel)
theorem ag_se_X7_put : Cond.selects RX7 yX7_put yX7_put ∈ ag_tbl := ag_in 1113 (by decide +kernel) (by decide +kernel)
theorem ag_co_X7_put : Cond.code yX7_put cX7_put 6 (some .int) ∈ ag_tbl := ag_in 1114 (by decide +kernel) (by decide +kernel)
theorem ag_ml_X7_272 : Cond.methodLink RX7 272 yX7_lacks ∈ ag_tbl := ag_in 1115 (by decide +kernel) (by decide +kernel)
theorem ag_im_X7_lacks : Cond.instanceMethod yX7_lacks ∈ ag_tbl := ag_in 1117 (by decide +kernel) (by decide +kernel)
theorem ag_co_X7_lacks : Cond.code yX7_lacks cX7_lacks 4 (some .int) ∈ ag_tbl := ag_in 1118 (by decide +kernel) (by decide +kernel)
theorem ag_ml_X7_275 : Cond.methodLink RX7 275 yX7_keep ∈ ag_tbl := ag_in 1119 (by decide +kernel) (by decide +kernel)
theorem ag_im_X7_keep : Cond.instanceMethod yX7_keep ∈ ag_tbl := ag_in 1121 (by decide +kernel) (by decide +kernel)
theorem ag_co_X7_keep : Cond.code yX7_keep cX7_keep 4 none ∈ ag_tbl := ag_in 1122 (by decide +kernel) (by decide +kernel)
theorem ag_ml_L_143 : Cond.methodLink RL 143 yX7_get ∈ ag_tbl := ag_in 1123 (by decide +kernel) (by decide +kernel)
theorem ag_im_X7_get : Cond.instanceMethod yX7_get ∈ ag_tbl := ag_in 1124 (by decide +kernel) (by decide +kernel)
theorem ag_se_X7_get : Cond.selects RX7 yX7_get yX7_get ∈ ag_tbl := ag_in 1125 (by decide +kernel) (by decide +kernel)
theorem ag_co_X7_get : Cond.code yX7_get cX7_get 5 (some .int) ∈ ag_tbl := ag_in 1126 (by decide +kernel) (by decide +kernel)
theorem ag_kc_X7_279 : Cond.constant RX7 279 (-2147483648) ∈ ag_tbl := ag_in 1127 (by decide +kernel) (by decide +kernel)
theorem ag_ml_L_147 : Cond.methodLink RL 147 yX7_copy ∈ ag_tbl := ag_in 1128 (by decide +kernel) (by decide +kernel)
theorem ag_im_X7_copy : Cond.instanceMethod yX7_copy ∈ ag_tbl := ag_in 1129 (by decide +kernel) (by decide +kernel)
theorem ag_se_X7_copy : Cond.selects RX7 yX7_copy yX7_copy ∈ ag_tbl := ag_in 1130 (by decide +kernel) (by decide +kernel)
theorem ag_co_X7_copy : Cond.code yX7_copy cX7_copy 7 (some .int) ∈ ag_tbl := ag_in 1131 (by decide +kernel) (by decide +kernel)
theorem ag_ml_L_151 : Cond.methodLink RL 151 yX7_write ∈ ag_tbl := ag_in 1132 (by decide +kernel) (by decide +kernel)
theorem ag_im_X7_write : Cond.instanceMethod yX7_write ∈ ag_tbl := ag_in 1133 (by decide +kernel) (by decide +kernel)
theorem ag_se_X7_write : Cond.selects RX7 yX7_write yX7_write ∈ ag_tbl := ag_in 1134 (by decide +kernel) (by decide +kernel)
theorem ag_co_X7_write : Cond.code yX7_write cX7_write 3 (some .int) ∈ ag_tbl := ag_in 1135 (by decide +kernel) (by decide +kernel)
theorem ag_ml_L_155 : Cond.methodLink RL 155 yX7_count ∈ ag_tbl := ag_in 1136 (by decide +kernel) (by decide +kernel)
theorem ag_im_X7_count : Cond.instanceMethod yX7_count ∈ ag_tbl := ag_in 1137 (by decide +kernel) (by decide +kernel)
theorem ag_se_X7_count : Cond.selects RX7 yX7_count yX7_count ∈ ag_tbl := ag_in 1138 (by decide +kernel) (by decide +kernel)
theorem ag_co_X7_count : Cond.code yX7_count cX7_count 2 (some .int) ∈ ag_tbl := ag_in 1139 (by decide +kernel) (by decide +kernel)
theorem ag_ml_X7_280 : Cond.methodLink RX7 280 yX7_sumOf ∈ ag_tbl := ag_in 1140 (by decide +kernel) (by decide +kernel)
theorem ag_im_X7_sumOf : Cond.instanceMethod yX7_sumOf ∈ ag_tbl := ag_in 1142 (by decide +kernel) (by decide +kernel)
theorem ag_co_X7_sumOf : Cond.code yX7_sumOf cX7_sumOf 4 (some .int) ∈ ag_tbl := ag_in 1143 (by decide +kernel) (by decide +kernel)
theorem ag_ml_L_160 : Cond.methodLink RL 160 yX7_digest ∈ ag_tbl := ag_in 1144 (by decide +kernel) (by decide +kernel)
theorem ag_im_X7_digest : Cond.instanceMethod yX7_digest ∈ ag_tbl := ag_in 1145 (by decide +kernel) (by decide +kernel)
theorem ag_se_X7_digest : Cond.selects RX7 yX7_digest yX7_digest ∈ ag_tbl := ag_in 1146 (by decide +kernel) (by decide +kernel)
theorem ag_co_X7_digest : Cond.code yX7_digest cX7_digest 5 (some .long) ∈ ag_tbl := ag_in 1147 (by decide +kernel) (by decide +kernel)
theorem ag_kl_X7_283 : Cond.constantLong RX7 283 (17) ∈ ag_tbl := ag_in 1148 (by decide +kernel) (by decide +kernel)
theorem ag_kl_X7_285 : Cond.constantLong RX7 285 (31) ∈ ag_tbl := ag_in 1149 (by decide +kernel) (by decide +kernel)
theorem ag_ml_X7_287 : Cond.methodLink RX7 287 yX7_count ∈ ag_tbl := ag_in 1150 (by decide +kernel) (by decide +kernel)
theorem ag_ml_X7_290 : Cond.methodLink RX7 290 yX7_person ∈ ag_tbl := ag_in 1151 (by decide +kernel) (by decide +kernel)
theorem ag_ml_X7_293 : Cond.methodLink RX7 293 yX7_send ∈ ag_tbl := ag_in 1152 (by decide +kernel) (by decide +kernel)
theorem ag_ml_X7_296 : Cond.methodLink RX7 296 yX7_trust ∈ ag_tbl := ag_in 1153 (by decide +kernel) (by decide +kernel)
theorem ag_ml_X7_299 : Cond.methodLink RX7 299 yX7_teach ∈ ag_tbl := ag_in 1154 (by decide +kernel) (by decide +kernel)
theorem ag_ml_X7_302 : Cond.methodLink RX7 302 yX7_chance ∈ ag_tbl := ag_in 1155 (by decide +kernel) (by decide +kernel)
theorem ag_se_X6_takePeople : Cond.selects RX6 yX6_takePeople yX6_takePeople ∈ ag_tbl := ag_in 0 (by decide +kernel) (by decide +kernel)
theorem ag_se_X4_goesOn : Cond.selects RX4 yX4_goesOn yX4_goesOn ∈ ag_tbl := ag_in 1 (by decide +kernel) (by decide +kernel)
theorem ag_se_X4_twoFigures : Cond.selects RX4 yX4_twoFigures yX4_twoFigures ∈ ag_tbl := ag_in 2 (by decide +kernel) (by decide +kernel)
theorem ag_se_X5_writeThoseOf : Cond.selects RX5 yX5_writeThoseOf yX5_writeThoseOf ∈ ag_tbl := ag_in 3 (by decide +kernel) (by decide +kernel)
theorem ag_se_X5_openThoseDue : Cond.selects RX5 yX5_openThoseDue yX5_openThoseDue ∈ ag_tbl := ag_in 4 (by decide +kernel) (by decide +kernel)
theorem ag_se_X5_isWaiting : Cond.selects RX5 yX5_isWaiting yX5_isWaiting ∈ ag_tbl := ag_in 5 (by decide +kernel) (by decide +kernel)
theorem ag_se_X5_hasNeeded : Cond.selects RX5 yX5_hasNeeded yX5_hasNeeded ∈ ag_tbl := ag_in 6 (by decide +kernel) (by decide +kernel)
theorem ag_se_X5_openOne : Cond.selects RX5 yX5_openOne yX5_openOne ∈ ag_tbl := ag_in 7 (by decide +kernel) (by decide +kernel)
theorem ag_se_X5_grant : Cond.selects RX5 yX5_grant yX5_grant ∈ ag_tbl := ag_in 8 (by decide +kernel) (by decide +kernel)
theorem ag_se_X5_nextStir : Cond.selects RX5 yX5_nextStir yX5_nextStir ∈ ag_tbl := ag_in 9 (by decide +kernel) (by decide +kernel)
theorem ag_se_X6_takeLetter : Cond.selects RX6 yX6_takeLetter yX6_takeLetter ∈ ag_tbl := ag_in 10 (by decide +kernel) (by decide +kernel)
theorem ag_se_X6_find : Cond.selects RX6 yX6_find yX6_find ∈ ag_tbl := ag_in 11 (by decide +kernel) (by decide +kernel)
theorem ag_se_X6_opensWithGrace : Cond.selects RX6 yX6_opensWithGrace yX6_opensWithGrace ∈ ag_tbl := ag_in 12 (by decide +kernel) (by decide +kernel)
theorem ag_se_X6_bestSend : Cond.selects RX6 yX6_bestSend yX6_bestSend ∈ ag_tbl := ag_in 13 (by decide +kernel) (by decide +kernel)
theorem ag_se_X6_learnedBySend : Cond.selects RX6 yX6_learnedBySend yX6_learnedBySend ∈ ag_tbl := ag_in 14 (by decide +kernel) (by decide +kernel)
theorem ag_se_X6_knowsByTrust : Cond.selects RX6 yX6_knowsByTrust yX6_knowsByTrust ∈ ag_tbl := ag_in 15 (by decide +kernel) (by decide +kernel)
theorem ag_se_X5_bringsWanted : Cond.selects RX5 yX5_bringsWanted yX5_bringsWanted ∈ ag_tbl := ag_in 16 (by decide +kernel) (by decide +kernel)
theorem ag_se_X5_want : Cond.selects RX5 yX5_want yX5_want ∈ ag_tbl := ag_in 17 (by decide +kernel) (by decide +kernel)
theorem ag_se_X6_teaches : Cond.selects RX6 yX6_teaches yX6_teaches ∈ ag_tbl := ag_in 18 (by decide +kernel) (by decide +kernel)
theorem ag_se_X6_weightOfKnowing : Cond.selects RX6 yX6_weightOfKnowing yX6_weightOfKnowing ∈ ag_tbl := ag_in 19 (by decide +kernel) (by decide +kernel)
theorem ag_se_X6_knowsWithShorter : Cond.selects RX6 yX6_knowsWithShorter yX6_knowsWithShorter ∈ ag_tbl := ag_in 20 (by decide +kernel) (by decide +kernel)
theorem ag_se_X6_mixPersons : Cond.selects RX6 yX6_mixPersons yX6_mixPersons ∈ ag_tbl := ag_in 21 (by decide +kernel) (by decide +kernel)
theorem ag_se_X7_asTold : Cond.selects RX7 yX7_asTold yX7_asTold ∈ ag_tbl := ag_in 22 (by decide +kernel) (by decide +kernel)
theorem ag_se_X7_faultNow : Cond.selects RX7 yX7_faultNow yX7_faultNow ∈ ag_tbl := ag_in 23 (by decide +kernel) (by decide +kernel)
theorem ag_se_X7_figureAt : Cond.selects RX7 yX7_figureAt yX7_figureAt ∈ ag_tbl := ag_in 24 (by decide +kernel) (by decide +kernel)
theorem ag_se_X7_isPerson : Cond.selects RX7 yX7_isPerson yX7_isPerson ∈ ag_tbl := ag_in 25 (by decide +kernel) (by decide +kernel)
theorem ag_se_X7_reads : Cond.selects RX7 yX7_reads yX7_reads ∈ ag_tbl := ag_in 26 (by decide +kernel) (by decide +kernel)
theorem ag_se_X7_lays : Cond.selects RX7 yX7_lays yX7_lays ∈ ag_tbl := ag_in 27 (by decide +kernel) (by decide +kernel)
theorem ag_se_X7_meets : Cond.selects RX7 yX7_meets yX7_meets ∈ ag_tbl := ag_in 28 (by decide +kernel) (by decide +kernel)
theorem ag_se_X7_ageOf : Cond.selects RX7 yX7_ageOf yX7_ageOf ∈ ag_tbl := ag_in 29 (by decide +kernel) (by decide +kernel)
theorem ag_se_X7_lives : Cond.selects RX7 yX7_lives yX7_lives ∈ ag_tbl := ag_in 30 (by decide +kernel) (by decide +kernel)
theorem ag_se_X7_endOf : Cond.selects RX7 yX7_endOf yX7_endOf ∈ ag_tbl := ag_in 31 (by decide +kernel) (by decide +kernel)
theorem ag_se_X7_tells : Cond.selects RX7 yX7_tells yX7_tells ∈ ag_tbl := ag_in 32 (by decide +kernel) (by decide +kernel)
theorem ag_se_X7_openedOf : Cond.selects RX7 yX7_openedOf yX7_openedOf ∈ ag_tbl := ag_in 33 (by decide +kernel) (by decide +kernel)
theorem ag_se_X7_runsTo : Cond.selects RX7 yX7_runsTo yX7_runsTo ∈ ag_tbl := ag_in 34 (by decide +kernel) (by decide +kernel)
theorem ag_se_X7_runs : Cond.selects RX7 yX7_runs yX7_runs ∈ ag_tbl := ag_in 35 (by decide +kernel) (by decide +kernel)
theorem ag_se_X7_opens : Cond.selects RX7 yX7_opens yX7_opens ∈ ag_tbl := ag_in 36 (by decide +kernel) (by decide +kernel)
theorem ag_se_X7_writtenOf : Cond.selects RX7 yX7_writtenOf yX7_writtenOf ∈ ag_tbl := ag_in 37 (by decide +kernel) (by decide +kernel)
theorem ag_se_X7_waitsOf : Cond.selects RX7 yX7_waitsOf yX7_waitsOf ∈ ag_tbl := ag_in 38 (by decide +kernel) (by decide +kernel)
theorem ag_se_X7_bitsNow : Cond.selects RX7 yX7_bitsNow yX7_bitsNow ∈ ag_tbl := ag_in 39 (by decide +kernel) (by decide +kernel)
theorem ag_se_X7_knownOf : Cond.selects RX7 yX7_knownOf yX7_knownOf ∈ ag_tbl := ag_in 40 (by decide +kernel) (by decide +kernel)
theorem ag_se_X7_learnedOf : Cond.selects RX7 yX7_learnedOf yX7_learnedOf ∈ ag_tbl := ag_in 41 (by decide +kernel) (by decide +kernel)
theorem ag_se_X7_learnsIn : Cond.selects RX7 yX7_learnsIn yX7_learnsIn ∈ ag_tbl := ag_in 42 (by decide +kernel) (by decide +kernel)
theorem ag_se_X7_sealedNow : Cond.selects RX7 yX7_sealedNow yX7_sealedNow ∈ ag_tbl := ag_in 43 (by decide +kernel) (by decide +kernel)
theorem ag_se_X7_loudOf : Cond.selects RX7 yX7_loudOf yX7_loudOf ∈ ag_tbl := ag_in 44 (by decide +kernel) (by decide +kernel)
theorem ag_se_X7_tooSoonNow : Cond.selects RX7 yX7_tooSoonNow yX7_tooSoonNow ∈ ag_tbl := ag_in 45 (by decide +kernel) (by decide +kernel)
theorem ag_se_X7_sendOf : Cond.selects RX7 yX7_sendOf yX7_sendOf ∈ ag_tbl := ag_in 46 (by decide +kernel) (by decide +kernel)
theorem ag_se_X7_sends : Cond.selects RX7 yX7_sends yX7_sends ∈ ag_tbl := ag_in 47 (by decide +kernel) (by decide +kernel)
theorem ag_se_X7_trustOf : Cond.selects RX7 yX7_trustOf yX7_trustOf ∈ ag_tbl := ag_in 48 (by decide +kernel) (by decide +kernel)
theorem ag_se_X7_teachOf : Cond.selects RX7 yX7_teachOf yX7_teachOf ∈ ag_tbl := ag_in 49 (by decide +kernel) (by decide +kernel)
theorem ag_se_X7_saidOf : Cond.selects RX7 yX7_saidOf yX7_saidOf ∈ ag_tbl := ag_in 50 (by decide +kernel) (by decide +kernel)
theorem ag_se_X7_isDone : Cond.selects RX7 yX7_isDone yX7_isDone ∈ ag_tbl := ag_in 51 (by decide +kernel) (by decide +kernel)
theorem ag_se_X7_forgedNow : Cond.selects RX7 yX7_forgedNow yX7_forgedNow ∈ ag_tbl := ag_in 52 (by decide +kernel) (by decide +kernel)
theorem ag_se_X7_chanceOf : Cond.selects RX7 yX7_chanceOf yX7_chanceOf ∈ ag_tbl := ag_in 53 (by decide +kernel) (by decide +kernel)
theorem ag_se_X7_drawnOf : Cond.selects RX7 yX7_drawnOf yX7_drawnOf ∈ ag_tbl := ag_in 54 (by decide +kernel) (by decide +kernel)
theorem ag_se_X7_lacks : Cond.selects RX7 yX7_lacks yX7_lacks ∈ ag_tbl := ag_in 55 (by decide +kernel) (by decide +kernel)
theorem ag_se_X7_keep : Cond.selects RX7 yX7_keep yX7_keep ∈ ag_tbl := ag_in 56 (by decide +kernel) (by decide +kernel)
theorem ag_se_X7_sumOf : Cond.selects RX7 yX7_sumOf yX7_sumOf ∈ ag_tbl := ag_in 57 (by decide +kernel) (by decide +kernel)
theorem ag_ly_X0_0 : u_lay RX0 TX0 0 ∈ ag_tbl := ag_in 225 (by decide +kernel) (by decide +kernel)
theorem ag_ly_X0_1 : u_lay RX0 TX0 1 ∈ ag_tbl := ag_in 227 (by decide +kernel) (by decide +kernel)
theorem ag_ly_X0_2 : u_lay RX0 TX0 2 ∈ ag_tbl := ag_in 229 (by decide +kernel) (by decide +kernel)
theorem ag_ly_X0_3 : u_lay RX0 TX0 3 ∈ ag_tbl := ag_in 231 (by decide +kernel) (by decide +kernel)
theorem ag_ly_X0_4 : u_lay RX0 TX0 4 ∈ ag_tbl := ag_in 233 (by decide +kernel) (by decide +kernel)
theorem ag_inX0 : ∀ w ∈ u_ws RX0 TX0 5, w ∈ ag_tbl := by
  intro w hw
  obtain ⟨k, hk, rfl⟩ := List.mem_map.mp hw
  have hk := List.mem_range.mp hk
  match k, hk with
  | 0, _ => exact ag_ly_X0_0
  | 1, _ => exact ag_ly_X0_1
  | 2, _ => exact ag_ly_X0_2
  | 3, _ => exact ag_ly_X0_3
  | 4, _ => exact ag_ly_X0_4
  | k + 5, hk => omega
theorem ag_ly_X1_0 : u_lay RX1 TX1 0 ∈ ag_tbl := ag_in 129 (by decide +kernel) (by decide +kernel)
theorem ag_ly_X1_1 : u_lay RX1 TX1 1 ∈ ag_tbl := ag_in 131 (by decide +kernel) (by decide +kernel)
theorem ag_ly_X1_2 : u_lay RX1 TX1 2 ∈ ag_tbl := ag_in 133 (by decide +kernel) (by decide +kernel)
theorem ag_ly_X1_3 : u_lay RX1 TX1 3 ∈ ag_tbl := ag_in 135 (by decide +kernel) (by decide +kernel)
theorem ag_ly_X1_4 : u_lay RX1 TX1 4 ∈ ag_tbl := ag_in 137 (by decide +kernel) (by decide +kernel)
theorem ag_ly_X1_5 : u_lay RX1 TX1 5 ∈ ag_tbl := ag_in 139 (by decide +kernel) (by decide +kernel)
theorem ag_inX1 : ∀ w ∈ u_ws RX1 TX1 6, w ∈ ag_tbl := by
  intro w hw
  obtain ⟨k, hk, rfl⟩ := List.mem_map.mp hw
  have hk := List.mem_range.mp hk
  match k, hk with
  | 0, _ => exact ag_ly_X1_0
  | 1, _ => exact ag_ly_X1_1
  | 2, _ => exact ag_ly_X1_2
  | 3, _ => exact ag_ly_X1_3
  | 4, _ => exact ag_ly_X1_4
  | 5, _ => exact ag_ly_X1_5
  | k + 6, hk => omega
theorem ag_ly_X2_0 : u_lay RX2 TX2 0 ∈ ag_tbl := ag_in 163 (by decide +kernel) (by decide +kernel)
theorem ag_ly_X2_1 : u_lay RX2 TX2 1 ∈ ag_tbl := ag_in 165 (by decide +kernel) (by decide +kernel)
theorem ag_ly_X2_2 : u_lay RX2 TX2 2 ∈ ag_tbl := ag_in 167 (by decide +kernel) (by decide +kernel)
theorem ag_ly_X2_3 : u_lay RX2 TX2 3 ∈ ag_tbl := ag_in 169 (by decide +kernel) (by decide +kernel)
theorem ag_ly_X2_4 : u_lay RX2 TX2 4 ∈ ag_tbl := ag_in 171 (by decide +kernel) (by decide +kernel)
theorem ag_ly_X2_5 : u_lay RX2 TX2 5 ∈ ag_tbl := ag_in 173 (by decide +kernel) (by decide +kernel)
theorem ag_inX2 : ∀ w ∈ u_ws RX2 TX2 6, w ∈ ag_tbl := by
  intro w hw
  obtain ⟨k, hk, rfl⟩ := List.mem_map.mp hw
  have hk := List.mem_range.mp hk
  match k, hk with
  | 0, _ => exact ag_ly_X2_0
  | 1, _ => exact ag_ly_X2_1
  | 2, _ => exact ag_ly_X2_2
  | 3, _ => exact ag_ly_X2_3
  | 4, _ => exact ag_ly_X2_4
  | 5, _ => exact ag_ly_X2_5
  | k + 6, hk => omega
theorem ag_ly_X3_0 : u_lay RX3 TX3 0 ∈ ag_tbl := ag_in 251 (by decide +kernel) (by decide +kernel)
theorem ag_ly_X3_1 : u_lay RX3 TX3 1 ∈ ag_tbl := ag_in 253 (by decide +kernel) (by decide +kernel)
theorem ag_ly_X3_2 : u_lay RX3 TX3 2 ∈ ag_tbl := ag_in 255 (by decide +kernel) (by decide +kernel)
theorem ag_ly_X3_3 : u_lay RX3 TX3 3 ∈ ag_tbl := ag_in 257 (by decide +kernel) (by decide +kernel)
theorem ag_inX3 : ∀ w ∈ u_ws RX3 TX3 4, w ∈ ag_tbl := by
  intro w hw
  obtain ⟨k, hk, rfl⟩ := List.mem_map.mp hw
  have hk := List.mem_range.mp hk
  match k, hk with
  | 0, _ => exact ag_ly_X3_0
  | 1, _ => exact ag_ly_X3_1
  | 2, _ => exact ag_ly_X3_2
  | 3, _ => exact ag_ly_X3_3
  | k + 4, hk => omega
theorem ag_ly_X4_0 : u_lay RX4 TX4 0 ∈ ag_tbl := ag_in 89 (by decide +kernel) (by decide +kernel)
theorem ag_ly_X4_1 : u_lay RX4 TX4 1 ∈ ag_tbl := ag_in 91 (by decide +kernel) (by decide +kernel)
theorem ag_inX4 : ∀ w ∈ u_ws RX4 TX4 2, w ∈ ag_tbl := by
  intro w hw
  obtain ⟨k, hk, rfl⟩ := List.mem_map.mp hw
  have hk := List.mem_range.mp hk
  match k, hk with
  | 0, _ => exact ag_ly_X4_0
  | 1, _ => exact ag_ly_X4_1
  | k + 2, hk => omega
theorem ag_ly_X5_0 : u_lay RX5 TX5 0 ∈ ag_tbl := ag_in 192 (by decide +kernel) (by decide +kernel)
theorem ag_ly_X5_1 : u_lay RX5 TX5 1 ∈ ag_tbl := ag_in 194 (by decide +kernel) (by decide +kernel)
theorem ag_ly_X5_2 : u_lay RX5 TX5 2 ∈ ag_tbl := ag_in 196 (by decide +kernel) (by decide +kernel)
theorem ag_ly_X5_3 : u_lay RX5 TX5 3 ∈ ag_tbl := ag_in 198 (by decide +kernel) (by decide +kernel)
theorem ag_ly_X5_4 : u_lay RX5 TX5 4 ∈ ag_tbl := ag_in 200 (by decide +kernel) (by decide +kernel)
theorem ag_ly_X5_5 : u_lay RX5 TX5 5 ∈ ag_tbl := ag_in 202 (by decide +kernel) (by decide +kernel)
theorem ag_ly_X5_6 : u_lay RX5 TX5 6 ∈ ag_tbl := ag_in 204 (by decide +kernel) (by decide +kernel)
theorem ag_ly_X5_7 : u_lay RX5 TX5 7 ∈ ag_tbl := ag_in 206 (by decide +kernel) (by decide +kernel)
theorem ag_ly_X5_8 : u_lay RX5 TX5 8 ∈ ag_tbl := ag_in 208 (by decide +kernel) (by decide +kernel)
theorem ag_ly_X5_9 : u_lay RX5 TX5 9 ∈ ag_tbl := ag_in 210 (by decide +kernel) (by decide +kernel)
theorem ag_inX5 : ∀ w ∈ u_ws RX5 TX5 10, w ∈ ag_tbl := by
  intro w hw
  obtain ⟨k, hk, rfl⟩ := List.mem_map.mp hw
  have hk := List.mem_range.mp hk
  match k, hk with
  | 0, _ => exact ag_ly_X5_0
  | 1, _ => exact ag_ly_X5_1
  | 2, _ => exact ag_ly_X5_2
  | 3, _ => exact ag_ly_X5_3
  | 4, _ => exact ag_ly_X5_4
  | 5, _ => exact ag_ly_X5_5
  | 6, _ => exact ag_ly_X5_6
  | 7, _ => exact ag_ly_X5_7
  | 8, _ => exact ag_ly_X5_8
  | 9, _ => exact ag_ly_X5_9
  | k + 10, hk => omega
theorem ag_ly_X6_0 : u_lay RX6 TX6 0 ∈ ag_tbl := ag_in 268 (by decide +kernel) (by decide +kernel)
theorem ag_ly_X6_1 : u_lay RX6 TX6 1 ∈ ag_tbl := ag_in 270 (by decide +kernel) (by decide +kernel)
theorem ag_ly_X6_2 : u_lay RX6 TX6 2 ∈ ag_tbl := ag_in 272 (by decide +kernel) (by decide +kernel)
theorem ag_ly_X6_3 : u_lay RX6 TX6 3 ∈ ag_tbl := ag_in 274 (by decide +kernel) (by decide +kernel)
theorem ag_ly_X6_4 : u_lay RX6 TX6 4 ∈ ag_tbl := ag_in 276 (by decide +kernel) (by decide +kernel)
theorem ag_ly_X6_5 : u_lay RX6 TX6 5 ∈ ag_tbl := ag_in 278 (by decide +kernel) (by decide +kernel)
theorem ag_ly_X6_6 : u_lay RX6 TX6 6 ∈ ag_tbl := ag_in 280 (by decide +kernel) (by decide +kernel)
theorem ag_ly_X6_7 : u_lay RX6 TX6 7 ∈ ag_tbl := ag_in 282 (by decide +kernel) (by decide +kernel)
theorem ag_inX6 : ∀ w ∈ u_ws RX6 TX6 8, w ∈ ag_tbl := by
  intro w hw
  obtain ⟨k, hk, rfl⟩ := List.mem_map.mp hw
  have hk := List.mem_range.mp hk
  match k, hk with
  | 0, _ => exact ag_ly_X6_0
  | 1, _ => exact ag_ly_X6_1
  | 2, _ => exact ag_ly_X6_2
  | 3, _ => exact ag_ly_X6_3
  | 4, _ => exact ag_ly_X6_4
  | 5, _ => exact ag_ly_X6_5
  | 6, _ => exact ag_ly_X6_6
  | 7, _ => exact ag_ly_X6_7
  | k + 8, hk => omega
theorem ag_ly_X7_0 : u_lay RX7 TX7 0 ∈ ag_tbl := ag_in 760 (by decide +kernel) (by decide +kernel)
theorem ag_ly_X7_1 : u_lay RX7 TX7 1 ∈ ag_tbl := ag_in 762 (by decide +kernel) (by decide +kernel)
theorem ag_ly_X7_2 : u_lay RX7 TX7 2 ∈ ag_tbl := ag_in 764 (by decide +kernel) (by decide +kernel)
theorem ag_ly_X7_3 : u_lay RX7 TX7 3 ∈ ag_tbl := ag_in 766 (by decide +kernel) (by decide +kernel)
theorem ag_ly_X7_4 : u_lay RX7 TX7 4 ∈ ag_tbl := ag_in 768 (by decide +kernel) (by decide +kernel)
theorem ag_ly_X7_5 : u_lay RX7 TX7 5 ∈ ag_tbl := ag_in 770 (by decide +kernel) (by decide +kernel)
theorem ag_ly_X7_6 : u_lay RX7 TX7 6 ∈ ag_tbl := ag_in 772 (by decide +kernel) (by decide +kernel)
theorem ag_ly_X7_7 : u_lay RX7 TX7 7 ∈ ag_tbl := ag_in 774 (by decide +kernel) (by decide +kernel)
theorem ag_ly_X7_8 : u_lay RX7 TX7 8 ∈ ag_tbl := ag_in 776 (by decide +kernel) (by decide +kernel)
theorem ag_ly_X7_9 : u_lay RX7 TX7 9 ∈ ag_tbl := ag_in 778 (by decide +kernel) (by decide +kernel)
theorem ag_ly_X7_10 : u_lay RX7 TX7 10 ∈ ag_tbl := ag_in 780 (by decide +kernel) (by decide +kernel)
theorem ag_ly_X7_11 : u_lay RX7 TX7 11 ∈ ag_tbl := ag_in 782 (by decide +kernel) (by decide +kernel)
theorem ag_ly_X7_12 : u_lay RX7 TX7 12 ∈ ag_tbl := ag_in 784 (by decide +kernel) (by decide +kernel)
theorem ag_ly_X7_13 : u_lay RX7 TX7 13 ∈ ag_tbl := ag_in 786 (by decide +kernel) (by decide +kernel)
theorem ag_ly_X7_14 : u_lay RX7 TX7 14 ∈ ag_tbl := ag_in 788 (by decide +kernel) (by decide +kernel)
theorem ag_ly_X7_15 : u_lay RX7 TX7 15 ∈ ag_tbl := ag_in 790 (by decide +kernel) (by decide +kernel)
theorem ag_ly_X7_16 : u_lay RX7 TX7 16 ∈ ag_tbl := ag_in 792 (by decide +kernel) (by decide +kernel)
theorem ag_ly_X7_17 : u_lay RX7 TX7 17 ∈ ag_tbl := ag_in 794 (by decide +kernel) (by decide +kernel)
theorem ag_ly_X7_18 : u_lay RX7 TX7 18 ∈ ag_tbl := ag_in 796 (by decide +kernel) (by decide +kernel)
theorem ag_ly_X7_19 : u_lay RX7 TX7 19 ∈ ag_tbl := ag_in 798 (by decide +kernel) (by decide +kernel)
theorem ag_ly_X7_20 : u_lay RX7 TX7 20 ∈ ag_tbl := ag_in 800 (by decide +kernel) (by decide +kernel)
theorem ag_ly_X7_21 : u_lay RX7 TX7 21 ∈ ag_tbl := ag_in 802 (by decide +kernel) (by decide +kernel)
theorem ag_ly_X7_22 : u_lay RX7 TX7 22 ∈ ag_tbl := ag_in 804 (by decide +kernel) (by decide +kernel)
theorem ag_ly_X7_23 : u_lay RX7 TX7 23 ∈ ag_tbl := ag_in 806 (by decide +kernel) (by decide +kernel)
theorem ag_ly_X7_24 : u_lay RX7 TX7 24 ∈ ag_tbl := ag_in 808 (by decide +kernel) (by decide +kernel)
theorem ag_ly_X7_25 : u_lay RX7 TX7 25 ∈ ag_tbl := ag_in 810 (by decide +kernel) (by decide +kernel)
theorem ag_ly_X7_26 : u_lay RX7 TX7 26 ∈ ag_tbl := ag_in 812 (by decide +kernel) (by decide +kernel)
theorem ag_ly_X7_27 : u_lay RX7 TX7 27 ∈ ag_tbl := ag_in 814 (by decide +kernel) (by decide +kernel)
theorem ag_ly_X7_28 : u_lay RX7 TX7 28 ∈ ag_tbl := ag_in 816 (by decide +kernel) (by decide +kernel)
theorem ag_ly_X7_29 : u_lay RX7 TX7 29 ∈ ag_tbl := ag_in 818 (by decide +kernel) (by decide +kernel)
theorem ag_ly_X7_30 : u_lay RX7 TX7 30 ∈ ag_tbl := ag_in 820 (by decide +kernel) (by decide +kernel)
theorem ag_ly_X7_31 : u_lay RX7 TX7 31 ∈ ag_tbl := ag_in 822 (by decide +kernel) (by decide +kernel)
theorem ag_ly_X7_32 : u_lay RX7 TX7 32 ∈ ag_tbl := ag_in 824 (by decide +kernel) (by decide +kernel)
theorem ag_ly_X7_33 : u_lay RX7 TX7 33 ∈ ag_tbl := ag_in 826 (by decide +kernel) (by decide +kernel)
theorem ag_ly_X7_34 : u_lay RX7 TX7 34 ∈ ag_tbl := ag_in 828 (by decide +kernel) (by decide +kernel)
theorem ag_ly_X7_35 : u_lay RX7 TX7 35 ∈ ag_tbl := ag_in 830 (by decide +kernel) (by decide +kernel)
theorem ag_ly_X7_36 : u_lay RX7 TX7 36 ∈ ag_tbl := ag_in 832 (by decide +kernel) (by decide +kernel)
theorem ag_inX7 : ∀ w ∈ u_ws RX7 TX7 37, w ∈ ag_tbl := by
  intro w hw
  obtain ⟨k, hk, rfl⟩ := List.mem_map.mp hw
  have hk := List.mem_range.mp hk
  match k, hk with
  | 0, _ => exact ag_ly_X7_0
  | 1, _ => exact ag_ly_X7_1
  | 2, _ => exact ag_ly_X7_2
  | 3, _ => exact ag_ly_X7_3
  | 4, _ => exact ag_ly_X7_4
  | 5, _ => exact ag_ly_X7_5
  | 6, _ => exact ag_ly_X7_6
  | 7, _ => exact ag_ly_X7_7
  | 8, _ => exact ag_ly_X7_8
  | 9, _ => exact ag_ly_X7_9
  | 10, _ => exact ag_ly_X7_10
  | 11, _ => exact ag_ly_X7_11
  | 12, _ => exact ag_ly_X7_12
  | 13, _ => exact ag_ly_X7_13
  | 14, _ => exact ag_ly_X7_14
  | 15, _ => exact ag_ly_X7_15
  | 16, _ => exact ag_ly_X7_16
  | 17, _ => exact ag_ly_X7_17
  | 18, _ => exact ag_ly_X7_18
  | 19, _ => exact ag_ly_X7_19
  | 20, _ => exact ag_ly_X7_20
  | 21, _ => exact ag_ly_X7_21
  | 22, _ => exact ag_ly_X7_22
  | 23, _ => exact ag_ly_X7_23
  | 24, _ => exact ag_ly_X7_24
  | 25, _ => exact ag_ly_X7_25
  | 26, _ => exact ag_ly_X7_26
  | 27, _ => exact ag_ly_X7_27
  | 28, _ => exact ag_ly_X7_28
  | 29, _ => exact ag_ly_X7_29
  | 30, _ => exact ag_ly_X7_30
  | 31, _ => exact ag_ly_X7_31
  | 32, _ => exact ag_ly_X7_32
  | 33, _ => exact ag_ly_X7_33
  | 34, _ => exact ag_ly_X7_34
  | 35, _ => exact ag_ly_X7_35
  | 36, _ => exact ag_ly_X7_36
  | k + 37, hk => omega
end
section
abbrev Sg : Type := Nat → Nat → Int32
/-- own class, code, locals, answer -/
abbrev Md : Type := String × ByteArray × Nat × Option FieldType
abbrev Cs : Type := ClassId × ClassId × ClassId
/-- the cells: class and number of fields; 8: ints, 9: booleans, 10: rows -/
def ag_kl : List (Nat × Nat) := [(6, 8), (4, 2), (8, 59), (5, 10), (1, 6), (8, 10), (8, 10), (8, 10), (8, 10), (8, 10), (2, 6), (8, 13), (8, 13), (8, 13), (8, 13), (8, 13), (8, 13), (8, 13), (8, 10), (8, 80), (8, 10), (5, 10), (1, 6), (8, 10), (8, 10), (8, 10), (8, 10), (8, 10), (2, 6), (8, 13), (8, 13), (8, 13), (8, 13), (8, 13), (8, 13), (8, 13), (8, 10), (8, 80), (8, 10), (0, 5), (8, 8), (8, 8), (8, 8), (8, 8), (10, 4), (3, 4), (8, 48), (3, 4), (8, 48), (3, 4), (8, 48), (3, 4), (8, 48), (7, 37), (8, 59), (8, 11), (8, 11), (8, 11), (8, 10), (8, 13), (8, 13), (8, 13), (8, 13), (8, 13), (8, 10), (8, 13), (8, 13), (8, 10), (8, 8), (8, 8), (8, 8), (8, 8), (9, 4), (8, 4), (8, 4), (8, 192), (8, 48)]
/-- what the fields that hold cells hold -/
def ag_tl : List (List (Option Nat)) := [[some 1, some 3, some 21, some 4, some 10, some 39, some 44, none], [some 2, none], [], [some 4, some 10, none, none, none, some 16, some 17, some 18, some 19, some 20], [none, some 5, some 6, some 7, some 8, some 9], [], [], [], [], [], [none, some 11, some 12, some 13, some 14, some 15], [], [], [], [], [], [], [], [], [], [], [some 22, some 28, none, none, none, some 34, some 35, some 36, some 37, some 38], [none, some 23, some 24, some 25, some 26, some 27], [], [], [], [], [], [none, some 29, some 30, some 31, some 32, some 33], [], [], [], [], [], [], [], [], [], [], [none, some 40, some 41, some 42, some 43], [], [], [], [], [], [none, none, none, some 46], [], [none, none, none, some 48], [], [none, none, none, some 50], [], [none, none, none, some 52], [], [some 54, none, none, some 55, some 56, some 57, some 58, none, some 59, some 60, some 61, some 62, some 63, none, none, none, none, none, none, some 64, some 65, some 66, none, none, none, some 67, none, some 68, some 69, some 70, some 71, some 72, some 73, some 74, some 75, some 76, none], [], [], [], [], [], [], [], [], [], [], [], [], [], [], [], [], [], [], [], [], [], [], []]
def ag_kd (k : Nat) : Nat × Nat := ag_kl.getD k (11, 0)
def ag_tg (k j : Nat) : Option Nat := (ag_tl.getD k []).getD j none
def ag_fv (ad : Nat → Nat) (σ : Sg) (k j : Nat) : Value := match ag_tg k j with
  | some t => .ref (ad t)
  | none => .int (σ k j)
def ag_en (ad : Nat → Nat) (cs : Cs) (σ : Sg) (k : Nat) : va_E :=
  if (ag_kd k).1 < 8 then .inr ((ag_kd k).1, (List.range (ag_kd k).2).map (ag_fv ad σ k))
  else if (ag_kd k).1 = 8 then .inl (cs.1, (ag_kd k).2, .inl (σ k))
  else if (ag_kd k).1 = 9 then .inl (cs.2.1, (ag_kd k).2, .inl (σ k))
  else .inl (cs.2.2, (ag_kd k).2, .inr (.inr (.inr (.inr (fun i => some (ad (45 + 2 * i)))))))
def ag_W (ad : Nat → Nat) (cs : Cs) (σ : Sg) : va_W := (List.range 77).map (fun k => (ad k, ag_en ad cs σ k))
theorem ag_W_at (ad : Nat → Nat) (cs : Cs) (σ : Sg) {k : Nat} (h : k < 77) : (ag_W ad cs σ)[k]? = some (ad k, ag_en ad cs σ k) := by
  unfold ag_W
  rw [List.getElem?_map, List.getElem?_range h]
  rfl
theorem ag_W_no (ad : Nat → Nat) (cs : Cs) (σ : Sg) {k : Nat} {q : Nat × va_E} (h : (ag_W ad cs σ)[k]? = some q) : k < 77 ∧ q = (ad k, ag_en ad cs σ k) := by
  have h1 : k < (ag_W ad cs σ).length := (List.getElem?_eq_some_iff.mp h).1
  have h2 : (ag_W ad cs σ).length = 77 := by simp [ag_W]
  have h3 : k < 77 := by omega
  rw [ag_W_at ad cs σ h3] at h
  exact ⟨h3, (Option.some.inj h).symm⟩
theorem ag_en_eq (ad : Nat → Nat) (cs : Cs) {σ σ' : Sg} {k : Nat} (h : σ k = σ' k) : ag_en ad cs σ k = ag_en ad cs σ' k := by
  have e : ag_fv ad σ k = ag_fv ad σ' k := by
    funext j
    unfold ag_fv
    rw [h]
  unfold ag_en
  rw [h, e]
/-- one cell anew -/
theorem ag_W_set (ad : Nat → Nat) (cs : Cs) {σ σ' : Sg} {k : Nat} (h : ∀ k', k' ≠ k → σ' k' = σ k') : (ag_W ad cs σ).set k (ad k, ag_en ad cs σ' k) = ag_W ad cs σ' := by
  apply List.ext_getElem?
  intro i
  by_cases hi : i < 77
  · rw [ag_W_at ad cs σ' hi]
    by_cases e : i = k
    · subst e
      rw [List.getElem?_set_self (by simp [ag_W]; exact hi)]
    · rw [List.getElem?_set_ne (Ne.symm e), ag_W_at ad cs σ hi, ag_en_eq ad cs (h i e)]
  · rw [List.getElem?_eq_none (by simp [ag_W]; omega), List.getElem?_eq_none (by simp [ag_W]; omega)]
def ag_up (σ : Sg) (k i : Nat) (v : Int32) : Sg := fun k' i' => if k' = k ∧ i' = i then v else σ k' i'
def ag_ar (σ : Sg) (k : Nat) (f : Nat → Int32) : Sg := fun k' => if k' = k then f else σ k'
theorem ag_up_ne {σ : Sg} {k i : Nat} {v : Int32} {k' : Nat} (h : k' ≠ k) : ag_up σ k i v k' = σ k' := by
  funext i'
  unfold ag_up
  rw [if_neg (fun q => h q.1)]
theorem ag_up_k {σ : Sg} {k i : Nat} {v : Int32} : ag_up σ k i v k = upd (σ k) i v := by
  funext i'
  unfold ag_up upd
  by_cases h : i' = i
  · rw [if_pos ⟨rfl, h⟩, if_pos h]
  · rw [if_neg (fun q => h q.2), if_neg h]
theorem ag_ar_ne {σ : Sg} {k : Nat} {f : Nat → Int32} {k' : Nat} (h : k' ≠ k) : ag_ar σ k f k' = σ k' := by
  unfold ag_ar
  rw [if_neg h]
theorem ag_ar_k {σ : Sg} {k : Nat} {f : Nat → Int32} : ag_ar σ k f k = f := by
  unfold ag_ar
  rw [if_pos rfl]
theorem ag_en_o (ad : Nat → Nat) (cs : Cs) (σ : Sg) {k ci n : Nat} (h : ag_kd k = (ci, n)) (hc : ci < 8) : ag_en ad cs σ k = .inr (ci, (List.range n).map (ag_fv ad σ k)) := by
  unfold ag_en
  rw [h, if_pos hc]
theorem ag_en_i (ad : Nat → Nat) (cs : Cs) (σ : Sg) {k n : Nat} (h : ag_kd k = (8, n)) : ag_en ad cs σ k = .inl (cs.1, n, .inl (σ k)) := by
  simp [ag_en, h]
theorem ag_en_z (ad : Nat → Nat) (cs : Cs) (σ : Sg) {k n : Nat} (h : ag_kd k = (9, n)) : ag_en ad cs σ k = .inl (cs.2.1, n, .inl (σ k)) := by
  simp [ag_en, h]
theorem ag_en_r (ad : Nat → Nat) (cs : Cs) (σ : Sg) {k n : Nat} (h : ag_kd k = (10, n)) : ag_en ad cs σ k = .inl (cs.2.2, n, .inr (.inr (.inr (.inr (fun i => some (ad (45 + 2 * i))))))) := by
  simp [ag_en, h]
def ag_inj (ad : Nat → Nat) : Prop := ∀ i j, i < 77 → j < 77 → ad i = ad j → i = j
theorem ag_DD {ad : Nat → Nat} {A : Nat → Prop} (cs : Cs) (σ : Sg) (h : ag_inj ad) (hA : ∀ k, k < 77 → A (ad k)) : va_D A (ag_W ad cs σ) := by
  refine ⟨fun i j p q hi hj hpq => ?_, fun k q hk => ?_⟩
  · obtain ⟨h1, rfl⟩ := ag_W_no ad cs σ hi
    obtain ⟨h2, rfl⟩ := ag_W_no ad cs σ hj
    exact h i j h1 h2 hpq
  · obtain ⟨h1, rfl⟩ := ag_W_no ad cs σ hk
    exact hA k h1
abbrev ag_ty (cs : Cs) : List (ClassId × FieldType) := [(cs.1, .int), (cs.2.1, .boolean), (cs.2.2, .object RX3)]
def ag_nw : Cond := Cond.methodLinkNest RX3 32 yX6_isBelow RX6
def ag_K (D : va_G) (cs : Cs) (s : State) : Prop := va_K D ag_cl (ag_ty cs) s ∧ va_Nw ag_nw s
theorem ag_K.warm {D : va_G} {cs : Cs} {s U : State} (hW : s.WarmedH U.vm) (h : ag_K D cs s) : ag_K D cs U := ⟨va_K.moved hW.alike h.1, va_Nw.warmM hW h.2⟩
theorem ag_K.same {D : va_G} {cs : Cs} {s U : State} (hv : s.vm = U.vm) (h : ag_K D cs s) : ag_K D cs U := ⟨va_K.moved (by rw [hv]; exact Vm.Alike.refl U.vm) h.1, va_Nw.same rfl hv h.2⟩
def ag_cv (ad : Nat → Nat) : Value → Value
  | .ref k => .ref (ad k)
  | v => v
theorem ag_cv_cat (ad : Nat → Nat) (v : Value) : (ag_cv ad v).category = v.category := by cases v <;> rfl
def ag_lm (ad : Nat → Nat) (lv : List (Nat × Value)) : List (Nat × Value) := lv.map (fun q => (q.1, ag_cv ad q.2))
theorem ag_lm_at {ad : Nat → Nat} {lv : List (Nat × Value)} {k i : Nat} {v : Value} (h : lv[k]? = some (i, v)) : (ag_lm ad lv)[k]? = some (i, ag_cv ad v) := by
  unfold ag_lm
  rw [List.getElem?_map, h]
  rfl
def ag_s1 (i : Nat) (v : Value) (lv : List (Nat × Value)) : List (Nat × Value) := (i, v) :: lv.filter (fun q => !(q.1 == i) && !(q.1 + 1 == i && q.2.category == 2))
def ag_s2 (i : Nat) (v : Value) (lv : List (Nat × Value)) : List (Nat × Value) := (i, v) :: lv.filter (fun q => !(q.1 == i) && (!(q.1 == i + 1) && !(q.1 + 1 == i && q.2.category == 2)))
theorem ag_lm_s1 (ad : Nat → Nat) (i : Nat) (v : Value) (lv : List (Nat × Value)) : (i, ag_cv ad v) :: (ag_lm ad lv).filter (fun q => !(q.1 == i) && !(q.1 + 1 == i && q.2.category == 2)) = ag_lm ad (ag_s1 i v lv) := by
  unfold ag_lm ag_s1
  rw [List.map_cons, List.filter_map]
  congr 2
  apply List.filter_congr
  intro q _
  simp only [Function.comp, ag_cv_cat]
theorem ag_lm_s2 (ad : Nat → Nat) (i : Nat) (v : Value) (lv : List (Nat × Value)) : (i, ag_cv ad v) :: (ag_lm ad lv).filter (fun q => !(q.1 == i) && (!(q.1 == i + 1) && !(q.1 + 1 == i && q.2.category == 2))) = ag_lm ad (ag_s2 i v lv) := by
  unfold ag_lm ag_s2
  rw [List.map_cons, List.filter_map]
  congr 2
  apply List.filter_congr
  intro q _
  simp only [Function.comp, ag_cv_cat]
theorem ag_lm_pick {ad : Nat → Nat} {lv lv' : List (Nat × Value)} (ks : List Nat) (h : lv_pick lv ks = lv') : lv_pick (ag_lm ad lv) ks = ag_lm ad lv' := by
  subst h
  unfold lv_pick ag_lm
  rw [List.map_filterMap]
  congr 1
  funext k
  rw [List.getElem?_map]
theorem ag_lv_args (ad : Nat → Nat) : ∀ (vs : List Value) (i : Nat), lv_args i (vs.map (ag_cv ad)) = ag_lm ad (lv_args i vs)
  | [], _ => rfl
  | v :: vs, i => by
    show (i, ag_cv ad v) :: lv_args (if (ag_cv ad v).category = 2 then i + 2 else i + 1) (vs.map (ag_cv ad)) = (i, ag_cv ad v) :: ag_lm ad (lv_args (if v.category = 2 then i + 2 else i + 1) vs)
    rw [ag_cv_cat, ag_lv_args ad vs]
theorem ag_sl_len (ad : Nat → Nat) : ∀ (vs : List Value), (lg_sl (vs.map (ag_cv ad))).length = (lg_sl vs).length
  | [] => rfl
  | v :: vs => by
    have ih := ag_sl_len ad vs
    simp only [lg_sl, List.map_cons, List.flatMap_cons, List.length_append, ag_cv_cat] at ih ⊢
    rw [ih]
    by_cases h : v.category = 2 <;> simp [h]
def ag_ri : Option Value → Instr
  | none => .return_
  | some (.int _) => .ireturn
  | some (.long _) => .lreturn
  | _ => .nop
def ag_nr (ret : Option FieldType) : Option Value → Prop
  | none => ret = none
  | some (.int x) => ∃ ty, ret = some ty ∧ narrow ty (.int x) = .int x
  | some (.long _) => ret = some .long
  | _ => False
/-- what stands fast in a method's frame -/
def ag_Cx (M : Md) (fr lo : Nat) (p : Program) (R : Room) (s : State) (m : MethodId) (args : Array Value) (c : Code) (D : va_G) (ad : Nat → Nat) (cs : Cs) (A : Nat → Prop) (cells slots : Nat) : Prop :=
  p.tables.exec = Jvm.exec ∧ c.code = M.2.1 ∧ c.maxLocals = M.2.2.1 ∧ s.vm.findClass M.1 = some m.cls ∧ (∀ w ∈ ag_tbl, w.before args s = true) ∧ ag_K D cs s ∧ (ag_inj ad ∧ ∀ k, k < 77 → A (ad k)) ∧ (fr ≤ R.frames ∧ lo ≤ R.locals) ∧ (cells ≤ R.cells ∧ slots ≤ R.slots)
/-- a method's end: with the value and the world, at a return -/
def ag_Fin (M : Md) (p : Program) (l : Launch) (e : Env) (R : Room) (s : State) (m : MethodId) (args : Array Value) (below : List Frame) (meth : Method) (c : Code) (D : va_G) (ad : Nat → Nat) (cs : Cs) (A : Nat → Prop) (cells slots : Nat) (Q : State → Prop) (rv : Option Value × Sg) : Prop :=
  ∀ (H : Heap) (locs : List Loc) (pc : Nat) (ls : Array Slot), va_P D ag_cl (ag_W ad cs rv.2) H → va_S A s.heap H locs → decode M.2.1 pc = .ok (ag_ri rv.1, 1) → ag_nr M.2.2.2 rv.1 → W p l e R s m args below meth c H locs cells slots Q (F0 m pc ls (rv.1.map (ag_cv ad)).toList)
/-- at pc, with these locals, this stack and this world the method comes to what o says (if it says something) -/
def Ev (M : Md) (fr lo : Nat) {α : Type} (j : α → Option Value × Sg) (pc : Nat) (lv : List (Nat × Value)) (st : List Value) (σ : Sg) (o : Option α) : Prop :=
  ∀ (r : α), o = some r → ∀ (p : Program) (l : Launch) (e : Env) (R : Room) (s : State) (m : MethodId) (args : Array Value) (below : List Frame) (meth : Method) (c : Code) (D : va_G) (ad : Nat → Nat) (cs : Cs) (A : Nat → Prop) (cells slots : Nat) (Q : State → Prop), ag_Cx M fr lo p R s m args c D ad cs A cells slots → ag_Fin M p l e R s m args below meth c D ad cs A cells slots Q (j r) →
    ∀ (H : Heap) (locs : List Loc) (ls : Array Slot), va_P D ag_cl (ag_W ad cs σ) H → va_S A s.heap H locs → lv_has ls M.2.2.1 (ag_lm ad lv) → W p l e R s m args below meth c H locs cells slots Q (F0 m pc ls (st.map (ag_cv ad)))
/-- an index that a row has -/
def ag_ib (i : Int32) (n : Nat) : Bool := decide (¬ (i < 0 ∨ n ≤ i.toNatClampNeg))
def ag_Cf (ci : Nat) (Cn : String) (T : u_T) (N : Nat) (ty : Nat → FieldType) : Prop := ag_cl[ci]? = some (Cn, T, N) ∧ (∀ w ∈ u_ws Cn T N, w ∈ ag_tbl) ∧ (∀ k, k < N → parseFieldDescriptor (T k).2.2.1 = some (ty k)) ∧ (∀ a, a < N → ∀ b, b < N → a ≠ b → (T a).2.1 ≠ (T b).2.1)
theorem ag_Cf.lt {ci : Nat} {Cn : String} {T : u_T} {N : Nat} {ty : Nat → FieldType} (h : ag_Cf ci Cn T N ty) : ci < 8 := (List.getElem?_eq_some_iff.mp h.1).1
theorem ag_W_o (ad : Nat → Nat) (cs : Cs) (σ : Sg) {K ci N : Nat} {Cn : String} {T : u_T} {ty : Nat → FieldType} (h : K < 77) (hk : ag_kd K = (ci, N)) (hC : ag_Cf ci Cn T N ty) : (ag_W ad cs σ)[K]? = some (ad K, .inr (ci, (List.range N).map (ag_fv ad σ K))) := by
  rw [ag_W_at ad cs σ h, ag_en_o ad cs σ hk hC.lt]
theorem ag_W_i (ad : Nat → Nat) (cs : Cs) (σ : Sg) {K n : Nat} (h : K < 77) (hk : ag_kd K = (8, n)) : (ag_W ad cs σ)[K]? = some (ad K, .inl (cs.1, n, .inl (σ K))) := by
  rw [ag_W_at ad cs σ h, ag_en_i ad cs σ hk]
theorem ag_W_z (ad : Nat → Nat) (cs : Cs) (σ : Sg) {K n : Nat} (h : K < 77) (hk : ag_kd K = (9, n)) : (ag_W ad cs σ)[K]? = some (ad K, .inl (cs.2.1, n, .inl (σ K))) := by
  rw [ag_W_at ad cs σ h, ag_en_z ad cs σ hk]
theorem ag_W_r (ad : Nat → Nat) (cs : Cs) (σ : Sg) {K n : Nat} (h : K < 77) (hk : ag_kd K = (10, n)) : (ag_W ad cs σ)[K]? = some (ad K, .inl (cs.2.2, n, .inr (.inr (.inr (.inr (fun i => some (ad (45 + 2 * i)))))))) := by
  rw [ag_W_at ad cs σ h, ag_en_r ad cs σ hk]
theorem ag_Pe {D : va_G} {cl : List vw_C} {w w' : va_W} {H : Heap} (e : w = w') (h : va_P D cl w H) : va_P D cl w' H := e ▸ h
theorem ag_fv_i (ad : Nat → Nat) (σ : Sg) {K q N : Nat} (hq : q < N) (ht : ag_tg K q = none) : ((List.range N).map (ag_fv ad σ K))[q]? = some (.int (σ K q)) := by
  rw [List.getElem?_map, List.getElem?_range hq]
  show some (ag_fv ad σ K q) = _
  unfold ag_fv
  rw [ht]
theorem ag_fv_r (ad : Nat → Nat) (σ : Sg) {K q N t : Nat} (hq : q < N) (ht : ag_tg K q = some t) : ((List.range N).map (ag_fv ad σ K))[q]? = some (.ref (ad t)) := by
  rw [List.getElem?_map, List.getElem?_range hq]
  show some (ag_fv ad σ K q) = _
  unfold ag_fv
  rw [ht]
theorem ag_W_put (ad : Nat → Nat) (cs : Cs) (σ : Sg) (x : Int32) {K q ci N : Nat} {Cn : String} {T : u_T} {ty : Nat → FieldType} (h : K < 77) (hk : ag_kd K = (ci, N)) (hC : ag_Cf ci Cn T N ty) (hq : q < N) (ht : ag_tg K q = none) : (ag_W ad cs σ).set K (ad K, .inr (ci, ((List.range N).map (ag_fv ad σ K)).set q (.int x))) = ag_W ad cs (ag_up σ K q x) := by
  have e : ((List.range N).map (ag_fv ad σ K)).set q (.int x) = (List.range N).map (ag_fv ad (ag_up σ K q x) K) := by
    apply List.ext_getElem?
    intro i
    by_cases hi : i < N
    · by_cases e : i = q
      · subst e
        rw [List.getElem?_set_self (by simp; exact hi), ag_fv_i ad _ hi ht]
        simp [ag_up]
      · rw [List.getElem?_set_ne (Ne.symm e), List.getElem?_map, List.getElem?_map]
        have : ag_fv ad (ag_up σ K q x) K i = ag_fv ad σ K i := by
          unfold ag_fv ag_up
          rw [if_neg (fun z => e z.2)]
        rw [List.getElem?_range hi]
        show some _ = some _
        rw [this]
    · rw [List.getElem?_eq_none (by simp; omega), List.getElem?_eq_none (by simp; omega)]
  rw [e, ← ag_en_o ad cs (ag_up σ K q x) hk hC.lt]
  exact ag_W_set ad cs (fun _ hne => ag_up_ne hne)
theorem ag_W_si (ad : Nat → Nat) (cs : Cs) (σ : Sg) (i : Nat) (x : Int32) {K n : Nat} (h : K < 77) (hk : ag_kd K = (8, n)) : (ag_W ad cs σ).set K (ad K, .inl (cs.1, n, .inl (upd (σ K) i x))) = ag_W ad cs (ag_up σ K i x) := by
  rw [← ag_up_k, ← ag_en_i ad cs (ag_up σ K i x) hk]
  exact ag_W_set ad cs (fun _ hne => ag_up_ne hne)
theorem ag_W_sz (ad : Nat → Nat) (cs : Cs) (σ : Sg) (i : Nat) (x : Int32) {K n : Nat} (h : K < 77) (hk : ag_kd K = (9, n)) : (ag_W ad cs σ).set K (ad K, .inl (cs.2.1, n, .inl (upd (σ K) i x))) = ag_W ad cs (ag_up σ K i x) := by
  rw [← ag_up_k, ← ag_en_z ad cs (ag_up σ K i x) hk]
  exact ag_W_set ad cs (fun _ hne => ag_up_ne hne)
theorem ag_W_sa (ad : Nat → Nat) (cs : Cs) (σ : Sg) (f : Nat → Int32) {K n : Nat} (h : K < 77) (hk : ag_kd K = (8, n)) : (ag_W ad cs σ).set K (ad K, .inl (cs.1, n, .inl f)) = ag_W ad cs (ag_ar σ K f) := by
  have e := ag_en_i ad cs (ag_ar σ K f) hk
  rw [ag_ar_k] at e
  rw [← e]
  exact ag_W_set ad cs (fun _ hne => ag_ar_ne hne)
theorem ag_gd {α : Type} {P : Prop} {i : Decidable P} {o : Option α} {r : α} (h : (@ite _ P i o none) = some r) : P ∧ o = some r := by
  by_cases c : P
  · rw [if_pos c] at h; exact ⟨c, h⟩
  · rw [if_neg c] at h; cases h
theorem ag_ib_in {i : Int32} {n : Nat} (h : ag_ib i n = true) : vp_in i n := show ¬ (i < 0 ∨ n ≤ i.toNatClampNeg) from of_decide_eq_true h
theorem ag_ite0 {α : Type} {P : Prop} {i : Decidable P} {o : Option α} {r : α} (h : (@ite _ P i none o) = some r) : ¬ P ∧ o = some r := by
  by_cases c : P
  · rw [if_pos c] at h; cases h
  · rw [if_neg c] at h; exact ⟨c, h⟩
def ag_ushr (x y : Int32) : Int32 := (x.toUInt32 >>> (y.toUInt32 &&& Int32.toUInt32 31)).toInt32
def ag_cpok (sp dp n : Int32) (n0 n1 : Nat) : Bool := decide (¬ sp < 0 ∧ ¬ dp < 0 ∧ ¬ n < 0 ∧ sp.toNatClampNeg + n.toNatClampNeg ≤ n0 ∧ dp.toNatClampNeg + n.toNatClampNeg ≤ n1)
theorem ag_cpok_spec {sp dp n : Int32} {n0 n1 : Nat} (h : ag_cpok sp dp n n0 n1 = true) : ¬ sp < 0 ∧ ¬ dp < 0 ∧ ¬ n < 0 ∧ sp.toNatClampNeg + n.toNatClampNeg ≤ n0 ∧ dp.toNatClampNeg + n.toNatClampNeg ≤ n1 := of_decide_eq_true h
def ag_bl (x : Int32) : Bool := decide (narrow .boolean (.int x) = .int x)
def ag_max (x y : Int32) : Int32 := if x < y then y else x
def ag_min (x y : Int32) : Int32 := if y < x then y else x
section RULES
variable {M : Md} {fr lo : Nat} {α : Type} {j : α → Option Value × Sg} {pc : Nat} {lv : List (Nat × Value)} {st : List Value} {σ : Sg} {o o1 o2 : Option α}
theorem ev_none : Ev M fr lo j pc lv st σ none := fun r h => by cases h
theorem ev_eq {o' : Option α} (h : o = o') (k : Ev M fr lo j pc lv st σ o') : Ev M fr lo j pc lv st σ o := h ▸ k
theorem ev_sub {lv' : List (Nat × Value)} (ks : List Nat) (h : lv_pick lv ks = lv') (k : Ev M fr lo j pc lv' st σ o) : Ev M fr lo j pc lv st σ o :=
  fun r hr _ _ _ _ _ _ _ _ _ _ _ _ _ _ _ _ _ C hf _ _ _ hP hS hl => k r hr _ _ _ _ _ _ _ _ _ _ _ _ _ _ _ _ _ C hf _ _ _ hP hS (lv_sub hl ks (ag_lm_pick ks h))
theorem ev_iconst {n : Int} {v : Int32} (hd : decode M.2.1 pc = .ok (.iconst n, 1)) (hv : Int32.ofInt n = v) (k : Ev M fr lo j (pc + 1) lv (.int v :: st) σ o) : Ev M fr lo j pc lv st σ o :=
  fun r hr _ _ _ _ _ _ _ _ _ _ _ ad cs _ _ _ _ C hf _ _ _ hP hS hl => lv_iconst C.1 C.2.1 hd hv (k r hr _ _ _ _ _ _ _ _ _ _ _ _ _ _ _ _ _ C hf _ _ _ hP hS hl)
theorem ev_bipush {n : Int} {v : Int32} (hd : decode M.2.1 pc = .ok (.bipush n, 2)) (hv : (Int8.ofInt n).toInt32 = v) (k : Ev M fr lo j (pc + 2) lv (.int v :: st) σ o) : Ev M fr lo j pc lv st σ o :=
  fun r hr _ _ _ _ _ _ _ _ _ _ _ ad cs _ _ _ _ C hf _ _ _ hP hS hl => lv_bipush C.1 C.2.1 hd hv (k r hr _ _ _ _ _ _ _ _ _ _ _ _ _ _ _ _ _ C hf _ _ _ hP hS hl)
theorem ev_sipush {n : Int} {v : Int32} (hd : decode M.2.1 pc = .ok (.sipush n, 3)) (hv : (Int16.ofInt n).toInt32 = v) (k : Ev M fr lo j (pc + 3) lv (.int v :: st) σ o) : Ev M fr lo j pc lv st σ o :=
  fun r hr _ _ _ _ _ _ _ _ _ _ _ ad cs _ _ _ _ C hf _ _ _ hP hS hl => lv_sipush C.1 C.2.1 hd hv (k r hr _ _ _ _ _ _ _ _ _ _ _ _ _ _ _ _ _ C hf _ _ _ hP hS hl)
theorem ev_lconst {n : Fin 2} {v : Int64} (hd : decode M.2.1 pc = .ok (.lconst n, 1)) (hv : Int64.ofNat (n : Nat) = v) (k : Ev M fr lo j (pc + 1) lv (.long v :: st) σ o) : Ev M fr lo j pc lv st σ o :=
  fun r hr _ _ _ _ _ _ _ _ _ _ _ ad cs _ _ _ _ C hf _ _ _ hP hS hl => lv_lconst C.1 C.2.1 hd hv (k r hr _ _ _ _ _ _ _ _ _ _ _ _ _ _ _ _ _ C hf _ _ _ hP hS hl)
theorem ev_ldc {idx : Nat} {v : Int32} (hd : decode M.2.1 pc = .ok (.ldc idx, 2)) (hc : Cond.constant M.1 idx v ∈ ag_tbl) (k : Ev M fr lo j (pc + 2) lv (.int v :: st) σ o) : Ev M fr lo j pc lv st σ o :=
  fun r hr _ _ _ _ _ _ _ _ _ _ _ ad cs _ _ _ _ C hf _ _ _ hP hS hl => lv_ldc C.1 C.2.1 C.2.2.2.1 (C.2.2.2.2.1 _ hc) hd (k r hr _ _ _ _ _ _ _ _ _ _ _ _ _ _ _ _ _ C hf _ _ _ hP hS hl)
theorem ev_ldcw {idx : Nat} {v : Int32} (hd : decode M.2.1 pc = .ok (.ldc_w idx, 3)) (hc : Cond.constant M.1 idx v ∈ ag_tbl) (k : Ev M fr lo j (pc + 3) lv (.int v :: st) σ o) : Ev M fr lo j pc lv st σ o :=
  fun r hr _ _ _ _ _ _ _ _ _ _ _ ad cs _ _ _ _ C hf _ _ _ hP hS hl => lv_ldcw C.1 C.2.1 C.2.2.2.1 (C.2.2.2.2.1 _ hc) hd (k r hr _ _ _ _ _ _ _ _ _ _ _ _ _ _ _ _ _ C hf _ _ _ hP hS hl)
theorem ev_ldc2 {idx : Nat} {v : Int64} (hd : decode M.2.1 pc = .ok (.ldc2_w idx, 3)) (hc : Cond.constantLong M.1 idx v ∈ ag_tbl) (k : Ev M fr lo j (pc + 3) lv (.long v :: st) σ o) : Ev M fr lo j pc lv st σ o :=
  fun r hr _ _ _ _ _ _ _ _ _ _ _ ad cs _ _ _ _ C hf _ _ _ hP hS hl => lv_ldc2 C.1 C.2.1 C.2.2.2.1 (C.2.2.2.2.1 _ hc) hd (k r hr _ _ _ _ _ _ _ _ _ _ _ _ _ _ _ _ _ C hf _ _ _ hP hS hl)
theorem ev_iload_n {k0 : Fin 4} {i : Nat} {x : Int32} (q : Nat) (hd : decode M.2.1 pc = .ok (.iload_n k0, 1)) (hi : (k0 : Nat) = i) (h0 : lv[q]? = some (i, .int x)) (k : Ev M fr lo j (pc + 1) lv (.int x :: st) σ o) : Ev M fr lo j pc lv st σ o :=
  fun r hr _ _ _ _ _ _ _ _ _ _ _ ad cs _ _ _ _ C hf _ _ _ hP hS hl => lv_iload_n C.1 C.2.1 hd hi (lv_at hl q (ag_lm_at h0)) (k r hr _ _ _ _ _ _ _ _ _ _ _ _ _ _ _ _ _ C hf _ _ _ hP hS hl)
theorem ev_iload {i : Nat} {x : Int32} (q : Nat) (hd : decode M.2.1 pc = .ok (.iload i, 2)) (h0 : lv[q]? = some (i, .int x)) (k : Ev M fr lo j (pc + 2) lv (.int x :: st) σ o) : Ev M fr lo j pc lv st σ o :=
  fun r hr _ _ _ _ _ _ _ _ _ _ _ ad cs _ _ _ _ C hf _ _ _ hP hS hl => lv_iload C.1 C.2.1 hd (lv_at hl q (ag_lm_at h0)) (k r hr _ _ _ _ _ _ _ _ _ _ _ _ _ _ _ _ _ C hf _ _ _ hP hS hl)
theorem ev_istore_n {k0 : Fin 4} {i : Nat} {x : Int32} {lv' : List (Nat × Value)} (hd : decode M.2.1 pc = .ok (.istore_n k0, 1)) (hi : (k0 : Nat) = i) (hn : i < M.2.2.1) (h0 : ag_s1 i (.int x) lv = lv') (k : Ev M fr lo j (pc + 1) lv' st σ o) : Ev M fr lo j pc lv (.int x :: st) σ o :=
  fun r hr _ _ _ _ _ _ _ _ _ _ _ ad cs _ _ _ _ C hf _ _ _ hP hS hl => lv_istore_n (lv' := ag_lm ad lv') C.1 C.2.1 hd hi hl hn (h0 ▸ ag_lm_s1 ad i (.int x) lv) (fun _ hl => (k r hr _ _ _ _ _ _ _ _ _ _ _ _ _ _ _ _ _ C hf _ _ _ hP hS hl))
theorem ev_istore {i : Nat} {x : Int32} {lv' : List (Nat × Value)} (hd : decode M.2.1 pc = .ok (.istore i, 2)) (hn : i < M.2.2.1) (h0 : ag_s1 i (.int x) lv = lv') (k : Ev M fr lo j (pc + 2) lv' st σ o) : Ev M fr lo j pc lv (.int x :: st) σ o :=
  fun r hr _ _ _ _ _ _ _ _ _ _ _ ad cs _ _ _ _ C hf _ _ _ hP hS hl => lv_istore (lv' := ag_lm ad lv') C.1 C.2.1 hd hl hn (h0 ▸ ag_lm_s1 ad i (.int x) lv) (fun _ hl => (k r hr _ _ _ _ _ _ _ _ _ _ _ _ _ _ _ _ _ C hf _ _ _ hP hS hl))
theorem ev_lload_n {k0 : Fin 4} {i : Nat} {x : Int64} (q : Nat) (hd : decode M.2.1 pc = .ok (.lload_n k0, 1)) (hi : (k0 : Nat) = i) (h0 : lv[q]? = some (i, .long x)) (k : Ev M fr lo j (pc + 1) lv (.long x :: st) σ o) : Ev M fr lo j pc lv st σ o :=
  fun r hr _ _ _ _ _ _ _ _ _ _ _ ad cs _ _ _ _ C hf _ _ _ hP hS hl => lv_lload_n C.1 C.2.1 hd hi (lv_at hl q (ag_lm_at h0)) (k r hr _ _ _ _ _ _ _ _ _ _ _ _ _ _ _ _ _ C hf _ _ _ hP hS hl)
theorem ev_lload {i : Nat} {x : Int64} (q : Nat) (hd : decode M.2.1 pc = .ok (.lload i, 2)) (h0 : lv[q]? = some (i, .long x)) (k : Ev M fr lo j (pc + 2) lv (.long x :: st) σ o) : Ev M fr lo j pc lv st σ o :=
  fun r hr _ _ _ _ _ _ _ _ _ _ _ ad cs _ _ _ _ C hf _ _ _ hP hS hl => lv_lload C.1 C.2.1 hd (lv_at hl q (ag_lm_at h0)) (k r hr _ _ _ _ _ _ _ _ _ _ _ _ _ _ _ _ _ C hf _ _ _ hP hS hl)
theorem ev_lstore_n {k0 : Fin 4} {i : Nat} {x : Int64} {lv' : List (Nat × Value)} (hd : decode M.2.1 pc = .ok (.lstore_n k0, 1)) (hi : (k0 : Nat) = i) (hn : i + 1 < M.2.2.1) (h0 : ag_s2 i (.long x) lv = lv') (k : Ev M fr lo j (pc + 1) lv' st σ o) : Ev M fr lo j pc lv (.long x :: st) σ o :=
  fun r hr _ _ _ _ _ _ _ _ _ _ _ ad cs _ _ _ _ C hf _ _ _ hP hS hl => lv_lstore_n (lv' := ag_lm ad lv') C.1 C.2.1 hd hi hl hn (h0 ▸ ag_lm_s2 ad i (.long x) lv) (fun _ hl => (k r hr _ _ _ _ _ _ _ _ _ _ _ _ _ _ _ _ _ C hf _ _ _ hP hS hl))
theorem ev_lstore {i : Nat} {x : Int64} {lv' : List (Nat × Value)} (hd : decode M.2.1 pc = .ok (.lstore i, 2)) (hn : i + 1 < M.2.2.1) (h0 : ag_s2 i (.long x) lv = lv') (k : Ev M fr lo j (pc + 2) lv' st σ o) : Ev M fr lo j pc lv (.long x :: st) σ o :=
  fun r hr _ _ _ _ _ _ _ _ _ _ _ ad cs _ _ _ _ C hf _ _ _ hP hS hl => lv_lstore (lv' := ag_lm ad lv') C.1 C.2.1 hd hl hn (h0 ▸ ag_lm_s2 ad i (.long x) lv) (fun _ hl => (k r hr _ _ _ _ _ _ _ _ _ _ _ _ _ _ _ _ _ C hf _ _ _ hP hS hl))
theorem ev_aload_n {k0 : Fin 4} {i : Nat} {x : Nat} (q : Nat) (hd : decode M.2.1 pc = .ok (.aload_n k0, 1)) (hi : (k0 : Nat) = i) (h0 : lv[q]? = some (i, .ref x)) (k : Ev M fr lo j (pc + 1) lv (.ref x :: st) σ o) : Ev M fr lo j pc lv st σ o :=
  fun r hr _ _ _ _ _ _ _ _ _ _ _ ad cs _ _ _ _ C hf _ _ _ hP hS hl => lv_aload_n C.1 C.2.1 hd hi (lv_at hl q (ag_lm_at h0)) (k r hr _ _ _ _ _ _ _ _ _ _ _ _ _ _ _ _ _ C hf _ _ _ hP hS hl)
theorem ev_aload {i : Nat} {x : Nat} (q : Nat) (hd : decode M.2.1 pc = .ok (.aload i, 2)) (h0 : lv[q]? = some (i, .ref x)) (k : Ev M fr lo j (pc + 2) lv (.ref x :: st) σ o) : Ev M fr lo j pc lv st σ o :=
  fun r hr _ _ _ _ _ _ _ _ _ _ _ ad cs _ _ _ _ C hf _ _ _ hP hS hl => lv_aload C.1 C.2.1 hd (lv_at hl q (ag_lm_at h0)) (k r hr _ _ _ _ _ _ _ _ _ _ _ _ _ _ _ _ _ C hf _ _ _ hP hS hl)
theorem ev_astore_n {k0 : Fin 4} {i : Nat} {x : Nat} {lv' : List (Nat × Value)} (hd : decode M.2.1 pc = .ok (.astore_n k0, 1)) (hi : (k0 : Nat) = i) (hn : i < M.2.2.1) (h0 : ag_s1 i (.ref x) lv = lv') (k : Ev M fr lo j (pc + 1) lv' st σ o) : Ev M fr lo j pc lv (.ref x :: st) σ o :=
  fun r hr _ _ _ _ _ _ _ _ _ _ _ ad cs _ _ _ _ C hf _ _ _ hP hS hl => lv_astore_n (lv' := ag_lm ad lv') C.1 C.2.1 hd hi hl hn (h0 ▸ ag_lm_s1 ad i (.ref x) lv) (fun _ hl => (k r hr _ _ _ _ _ _ _ _ _ _ _ _ _ _ _ _ _ C hf _ _ _ hP hS hl))
theorem ev_astore {i : Nat} {x : Nat} {lv' : List (Nat × Value)} (hd : decode M.2.1 pc = .ok (.astore i, 2)) (hn : i < M.2.2.1) (h0 : ag_s1 i (.ref x) lv = lv') (k : Ev M fr lo j (pc + 2) lv' st σ o) : Ev M fr lo j pc lv (.ref x :: st) σ o :=
  fun r hr _ _ _ _ _ _ _ _ _ _ _ ad cs _ _ _ _ C hf _ _ _ hP hS hl => lv_astore (lv' := ag_lm ad lv') C.1 C.2.1 hd hl hn (h0 ▸ ag_lm_s1 ad i (.ref x) lv) (fun _ hl => (k r hr _ _ _ _ _ _ _ _ _ _ _ _ _ _ _ _ _ C hf _ _ _ hP hS hl))
theorem ev_iinc {i : Nat} {n : Int} {x v : Int32} {lv' : List (Nat × Value)} (q : Nat) (hd : decode M.2.1 pc = .ok (.iinc i n, 3)) (h0 : lv[q]? = some (i, .int x)) (hv : x + Int32.ofInt n = v) (hn : i < M.2.2.1) (h1 : ag_s1 i (.int v) lv = lv') (k : Ev M fr lo j (pc + 3) lv' st σ o) : Ev M fr lo j pc lv st σ o :=
  fun r hr _ _ _ _ _ _ _ _ _ _ _ ad cs _ _ _ _ C hf _ _ _ hP hS hl => lv_iinc (lv' := ag_lm ad lv') C.1 C.2.1 hd hl (ag_lm_at h0) hv hn (h1 ▸ ag_lm_s1 ad i (.int v) lv) (fun _ hl => (k r hr _ _ _ _ _ _ _ _ _ _ _ _ _ _ _ _ _ C hf _ _ _ hP hS hl))
theorem ev_iadd {x y : Int32} (hd : decode M.2.1 pc = .ok (.iadd, 1))  (k : Ev M fr lo j (pc + 1) lv (.int (x + y) :: st) σ o) : Ev M fr lo j pc lv (.int y :: .int x :: st) σ o :=
  fun r hr _ _ _ _ _ _ _ _ _ _ _ ad cs _ _ _ _ C hf _ _ _ hP hS hl => lv_iadd C.1 C.2.1 hd (k r hr _ _ _ _ _ _ _ _ _ _ _ _ _ _ _ _ _ C hf _ _ _ hP hS hl)
theorem ev_isub {x y : Int32} (hd : decode M.2.1 pc = .ok (.isub, 1))  (k : Ev M fr lo j (pc + 1) lv (.int (x - y) :: st) σ o) : Ev M fr lo j pc lv (.int y :: .int x :: st) σ o :=
  fun r hr _ _ _ _ _ _ _ _ _ _ _ ad cs _ _ _ _ C hf _ _ _ hP hS hl => lv_isub C.1 C.2.1 hd (k r hr _ _ _ _ _ _ _ _ _ _ _ _ _ _ _ _ _ C hf _ _ _ hP hS hl)
theorem ev_imul {x y : Int32} (hd : decode M.2.1 pc = .ok (.imul, 1))  (k : Ev M fr lo j (pc + 1) lv (.int (x * y) :: st) σ o) : Ev M fr lo j pc lv (.int y :: .int x :: st) σ o :=
  fun r hr _ _ _ _ _ _ _ _ _ _ _ ad cs _ _ _ _ C hf _ _ _ hP hS hl => lv_imul C.1 C.2.1 hd (k r hr _ _ _ _ _ _ _ _ _ _ _ _ _ _ _ _ _ C hf _ _ _ hP hS hl)
theorem ev_iand {x y : Int32} (hd : decode M.2.1 pc = .ok (.iand, 1))  (k : Ev M fr lo j (pc + 1) lv (.int (x &&& y) :: st) σ o) : Ev M fr lo j pc lv (.int y :: .int x :: st) σ o :=
  fun r hr _ _ _ _ _ _ _ _ _ _ _ ad cs _ _ _ _ C hf _ _ _ hP hS hl => lv_iand C.1 C.2.1 hd (k r hr _ _ _ _ _ _ _ _ _ _ _ _ _ _ _ _ _ C hf _ _ _ hP hS hl)
theorem ev_ior {x y : Int32} (hd : decode M.2.1 pc = .ok (.ior, 1))  (k : Ev M fr lo j (pc + 1) lv (.int (x ||| y) :: st) σ o) : Ev M fr lo j pc lv (.int y :: .int x :: st) σ o :=
  fun r hr _ _ _ _ _ _ _ _ _ _ _ ad cs _ _ _ _ C hf _ _ _ hP hS hl => lv_ior C.1 C.2.1 hd (k r hr _ _ _ _ _ _ _ _ _ _ _ _ _ _ _ _ _ C hf _ _ _ hP hS hl)
theorem ev_ixor {x y : Int32} (hd : decode M.2.1 pc = .ok (.ixor, 1))  (k : Ev M fr lo j (pc + 1) lv (.int (x ^^^ y) :: st) σ o) : Ev M fr lo j pc lv (.int y :: .int x :: st) σ o :=
  fun r hr _ _ _ _ _ _ _ _ _ _ _ ad cs _ _ _ _ C hf _ _ _ hP hS hl => lv_ixor C.1 C.2.1 hd (k r hr _ _ _ _ _ _ _ _ _ _ _ _ _ _ _ _ _ C hf _ _ _ hP hS hl)
theorem ev_ishl {x y : Int32} (hd : decode M.2.1 pc = .ok (.ishl, 1))  (k : Ev M fr lo j (pc + 1) lv (.int (x <<< (y &&& 31)) :: st) σ o) : Ev M fr lo j pc lv (.int y :: .int x :: st) σ o :=
  fun r hr _ _ _ _ _ _ _ _ _ _ _ ad cs _ _ _ _ C hf _ _ _ hP hS hl => lv_ishl C.1 C.2.1 hd (k r hr _ _ _ _ _ _ _ _ _ _ _ _ _ _ _ _ _ C hf _ _ _ hP hS hl)
theorem ev_ishr {x y : Int32} (hd : decode M.2.1 pc = .ok (.ishr, 1))  (k : Ev M fr lo j (pc + 1) lv (.int (x >>> (y &&& 31)) :: st) σ o) : Ev M fr lo j pc lv (.int y :: .int x :: st) σ o :=
  fun r hr _ _ _ _ _ _ _ _ _ _ _ ad cs _ _ _ _ C hf _ _ _ hP hS hl => lv_ishr C.1 C.2.1 hd (k r hr _ _ _ _ _ _ _ _ _ _ _ _ _ _ _ _ _ C hf _ _ _ hP hS hl)
theorem ev_ladd {x y : Int64} (hd : decode M.2.1 pc = .ok (.ladd, 1))  (k : Ev M fr lo j (pc + 1) lv (.long (x + y) :: st) σ o) : Ev M fr lo j pc lv (.long y :: .long x :: st) σ o :=
  fun r hr _ _ _ _ _ _ _ _ _ _ _ ad cs _ _ _ _ C hf _ _ _ hP hS hl => lv_ladd C.1 C.2.1 hd (k r hr _ _ _ _ _ _ _ _ _ _ _ _ _ _ _ _ _ C hf _ _ _ hP hS hl)
theorem ev_lsub {x y : Int64} (hd : decode M.2.1 pc = .ok (.lsub, 1))  (k : Ev M fr lo j (pc + 1) lv (.long (x - y) :: st) σ o) : Ev M fr lo j pc lv (.long y :: .long x :: st) σ o :=
  fun r hr _ _ _ _ _ _ _ _ _ _ _ ad cs _ _ _ _ C hf _ _ _ hP hS hl => lv_lsub C.1 C.2.1 hd (k r hr _ _ _ _ _ _ _ _ _ _ _ _ _ _ _ _ _ C hf _ _ _ hP hS hl)
theorem ev_lmul {x y : Int64} (hd : decode M.2.1 pc = .ok (.lmul, 1))  (k : Ev M fr lo j (pc + 1) lv (.long (x * y) :: st) σ o) : Ev M fr lo j pc lv (.long y :: .long x :: st) σ o :=
  fun r hr _ _ _ _ _ _ _ _ _ _ _ ad cs _ _ _ _ C hf _ _ _ hP hS hl => lv_lmul C.1 C.2.1 hd (k r hr _ _ _ _ _ _ _ _ _ _ _ _ _ _ _ _ _ C hf _ _ _ hP hS hl)
theorem ev_land {x y : Int64} (hd : decode M.2.1 pc = .ok (.land, 1))  (k : Ev M fr lo j (pc + 1) lv (.long (x &&& y) :: st) σ o) : Ev M fr lo j pc lv (.long y :: .long x :: st) σ o :=
  fun r hr _ _ _ _ _ _ _ _ _ _ _ ad cs _ _ _ _ C hf _ _ _ hP hS hl => lv_land C.1 C.2.1 hd (k r hr _ _ _ _ _ _ _ _ _ _ _ _ _ _ _ _ _ C hf _ _ _ hP hS hl)
theorem ev_idiv {x y : Int32} (hd : decode M.2.1 pc = .ok (.idiv, 1)) (hne : ¬ y = 0) (k : Ev M fr lo j (pc + 1) lv (.int (x / y) :: st) σ o) : Ev M fr lo j pc lv (.int y :: .int x :: st) σ o :=
  fun r hr _ _ _ _ _ _ _ _ _ _ _ ad cs _ _ _ _ C hf _ _ _ hP hS hl => lv_idiv C.1 C.2.1 hd hne (k r hr _ _ _ _ _ _ _ _ _ _ _ _ _ _ _ _ _ C hf _ _ _ hP hS hl)
theorem ev_irem {x y : Int32} (hd : decode M.2.1 pc = .ok (.irem, 1)) (hne : ¬ y = 0) (k : Ev M fr lo j (pc + 1) lv (.int (x - x / y * y) :: st) σ o) : Ev M fr lo j pc lv (.int y :: .int x :: st) σ o :=
  fun r hr _ _ _ _ _ _ _ _ _ _ _ ad cs _ _ _ _ C hf _ _ _ hP hS hl => lv_irem C.1 C.2.1 hd hne (k r hr _ _ _ _ _ _ _ _ _ _ _ _ _ _ _ _ _ C hf _ _ _ hP hS hl)
theorem ev_iushr {x y : Int32} (hd : decode M.2.1 pc = .ok (.iushr, 1))  (k : Ev M fr lo j (pc + 1) lv (.int (ag_ushr x y) :: st) σ o) : Ev M fr lo j pc lv (.int y :: .int x :: st) σ o :=
  fun r hr _ _ _ _ _ _ _ _ _ _ _ ad cs _ _ _ _ C hf _ _ _ hP hS hl => lv_iushr C.1 C.2.1 hd rfl (k r hr _ _ _ _ _ _ _ _ _ _ _ _ _ _ _ _ _ C hf _ _ _ hP hS hl)
theorem ev_lshr {x : Int64} {y : Int32} (hd : decode M.2.1 pc = .ok (.lshr, 1))  (k : Ev M fr lo j (pc + 1) lv (.long (x >>> (y.toInt64 &&& 63)) :: st) σ o) : Ev M fr lo j pc lv (.int y :: .long x :: st) σ o :=
  fun r hr _ _ _ _ _ _ _ _ _ _ _ ad cs _ _ _ _ C hf _ _ _ hP hS hl => lv_lshr C.1 C.2.1 hd rfl (k r hr _ _ _ _ _ _ _ _ _ _ _ _ _ _ _ _ _ C hf _ _ _ hP hS hl)
theorem ev_i2l {x : Int32} (hd : decode M.2.1 pc = .ok (.i2l, 1))  (k : Ev M fr lo j (pc + 1) lv (.long x.toInt64 :: st) σ o) : Ev M fr lo j pc lv (.int x :: st) σ o :=
  fun r hr _ _ _ _ _ _ _ _ _ _ _ ad cs _ _ _ _ C hf _ _ _ hP hS hl => lv_i2l C.1 C.2.1 hd rfl (k r hr _ _ _ _ _ _ _ _ _ _ _ _ _ _ _ _ _ C hf _ _ _ hP hS hl)
theorem ev_i2b {x : Int32} (hd : decode M.2.1 pc = .ok (.i2b, 1))  (k : Ev M fr lo j (pc + 1) lv (.int x.toInt8.toInt32 :: st) σ o) : Ev M fr lo j pc lv (.int x :: st) σ o :=
  fun r hr _ _ _ _ _ _ _ _ _ _ _ ad cs _ _ _ _ C hf _ _ _ hP hS hl => lv_i2b C.1 C.2.1 hd rfl (k r hr _ _ _ _ _ _ _ _ _ _ _ _ _ _ _ _ _ C hf _ _ _ hP hS hl)
theorem ev_i2s {x : Int32} (hd : decode M.2.1 pc = .ok (.i2s, 1))  (k : Ev M fr lo j (pc + 1) lv (.int x.toInt16.toInt32 :: st) σ o) : Ev M fr lo j pc lv (.int x :: st) σ o :=
  fun r hr _ _ _ _ _ _ _ _ _ _ _ ad cs _ _ _ _ C hf _ _ _ hP hS hl => lv_i2s C.1 C.2.1 hd rfl (k r hr _ _ _ _ _ _ _ _ _ _ _ _ _ _ _ _ _ C hf _ _ _ hP hS hl)
theorem ev_lcmp {x y : Int64} (hd : decode M.2.1 pc = .ok (.lcmp, 1))  (k : Ev M fr lo j (pc + 1) lv (.int (lg_cmp x y) :: st) σ o) : Ev M fr lo j pc lv (.long y :: .long x :: st) σ o :=
  fun r hr _ _ _ _ _ _ _ _ _ _ _ ad cs _ _ _ _ C hf _ _ _ hP hS hl => W.lcmp C.1 C.2.1 hd (k r hr _ _ _ _ _ _ _ _ _ _ _ _ _ _ _ _ _ C hf _ _ _ hP hS hl)
theorem ev_dup {v : Value} (hd : decode M.2.1 pc = .ok (.dup, 1)) (hc : v.category = 1) (k : Ev M fr lo j (pc + 1) lv (v :: v :: st) σ o) : Ev M fr lo j pc lv (v :: st) σ o :=
  fun r hr _ _ _ _ _ _ _ _ _ _ _ ad cs _ _ _ _ C hf _ _ _ hP hS hl => lv_dup C.1 C.2.1 hd ((ag_cv_cat ad v).trans hc) (k r hr _ _ _ _ _ _ _ _ _ _ _ _ _ _ _ _ _ C hf _ _ _ hP hS hl)
theorem ev_dup2 {v w : Value} (hd : decode M.2.1 pc = .ok (.dup2, 1)) (hc : v.category = 1) (hc2 : w.category = 1) (k : Ev M fr lo j (pc + 1) lv (v :: w :: v :: w :: st) σ o) : Ev M fr lo j pc lv (v :: w :: st) σ o :=
  fun r hr _ _ _ _ _ _ _ _ _ _ _ ad cs _ _ _ _ C hf _ _ _ hP hS hl => lv_dup2_11 C.1 C.2.1 hd ((ag_cv_cat ad v).trans hc) ((ag_cv_cat ad w).trans hc2) (k r hr _ _ _ _ _ _ _ _ _ _ _ _ _ _ _ _ _ C hf _ _ _ hP hS hl)
theorem ev_ldiv {x y : Int64} (hd : decode M.2.1 pc = .ok (.ldiv, 1)) (k : Ev M fr lo j (pc + 1) lv (.long (x / y) :: st) σ o) : Ev M fr lo j pc lv (.long y :: .long x :: st) σ (if y = 0 then none else o) :=
  fun r hr _ _ _ _ _ _ _ _ _ _ _ ad cs _ _ _ _ C hf _ _ _ hP hS hl => lv_ldiv C.1 C.2.1 hd (ag_ite0 hr).1 (k r (ag_ite0 hr).2 _ _ _ _ _ _ _ _ _ _ _ _ _ _ _ _ _ C hf _ _ _ hP hS hl)
theorem ev_lrem {x y : Int64} (hd : decode M.2.1 pc = .ok (.lrem, 1)) (k : Ev M fr lo j (pc + 1) lv (.long (x - x / y * y) :: st) σ o) : Ev M fr lo j pc lv (.long y :: .long x :: st) σ (if y = 0 then none else o) :=
  fun r hr _ _ _ _ _ _ _ _ _ _ _ ad cs _ _ _ _ C hf _ _ _ hP hS hl => lv_lrem C.1 C.2.1 hd (ag_ite0 hr).1 (k r (ag_ite0 hr).2 _ _ _ _ _ _ _ _ _ _ _ _ _ _ _ _ _ C hf _ _ _ hP hS hl)
theorem ev_if_eq {x : Int32} {off : Int} {tgt : Nat} (hd : decode M.2.1 pc = .ok (.ifCond .eq off, 3)) (ht : (pc : Int) + off = (tgt : Int)) (k1 : Ev M fr lo j tgt lv st σ o1) (k2 : Ev M fr lo j (pc + 3) lv st σ o2) : Ev M fr lo j pc lv (.int x :: st) σ (if x = 0 then o1 else o2) :=
  fun r hr _ _ _ _ _ _ _ _ _ _ _ ad cs _ _ _ _ C hf _ _ _ hP hS hl => lv_if_eq C.1 C.2.1 hd ht (fun h => (k1 r ((if_pos h).symm.trans hr) _ _ _ _ _ _ _ _ _ _ _ _ _ _ _ _ _ C hf _ _ _ hP hS hl)) (fun h => (k2 r ((if_neg h).symm.trans hr) _ _ _ _ _ _ _ _ _ _ _ _ _ _ _ _ _ C hf _ _ _ hP hS hl))
theorem ev_icmp_eq {x y : Int32} {off : Int} {tgt : Nat} (hd : decode M.2.1 pc = .ok (.if_icmp .eq off, 3)) (ht : (pc : Int) + off = (tgt : Int)) (k1 : Ev M fr lo j tgt lv st σ o1) (k2 : Ev M fr lo j (pc + 3) lv st σ o2) : Ev M fr lo j pc lv (.int y :: .int x :: st) σ (if x = y then o1 else o2) :=
  fun r hr _ _ _ _ _ _ _ _ _ _ _ ad cs _ _ _ _ C hf _ _ _ hP hS hl => lv_icmp_eq C.1 C.2.1 hd ht (fun h => (k1 r ((if_pos h).symm.trans hr) _ _ _ _ _ _ _ _ _ _ _ _ _ _ _ _ _ C hf _ _ _ hP hS hl)) (fun h => (k2 r ((if_neg h).symm.trans hr) _ _ _ _ _ _ _ _ _ _ _ _ _ _ _ _ _ C hf _ _ _ hP hS hl))
theorem ev_if_ne {x : Int32} {off : Int} {tgt : Nat} (hd : decode M.2.1 pc = .ok (.ifCond .ne off, 3)) (ht : (pc : Int) + off = (tgt : Int)) (k1 : Ev M fr lo j (pc + 3) lv st σ o1) (k2 : Ev M fr lo j tgt lv st σ o2) : Ev M fr lo j pc lv (.int x :: st) σ (if x = 0 then o1 else o2) :=
  fun r hr _ _ _ _ _ _ _ _ _ _ _ ad cs _ _ _ _ C hf _ _ _ hP hS hl => lv_if_ne C.1 C.2.1 hd ht (fun h => (k2 r ((if_neg h).symm.trans hr) _ _ _ _ _ _ _ _ _ _ _ _ _ _ _ _ _ C hf _ _ _ hP hS hl)) (fun h => (k1 r ((if_pos h).symm.trans hr) _ _ _ _ _ _ _ _ _ _ _ _ _ _ _ _ _ C hf _ _ _ hP hS hl))
theorem ev_icmp_ne {x y : Int32} {off : Int} {tgt : Nat} (hd : decode M.2.1 pc = .ok (.if_icmp .ne off, 3)) (ht : (pc : Int) + off = (tgt : Int)) (k1 : Ev M fr lo j (pc + 3) lv st σ o1) (k2 : Ev M fr lo j tgt lv st σ o2) : Ev M fr lo j pc lv (.int y :: .int x :: st) σ (if x = y then o1 else o2) :=
  fun r hr _ _ _ _ _ _ _ _ _ _ _ ad cs _ _ _ _ C hf _ _ _ hP hS hl => lv_icmp_ne C.1 C.2.1 hd ht (fun h => (k2 r ((if_neg h).symm.trans hr) _ _ _ _ _ _ _ _ _ _ _ _ _ _ _ _ _ C hf _ _ _ hP hS hl)) (fun h => (k1 r ((if_pos h).symm.trans hr) _ _ _ _ _ _ _ _ _ _ _ _ _ _ _ _ _ C hf _ _ _ hP hS hl))
theorem ev_if_lt {x : Int32} {off : Int} {tgt : Nat} (hd : decode M.2.1 pc = .ok (.ifCond .lt off, 3)) (ht : (pc : Int) + off = (tgt : Int)) (k1 : Ev M fr lo j tgt lv st σ o1) (k2 : Ev M fr lo j (pc + 3) lv st σ o2) : Ev M fr lo j pc lv (.int x :: st) σ (if x < 0 then o1 else o2) :=
  fun r hr _ _ _ _ _ _ _ _ _ _ _ ad cs _ _ _ _ C hf _ _ _ hP hS hl => lv_if_lt C.1 C.2.1 hd ht (fun h => (k1 r ((if_pos h).symm.trans hr) _ _ _ _ _ _ _ _ _ _ _ _ _ _ _ _ _ C hf _ _ _ hP hS hl)) (fun h => (k2 r ((if_neg h).symm.trans hr) _ _ _ _ _ _ _ _ _ _ _ _ _ _ _ _ _ C hf _ _ _ hP hS hl))
theorem ev_icmp_lt {x y : Int32} {off : Int} {tgt : Nat} (hd : decode M.2.1 pc = .ok (.if_icmp .lt off, 3)) (ht : (pc : Int) + off = (tgt : Int)) (k1 : Ev M fr lo j tgt lv st σ o1) (k2 : Ev M fr lo j (pc + 3) lv st σ o2) : Ev M fr lo j pc lv (.int y :: .int x :: st) σ (if x < y then o1 else o2) :=
  fun r hr _ _ _ _ _ _ _ _ _ _ _ ad cs _ _ _ _ C hf _ _ _ hP hS hl => lv_icmp_lt C.1 C.2.1 hd ht (fun h => (k1 r ((if_pos h).symm.trans hr) _ _ _ _ _ _ _ _ _ _ _ _ _ _ _ _ _ C hf _ _ _ hP hS hl)) (fun h => (k2 r ((if_neg h).symm.trans hr) _ _ _ _ _ _ _ _ _ _ _ _ _ _ _ _ _ C hf _ _ _ hP hS hl))
theorem ev_if_ge {x : Int32} {off : Int} {tgt : Nat} (hd : decode M.2.1 pc = .ok (.ifCond .ge off, 3)) (ht : (pc : Int) + off = (tgt : Int)) (k1 : Ev M fr lo j tgt lv st σ o1) (k2 : Ev M fr lo j (pc + 3) lv st σ o2) : Ev M fr lo j pc lv (.int x :: st) σ (if 0 ≤ x then o1 else o2) :=
  fun r hr _ _ _ _ _ _ _ _ _ _ _ ad cs _ _ _ _ C hf _ _ _ hP hS hl => lv_if_ge C.1 C.2.1 hd ht (fun h => (k1 r ((if_pos h).symm.trans hr) _ _ _ _ _ _ _ _ _ _ _ _ _ _ _ _ _ C hf _ _ _ hP hS hl)) (fun h => (k2 r ((if_neg h).symm.trans hr) _ _ _ _ _ _ _ _ _ _ _ _ _ _ _ _ _ C hf _ _ _ hP hS hl))
theorem ev_icmp_ge {x y : Int32} {off : Int} {tgt : Nat} (hd : decode M.2.1 pc = .ok (.if_icmp .ge off, 3)) (ht : (pc : Int) + off = (tgt : Int)) (k1 : Ev M fr lo j tgt lv st σ o1) (k2 : Ev M fr lo j (pc + 3) lv st σ o2) : Ev M fr lo j pc lv (.int y :: .int x :: st) σ (if y ≤ x then o1 else o2) :=
  fun r hr _ _ _ _ _ _ _ _ _ _ _ ad cs _ _ _ _ C hf _ _ _ hP hS hl => lv_icmp_ge C.1 C.2.1 hd ht (fun h => (k1 r ((if_pos h).symm.trans hr) _ _ _ _ _ _ _ _ _ _ _ _ _ _ _ _ _ C hf _ _ _ hP hS hl)) (fun h => (k2 r ((if_neg h).symm.trans hr) _ _ _ _ _ _ _ _ _ _ _ _ _ _ _ _ _ C hf _ _ _ hP hS hl))
theorem ev_if_gt {x : Int32} {off : Int} {tgt : Nat} (hd : decode M.2.1 pc = .ok (.ifCond .gt off, 3)) (ht : (pc : Int) + off = (tgt : Int)) (k1 : Ev M fr lo j tgt lv st σ o1) (k2 : Ev M fr lo j (pc + 3) lv st σ o2) : Ev M fr lo j pc lv (.int x :: st) σ (if 0 < x then o1 else o2) :=
  fun r hr _ _ _ _ _ _ _ _ _ _ _ ad cs _ _ _ _ C hf _ _ _ hP hS hl => lv_if_gt C.1 C.2.1 hd ht (fun h => (k1 r ((if_pos h).symm.trans hr) _ _ _ _ _ _ _ _ _ _ _ _ _ _ _ _ _ C hf _ _ _ hP hS hl)) (fun h => (k2 r ((if_neg h).symm.trans hr) _ _ _ _ _ _ _ _ _ _ _ _ _ _ _ _ _ C hf _ _ _ hP hS hl))
theorem ev_icmp_gt {x y : Int32} {off : Int} {tgt : Nat} (hd : decode M.2.1 pc = .ok (.if_icmp .gt off, 3)) (ht : (pc : Int) + off = (tgt : Int)) (k1 : Ev M fr lo j tgt lv st σ o1) (k2 : Ev M fr lo j (pc + 3) lv st σ o2) : Ev M fr lo j pc lv (.int y :: .int x :: st) σ (if y < x then o1 else o2) :=
  fun r hr _ _ _ _ _ _ _ _ _ _ _ ad cs _ _ _ _ C hf _ _ _ hP hS hl => lv_icmp_gt C.1 C.2.1 hd ht (fun h => (k1 r ((if_pos h).symm.trans hr) _ _ _ _ _ _ _ _ _ _ _ _ _ _ _ _ _ C hf _ _ _ hP hS hl)) (fun h => (k2 r ((if_neg h).symm.trans hr) _ _ _ _ _ _ _ _ _ _ _ _ _ _ _ _ _ C hf _ _ _ hP hS hl))
theorem ev_if_le {x : Int32} {off : Int} {tgt : Nat} (hd : decode M.2.1 pc = .ok (.ifCond .le off, 3)) (ht : (pc : Int) + off = (tgt : Int)) (k1 : Ev M fr lo j tgt lv st σ o1) (k2 : Ev M fr lo j (pc + 3) lv st σ o2) : Ev M fr lo j pc lv (.int x :: st) σ (if x ≤ 0 then o1 else o2) :=
  fun r hr _ _ _ _ _ _ _ _ _ _ _ ad cs _ _ _ _ C hf _ _ _ hP hS hl => lv_if_le C.1 C.2.1 hd ht (fun h => (k1 r ((if_pos h).symm.trans hr) _ _ _ _ _ _ _ _ _ _ _ _ _ _ _ _ _ C hf _ _ _ hP hS hl)) (fun h => (k2 r ((if_neg h).symm.trans hr) _ _ _ _ _ _ _ _ _ _ _ _ _ _ _ _ _ C hf _ _ _ hP hS hl))
theorem ev_icmp_le {x y : Int32} {off : Int} {tgt : Nat} (hd : decode M.2.1 pc = .ok (.if_icmp .le off, 3)) (ht : (pc : Int) + off = (tgt : Int)) (k1 : Ev M fr lo j tgt lv st σ o1) (k2 : Ev M fr lo j (pc + 3) lv st σ o2) : Ev M fr lo j pc lv (.int y :: .int x :: st) σ (if x ≤ y then o1 else o2) :=
  fun r hr _ _ _ _ _ _ _ _ _ _ _ ad cs _ _ _ _ C hf _ _ _ hP hS hl => lv_icmp_le C.1 C.2.1 hd ht (fun h => (k1 r ((if_pos h).symm.trans hr) _ _ _ _ _ _ _ _ _ _ _ _ _ _ _ _ _ C hf _ _ _ hP hS hl)) (fun h => (k2 r ((if_neg h).symm.trans hr) _ _ _ _ _ _ _ _ _ _ _ _ _ _ _ _ _ C hf _ _ _ hP hS hl))
theorem ev_goto {off : Int} {tgt : Nat} (hd : decode M.2.1 pc = .ok (.goto off, 3)) (ht : (pc : Int) + off = (tgt : Int)) (k : Ev M fr lo j tgt lv st σ o) : Ev M fr lo j pc lv st σ o :=
  fun r hr _ _ _ _ _ _ _ _ _ _ _ ad cs _ _ _ _ C hf _ _ _ hP hS hl => lv_goto C.1 C.2.1 hd ht (k r hr _ _ _ _ _ _ _ _ _ _ _ _ _ _ _ _ _ C hf _ _ _ hP hS hl)
theorem ev_ite {c : Prop} {h9 : Decidable c} (k1 : c → Ev M fr lo j pc lv st σ o1) (k2 : ¬ c → Ev M fr lo j pc lv st σ o2) : Ev M fr lo j pc lv st σ (@ite _ c h9 o1 o2) := by
  by_cases h : c
  · rw [if_pos h]; exact k1 h
  · rw [if_neg h]; exact k2 h
theorem ev_tin {dflt lw hi : Int} {offs : Array Int} {len : Nat} {x : Int32} {off : Int} {tgt : Nat} (hd : decode M.2.1 pc = .ok (.tableswitch dflt lw hi offs, len)) (h1 : ¬ x.toInt < lw) (h2 : ¬ hi < x.toInt) (ho : offs[(x.toInt - lw).toNat]? = some off) (ht : (pc : Int) + off = (tgt : Int)) (k : Ev M fr lo j tgt lv st σ o) : Ev M fr lo j pc lv (.int x :: st) σ o :=
  fun r hr _ _ _ _ _ _ _ _ _ _ _ ad cs _ _ _ _ C hf _ _ _ hP hS hl => lv_tableIn C.1 C.2.1 hd h1 h2 ho ht (k r hr _ _ _ _ _ _ _ _ _ _ _ _ _ _ _ _ _ C hf _ _ _ hP hS hl)
theorem ev_tout {dflt lw hi : Int} {offs : Array Int} {len : Nat} {x : Int32} {tgt : Nat} (hd : decode M.2.1 pc = .ok (.tableswitch dflt lw hi offs, len)) (h1 : x.toInt < lw ∨ hi < x.toInt) (ht : (pc : Int) + dflt = (tgt : Int)) (k : Ev M fr lo j tgt lv st σ o) : Ev M fr lo j pc lv (.int x :: st) σ o :=
  fun r hr _ _ _ _ _ _ _ _ _ _ _ ad cs _ _ _ _ C hf _ _ _ hP hS hl => lv_tableOut C.1 C.2.1 hd h1 ht (k r hr _ _ _ _ _ _ _ _ _ _ _ _ _ _ _ _ _ C hf _ _ _ hP hS hl)
theorem ev_getI {ci idx K N : Nat} {Cn : String} {T : u_T} {ty : Nat → FieldType} (q : Nat) (hC : ag_Cf ci Cn T N ty) (hk : ag_kd K = (ci, N)) (h77 : K < 77) (hq : q < N) (ht : ag_tg K q = none) (hr0 : (T q).1 = Cn) (hfl : Cond.fieldLink M.1 idx Cn (T q).2.1 (T q).2.2.1 ∈ ag_tbl) (hd : decode M.2.1 pc = .ok (.getfield idx, 3)) (k : Ev M fr lo j (pc + 3) lv (.int (σ K q) :: st) σ o) : Ev M fr lo j pc lv (.ref K :: st) σ o :=
  fun r hr _ _ _ _ _ _ _ _ _ _ _ ad cs _ _ _ _ C hf _ _ _ hP hS hl => va_get C.1 C.2.1 C.2.2.2.2.1 hC.2.1 C.2.2.2.1 C.2.2.2.2.2.1.1 hP K (fs := (List.range N).map (ag_fv ad σ K)) (ag_W_o ad _ σ h77 hk hC) hC.1 q hq (C.2.2.2.2.1 _ hfl) (fun _ hx => hr0 ▸ hx) (v := .int (σ K q)) (ag_fv_i ad σ hq ht) hd (k r hr _ _ _ _ _ _ _ _ _ _ _ _ _ _ _ _ _ C hf _ _ _ hP hS hl)
theorem ev_getR {t : Nat} {ci idx K N : Nat} {Cn : String} {T : u_T} {ty : Nat → FieldType} (q : Nat) (hC : ag_Cf ci Cn T N ty) (hk : ag_kd K = (ci, N)) (h77 : K < 77) (hq : q < N) (ht : ag_tg K q = some t) (hr0 : (T q).1 = Cn) (hfl : Cond.fieldLink M.1 idx Cn (T q).2.1 (T q).2.2.1 ∈ ag_tbl) (hd : decode M.2.1 pc = .ok (.getfield idx, 3)) (k : Ev M fr lo j (pc + 3) lv (.ref t :: st) σ o) : Ev M fr lo j pc lv (.ref K :: st) σ o :=
  fun r hr _ _ _ _ _ _ _ _ _ _ _ ad cs _ _ _ _ C hf _ _ _ hP hS hl => va_get C.1 C.2.1 C.2.2.2.2.1 hC.2.1 C.2.2.2.1 C.2.2.2.2.2.1.1 hP K (fs := (List.range N).map (ag_fv ad σ K)) (ag_W_o ad _ σ h77 hk hC) hC.1 q hq (C.2.2.2.2.1 _ hfl) (fun _ hx => hr0 ▸ hx) (v := .ref (ad t)) (ag_fv_r ad σ hq ht) hd (k r hr _ _ _ _ _ _ _ _ _ _ _ _ _ _ _ _ _ C hf _ _ _ hP hS hl)
theorem ev_put {x : Int32} {ci idx K N : Nat} {Cn : String} {T : u_T} {ty : Nat → FieldType} (q : Nat) (hC : ag_Cf ci Cn T N ty) (hk : ag_kd K = (ci, N)) (h77 : K < 77) (hq : q < N) (ht : ag_tg K q = none) (hr0 : (T q).1 = Cn) (hfl : Cond.fieldLink M.1 idx Cn (T q).2.1 (T q).2.2.1 ∈ ag_tbl) (hfin : (T q).2.2.2 = false) (hn : narrow (ty q) (.int x) = .int x) (hfit : fits (ty q) (.int x) = true) (hd : decode M.2.1 pc = .ok (.putfield idx, 3)) (k : Ev M fr lo j (pc + 3) lv st (ag_up σ K q x) o) : Ev M fr lo j pc lv (.int x :: .ref K :: st) σ o :=
  fun r hr _ _ _ _ _ _ _ _ _ _ _ ad cs _ _ _ _ C hf _ _ _ hP hS hl => va_put C.1 C.2.1 C.2.2.2.2.1 hC.2.1 ty hC.2.2.1 hC.2.2.2 C.2.2.2.1 C.2.2.2.2.2.1.1 hP (ag_DD _ σ C.2.2.2.2.2.2.1.1 C.2.2.2.2.2.2.1.2) hS K (fs := (List.range N).map (ag_fv ad σ K)) (ag_W_o ad _ σ h77 hk hC) hC.1 q hq (C.2.2.2.2.1 _ hfl) (fun _ hx => hr0 ▸ hx) hfin (hC.2.2.1 q hq) hn hfit (by rw [List.length_map, List.length_range]; exact hq) hd (fun _ _ hP _ hS => (k r hr _ _ _ _ _ _ _ _ _ _ _ _ _ _ _ _ _ C hf _ _ _ (ag_Pe (ag_W_put ad cs σ x h77 hk hC hq ht) hP) hS hl))
theorem ev_iald {K n : Nat} {i : Int32} (hk : ag_kd K = (8, n)) (h77 : K < 77) (hd : decode M.2.1 pc = .ok (.iaload, 1)) (k : Ev M fr lo j (pc + 1) lv (.int (σ K i.toNatClampNeg) :: st) σ o) : Ev M fr lo j pc lv (.int i :: .ref K :: st) σ (if ag_ib i n = true then o else none) :=
  fun r hr _ _ _ _ _ _ _ _ _ _ _ ad cs _ _ _ _ C hf _ _ _ hP hS hl => va_iald C.1 C.2.1 C.2.2.2.2.2.1.1 hP K 0 (ag_W_i ad _ σ h77 hk) rfl (ag_ib_in (ag_gd hr).1) hd (k r (ag_gd hr).2 _ _ _ _ _ _ _ _ _ _ _ _ _ _ _ _ _ C hf _ _ _ hP hS hl)
theorem ev_zald {K n : Nat} {i : Int32} (hk : ag_kd K = (9, n)) (h77 : K < 77) (hd : decode M.2.1 pc = .ok (.baload, 1)) (k : Ev M fr lo j (pc + 1) lv (.int (σ K i.toNatClampNeg) :: st) σ o) : Ev M fr lo j pc lv (.int i :: .ref K :: st) σ (if ag_ib i n = true then o else none) :=
  fun r hr _ _ _ _ _ _ _ _ _ _ _ ad cs _ _ _ _ C hf _ _ _ hP hS hl => va_zald C.1 C.2.1 C.2.2.2.2.2.1.1 hP K 1 (ag_W_z ad _ σ h77 hk) rfl (ag_ib_in (ag_gd hr).1) hd (k r (ag_gd hr).2 _ _ _ _ _ _ _ _ _ _ _ _ _ _ _ _ _ C hf _ _ _ hP hS hl)
theorem ev_aald {K n : Nat} {i : Int32} (hk : ag_kd K = (10, n)) (h77 : K < 77) (hd : decode M.2.1 pc = .ok (.aaload, 1)) (k : ag_ib i n = true → Ev M fr lo j (pc + 1) lv (.ref (45 + 2 * i.toNatClampNeg) :: st) σ o) : Ev M fr lo j pc lv (.int i :: .ref K :: st) σ (if ag_ib i n = true then o else none) :=
  fun r hr _ _ _ _ _ _ _ _ _ _ _ ad cs _ _ _ _ C hf _ _ _ hP hS hl => va_aldq C.1 C.2.1 C.2.2.2.2.2.1.1 hP K 2 (ag_W_r ad _ σ h77 hk) rfl (ag_ib_in (ag_gd hr).1) hd (k (ag_gd hr).1 r (ag_gd hr).2 _ _ _ _ _ _ _ _ _ _ _ _ _ _ _ _ _ C hf _ _ _ hP hS hl)
theorem ev_iast {x : Int32} {K n : Nat} {i : Int32} (hk : ag_kd K = (8, n)) (h77 : K < 77) (hd : decode M.2.1 pc = .ok (.iastore, 1)) (k : Ev M fr lo j (pc + 1) lv st (ag_up σ K i.toNatClampNeg x) o) : Ev M fr lo j pc lv (.int x :: .int i :: .ref K :: st) σ (if ag_ib i n = true then o else none) :=
  fun r hr _ _ _ _ _ _ _ _ _ _ _ ad cs _ _ _ _ C hf _ _ _ hP hS hl => va_iast C.1 C.2.1 C.2.2.2.2.2.1.1 hP (ag_DD _ σ C.2.2.2.2.2.2.1.1 C.2.2.2.2.2.2.1.2) hS K 0 (ag_W_i ad _ σ h77 hk) rfl (ag_ib_in (ag_gd hr).1) hd (fun _ _ hP _ hS => (k r (ag_gd hr).2 _ _ _ _ _ _ _ _ _ _ _ _ _ _ _ _ _ C hf _ _ _ (ag_Pe (ag_W_si ad cs σ _ _ h77 hk) hP) hS hl))
theorem ev_zast {x : Int32} {K n : Nat} {i : Int32} (hk : ag_kd K = (9, n)) (h77 : K < 77) (hd : decode M.2.1 pc = .ok (.bastore, 1)) (k : Ev M fr lo j (pc + 1) lv st (ag_up σ K i.toNatClampNeg (vp_nar .boolean x)) o) : Ev M fr lo j pc lv (.int x :: .int i :: .ref K :: st) σ (if ag_ib i n = true then o else none) :=
  fun r hr _ _ _ _ _ _ _ _ _ _ _ ad cs _ _ _ _ C hf _ _ _ hP hS hl => va_zast C.1 C.2.1 C.2.2.2.2.2.1.1 hP (ag_DD _ σ C.2.2.2.2.2.2.1.1 C.2.2.2.2.2.2.1.2) hS K 1 (ag_W_z ad _ σ h77 hk) rfl (ag_ib_in (ag_gd hr).1) hd (fun _ _ hP _ hS => (k r (ag_gd hr).2 _ _ _ _ _ _ _ _ _ _ _ _ _ _ _ _ _ C hf _ _ _ (ag_Pe (ag_W_sz ad cs σ _ _ h77 hk) hP) hS hl))
theorem ev_alen {K n : Nat} {v : Int32} (hk : ag_kd K = (8, n)) (h77 : K < 77) (hv : Int32.ofNat n = v) (hd : decode M.2.1 pc = .ok (.arraylength, 1)) (k : Ev M fr lo j (pc + 1) lv (.int v :: st) σ o) : Ev M fr lo j pc lv (.ref K :: st) σ o :=
  fun r hr _ _ _ _ _ _ _ _ _ _ _ ad cs _ _ _ _ C hf _ _ _ hP hS hl => va_alen C.1 C.2.1 C.2.2.2.2.2.1.1 hP K 0 (ag_W_i ad _ σ h77 hk) (ty := .int) rfl hv hd (k r hr _ _ _ _ _ _ _ _ _ _ _ _ _ _ _ _ _ C hf _ _ _ hP hS hl)
theorem ev_copy {idx K0 n0 K1 n1 : Nat} {sp dp n : Int32} (hk0 : ag_kd K0 = (8, n0)) (h0 : K0 < 77) (hk1 : ag_kd K1 = (8, n1)) (h1 : K1 < 77) (hl0 : Cond.methodLink M.1 idx arraycopyName ∈ ag_tbl) (hR : 1 ≤ fr ∧ (st.map fun v => v.category).sum + (nativeFrameWords "java/lang/System" "arraycopy" 5 + 11) ≤ lo) (hd : decode M.2.1 pc = .ok (.invokestatic idx, 3)) (k : Ev M fr lo j (pc + 3) lv st (ag_ar σ K1 (va_cpy (σ K0) (σ K1) sp.toNatClampNeg dp.toNatClampNeg n.toNatClampNeg)) o) : Ev M fr lo j pc lv (.int n :: .int dp :: .ref K1 :: .int sp :: .ref K0 :: st) σ (if ag_cpok sp dp n n0 n1 = true then o else none) := by
  intro r hr p l e R s m args below meth c D ad cs A cells slots Q C hf H locs ls hP hS hl
  obtain ⟨hg, hr⟩ := ag_gd hr
  obtain ⟨g1, g2, g3, g4, g5⟩ := ag_cpok_spec hg
  exact va_copyi C.1 C.2.1 (C.2.2.1.trans hl.1.symm) C.2.2.2.1 (C.2.2.2.2.1 _ hl0) (C.2.2.2.2.1 _ ag_nt_arraycopyName) (C.2.2.2.2.1 _ ag_st_arraycopyName) (C.2.2.2.2.1 _ ag_ini_J10) C.2.2.2.2.2.1.1 hP (ag_DD _ σ C.2.2.2.2.2.2.1.1 C.2.2.2.2.2.2.1.2) hS K0 K1 0 0 (ag_W_i ad _ σ h0 hk0) (ag_W_i ad _ σ h1 hk1) rfl rfl rfl g1 g2 g3 g4 g5 (fun _ _ => rfl) (Nat.le_trans hR.1 C.2.2.2.2.2.2.2.1.1) (by rw [List.map_map]; exact Nat.le_trans (by rw [show ((fun v => Value.category v) ∘ ag_cv ad) = (fun v => Value.category v) from funext (ag_cv_cat ad)]; exact hR.2) C.2.2.2.2.2.2.2.1.2) hd (fun _ _ hP _ hS => (k r hr _ _ _ _ _ _ _ _ _ _ _ _ _ _ _ _ _ C hf _ _ _ (ag_Pe (ag_W_sa ad cs σ _ h1 hk1) hP) hS hl))
theorem ev_ret (hj : ∀ r, o = some r → j r = (none, σ)) (hret : M.2.2.2 = none) (hd : decode M.2.1 pc = .ok (.return_, 1)) : Ev M fr lo j pc lv [] σ o := by
  intro r hr p l e R s m args below meth c D ad cs A cells slots Q C hf H locs ls hP hS hl
  have h9 := hj r hr
  have h8 := hf H locs pc ls (by rw [h9]; exact hP) hS (by rw [h9]; exact hd) (by rw [h9]; exact hret)
  rw [h9] at h8
  exact h8
theorem ev_iret {x : Int32} {ty : FieldType} (hj : ∀ r, o = some r → j r = (some (.int x), σ)) (hret : M.2.2.2 = some ty) (hn : narrow ty (.int x) = .int x) (hd : decode M.2.1 pc = .ok (.ireturn, 1)) : Ev M fr lo j pc lv [.int x] σ o := by
  intro r hr p l e R s m args below meth c D ad cs A cells slots Q C hf H locs ls hP hS hl
  have h9 := hj r hr
  have h8 := hf H locs pc ls (by rw [h9]; exact hP) hS (by rw [h9]; exact hd) (by rw [h9]; exact ⟨ty, hret, hn⟩)
  rw [h9] at h8
  exact h8
theorem ev_lret {x : Int64} (hj : ∀ r, o = some r → j r = (some (.long x), σ)) (hret : M.2.2.2 = some .long) (hd : decode M.2.1 pc = .ok (.lreturn, 1)) : Ev M fr lo j pc lv [.long x] σ o := by
  intro r hr p l e R s m args below meth c D ad cs A cells slots Q C hf H locs ls hP hS hl
  have h9 := hj r hr
  have h8 := hf H locs pc ls (by rw [h9]; exact hP) hS (by rw [h9]; exact hd) (by rw [h9]; exact hret)
  rw [h9] at h8
  exact h8
theorem ev_zret {x : Int32} (hj : ∀ r, o = some r → j r = (some (.int x), σ)) (hret : M.2.2.2 = some .boolean) (hd : decode M.2.1 pc = .ok (.ireturn, 1)) : Ev M fr lo j pc lv [.int x] σ (if ag_bl x = true then o else none) := by
  intro r hr
  obtain ⟨h1, h2⟩ := ag_gd hr
  exact ev_iret hj hret (of_decide_eq_true h1) hd r h2
theorem ev_mmax {idx : Nat} {x y : Int32} (hl0 : Cond.methodLink M.1 idx Lib.Math.max.name ∈ ag_tbl) (hR : 1 ≤ fr ∧ (st.map fun v => v.category).sum + 13 ≤ lo) (hd : decode M.2.1 pc = .ok (.invokestatic idx, 3)) (k : Ev M fr lo j (pc + 3) lv (.int (ag_max x y) :: st) σ o) : Ev M fr lo j pc lv (.int y :: .int x :: st) σ o := by
  intro r hr p l e R s m args below meth c D ad cs A cells slots Q C hf H locs ls hP hS hl
  exact va_mmax C.1 C.2.1 (C.2.2.1.trans hl.1.symm) C.2.2.2.1 (C.2.2.2.2.1 _ hl0) (C.2.2.2.2.1 _ ag_st_Math_max) (C.2.2.2.2.1 _ ag_ini_J9) (C.2.2.2.2.1 _ ag_co_Math_max) (Nat.le_trans hR.1 C.2.2.2.2.2.2.2.1.1) (by rw [List.map_map, show ((fun v => Value.category v) ∘ ag_cv ad) = (fun v => Value.category v) from funext (ag_cv_cat ad)]; exact Nat.le_trans hR.2 C.2.2.2.2.2.2.2.1.2) C.2.2.2.2.2.2.2.2.1 C.2.2.2.2.2.2.2.2.2 hd (k r hr _ _ _ _ _ _ _ _ _ _ _ _ _ _ _ _ _ C hf _ _ _ hP hS hl)
theorem ev_mmin {idx : Nat} {x y : Int32} (hl0 : Cond.methodLink M.1 idx Lib.Math.min.name ∈ ag_tbl) (hR : 1 ≤ fr ∧ (st.map fun v => v.category).sum + 13 ≤ lo) (hd : decode M.2.1 pc = .ok (.invokestatic idx, 3)) (k : Ev M fr lo j (pc + 3) lv (.int (ag_min x y) :: st) σ o) : Ev M fr lo j pc lv (.int y :: .int x :: st) σ o := by
  intro r hr p l e R s m args below meth c D ad cs A cells slots Q C hf H locs ls hP hS hl
  exact va_mmin C.1 C.2.1 (C.2.2.1.trans hl.1.symm) C.2.2.2.1 (C.2.2.2.2.1 _ hl0) (C.2.2.2.2.1 _ ag_st_Math_min) (C.2.2.2.2.1 _ ag_ini_J9) (C.2.2.2.2.1 _ ag_co_Math_min) (Nat.le_trans hR.1 C.2.2.2.2.2.2.2.1.1) (by rw [List.map_map, show ((fun v => Value.category v) ∘ ag_cv ad) = (fun v => Value.category v) from funext (ag_cv_cat ad)]; exact Nat.le_trans hR.2 C.2.2.2.2.2.2.2.1.2) C.2.2.2.2.2.2.2.2.1 C.2.2.2.2.2.2.2.2.2 hd (k r hr _ _ _ _ _ _ _ _ _ _ _ _ _ _ _ _ _ C hf _ _ _ hP hS hl)
end RULES
/-! a method's contract, and calls by it -/
def ag_A (ad : Nat → Nat) : Nat → Prop := fun q => ∃ k, k < 77 ∧ q = ad k
def ag_Pc (D : va_G) (ad : Nat → Nat) (cs : Cs) (as : List Value) (σ : Sg) : Array Value → State → Prop := fun v U => v = (as.map (ag_cv ad)).toArray ∧ va_P D ag_cl (ag_W ad cs σ) U.heap ∧ ag_K D cs U ∧ ag_inj ad
def ag_Qc (D : va_G) (ad : Nat → Nat) (cs : Cs) (rv : Option Value × Sg) : Array Value → State → Outcome → State → Prop := fun _ st oc t => oc = .returned (rv.1.map (ag_cv ad)) ∧ va_P D ag_cl (ag_W ad cs rv.2) t.heap ∧ va_F (ag_A ad) st t
def Im (y : MethodName) (M : Md) (fr lo : Nat) {α : Type} (j : α → Option Value × Sg) (as : List Value) (σ : Sg) (o : Option α) : Prop :=
  ∀ (r : α), o = some r → ∀ (l : Launch) (D : va_G) (ad : Nat → Nat) (cs : Cs), Met l y (ag_ws y M.2.1 M.2.2.1 M.2.2.2) ({ frames := fr, cells := 0, slots := 0, locals := lo }) (ag_Pc D ad cs as σ) (ag_Qc D ad cs (j r)) 0 0 (ag_A ad)
theorem ag_end {M : Md} {p : Program} {l : Launch} {e : Env} {R : Room} {s : State} {m : MethodId} {args : Array Value} {below : List Frame} {meth : Method} {c : Code} {D : va_G} {ad : Nat → Nat} {cs : Cs} (hx : p.tables.exec = Jvm.exec) (hb : c.code = M.2.1) (hr : meth.sig.returnType = M.2.2.2) (hlocks : meth.locks = false) (rv : Option Value × Sg) :
    ag_Fin M p l e R s m args below meth c D ad cs (ag_A ad) 0 0 (MQ below (ag_Qc D ad cs rv) args s 0 0 (ag_A ad)) rv := by
  intro H locs pc ls hP hS hd hn
  obtain ⟨v, σ'⟩ := rv
  cases v with
  | none => exact W.vret hx hb (hr.trans hn) (fun t ht hW => ⟨rfl, by rw [ht]; exact hP, hS.F ht⟩) hS.2.2 hd hlocks
  | some v =>
    cases v with
    | int x =>
      obtain ⟨ty, h1, h2⟩ := hn
      exact W.zret hx hb (hr.trans h1) h2 (fun t ht hW => ⟨rfl, by rw [ht]; exact hP, hS.F ht⟩) hS.2.2 hd hlocks
    | long x => exact W.lret hx hb (hr.trans hn) (fun t ht hW => ⟨rfl, by rw [ht]; exact hP, hS.F ht⟩) hS.2.2 hd hlocks
    | _ => exact absurd hn id
theorem Im.of {y : MethodName} {M : Md} {fr lo : Nat} {α : Type} {j : α → Option Value × Sg} {as : List Value} {σ : Sg} {o : Option α} (hy : plainName y.cls = true) (hc : y.cls = M.1) (hn : (lg_sl as).length ≤ M.2.2.1) (h : Ev M fr lo j 0 (lv_args 0 as) [] σ o) : Im y M fr lo j as σ o := by
  intro r hr l D ad cs
  refine Met.ofW (cc := M.2.1) (maxL := M.2.2.1) (ret := M.2.2.2) hy rfl ?_
  intro p e s m args below meth c s₁ B hml hv
  obtain ⟨rfl, hP, hK, hinj⟩ := hv
  have hts := atoms_spec (ws := ag_ws y M.2.1 M.2.2.1 M.2.2.2) B.pre
  have hown : s.vm.findClass M.1 = some m.cls := hc ▸ findClass_of_methodNamed B.named
  have hl := lv_entry (as.map (ag_cv ad)) (n := M.2.2.1) (by rw [ag_sl_len]; exact hn)
  rw [ag_lv_args] at hl
  rw [lg_entry_eq]
  exact h r hr p l e _ s m _ below meth c D ad cs (ag_A ad) 0 0 _ ⟨B.exec, B.bytes, hml, hown, fun w hw => hts w (List.mem_cons_of_mem _ hw), hK, ⟨hinj, fun k hk => ⟨k, hk, rfl⟩⟩, ⟨Nat.le_refl _, Nat.le_refl _⟩, ⟨Nat.zero_le _, Nat.zero_le _⟩⟩ (ag_end B.exec B.bytes B.returns B.notSynchronized (j r)) s.heap [] _ hP va_S.rf hl
section CALLS
variable {p : Program} {l : Launch} {e : Env} {R : Room} {s : State} {m : MethodId} {args : Array Value} {below : List Frame} {meth : Method} {c : Code} {H : Heap} {locs : List Loc} {cells slots : Nat} {Q : State → Prop}
theorem ag_call {D : va_G} {ad : Nat → Nat} {cs : Cs} {A : Nat → Prop} {pc : Nat} {ls : Array Slot} {st0 rest : List Value} {a : Array Value} {rv : Option Value × Sg} (hr : va_Run p l e R s m args below meth c H locs cells slots 0 0 (F0 m pc ls st0) rest (ag_Qc D ad cs rv a) (ag_A ad)) (hS : va_S A s.heap H locs) (hA : ∀ k, k < 77 → A (ad k))
    (kk : ∀ (H1 : Heap) (locs1 : List Loc), va_P D ag_cl (ag_W ad cs rv.2) H1 → va_S A s.heap H1 locs1 → W p l e R s m args below meth c H1 locs1 cells slots Q (F0 m (pc + 3) ls ((rv.1.map (ag_cv ad)).toList ++ rest))) : W p l e R s m args below meth c H locs cells slots Q (F0 m pc ls st0) := by
  intro T hT X
  obtain ⟨v, st₀, t, T', L, h0, X', hL, e1, e2, ⟨hv, hPt, hz, hk⟩, st⟩ := hr T hT X
  have hv' : v = rv.1.map (ag_cv ad) := Outcome.returned.inj hv
  subst hv'
  rw [h0] at hz hk
  obtain ⟨t2, a1, b1⟩ := kk T'.heap (locs ++ L) (by rw [e1]; exact hPt) ⟨Nat.le_trans hS.1 (by rw [e1]; exact hz), fun q h1 h2 => by
      rw [e1, hk q (Nat.lt_of_lt_of_le h1 hS.1) (fun z => h2 (by obtain ⟨k, hk1, rfl⟩ := z; exact hA k hk1))]
      exact hS.2.1 q h1 h2, fun q hq => (List.mem_append.mp hq).elim (hS.2.2 q) (fun h => by
      obtain ⟨k, hk1, hk2⟩ := hL q h
      rw [hk2]
      exact hA k hk1)⟩ T' rfl X'
  exact ⟨t2, st t2 a1, b1⟩
theorem ag_blind {D : va_G} {ad : Nat → Nat} {cs : Cs} {as : List Value} {σ : Sg} : FrameBlind (ag_Pc D ad cs as σ) := by
  intro a U g mk q
  obtain ⟨q0, qP, qK, qi⟩ := q
  exact ⟨q0, qP, ag_K.same (s := U) (U := U.calling g mk a) rfl qK, qi⟩
end CALLS
theorem ag_gws {ws : List Cond} (h : ∀ w ∈ ws, w ∈ ag_tbl) : GoodIn ag_tbl ws := fun w hw => ⟨h w hw, good_of_word (ag_good (h w hw))⟩
theorem ag_ws_in {y : MethodName} {cc : ByteArray} {nL : Nat} {ret : Option FieldType} (h : Cond.code y cc nL ret ∈ ag_tbl) : ∀ w ∈ ag_ws y cc nL ret, w ∈ ag_tbl := by
  intro w hw
  rcases List.mem_cons.mp hw with rfl | hw
  · exact h
  · exact hw
/-- what a virtual call needs of the callee -/
def ag_Mv (y : MethodName) (M : Md) (n : Nat) : Prop := Cond.code y M.2.1 M.2.2.1 M.2.2.2 ∈ ag_tbl ∧ Cond.instanceMethod y ∈ ag_tbl ∧ Cond.selects M.1 y y ∈ ag_tbl ∧ Cond.initialized M.1 ∈ ag_tbl ∧ (y.cls = M.1 ∧ y.cls ≠ "java/lang/invoke/MethodHandle" ∧ y.cls ≠ "java/lang/invoke/VarHandle" ∧ (parseMethodDescriptor y.desc).map (fun d => d.parameters.length) = some n)
def ag_Ms (y : MethodName) (M : Md) (n : Nat) : Prop := Cond.code y M.2.1 M.2.2.1 M.2.2.2 ∈ ag_tbl ∧ Cond.static y ∈ ag_tbl ∧ Cond.initialized y.cls ∈ ag_tbl ∧ (y.cls ≠ "java/lang/invoke/MethodHandle" ∧ y.cls ≠ "java/lang/invoke/VarHandle" ∧ (parseMethodDescriptor y.desc).map (fun d => d.parameters.length) = some n)
def ag_CV (M : Md) (fr lo pc : Nat) (st : List Value) (y : MethodName) (M' : Md) (fr' lo' b : Nat) (as rest : List Value) : Prop :=
  ∃ (ci idx N : Nat) (T : u_T) (ty : Nat → FieldType), ag_Cf ci M'.1 T N ty ∧ (ag_kd b = (ci, N) ∧ b < 77) ∧ ag_Mv y M' as.length ∧ Cond.methodLink M.1 idx y ∈ ag_tbl ∧ st = as.reverse ++ .ref b :: rest ∧ (rest.map fun v => v.category).sum ≤ 8 ∧ (fr' + 1 ≤ fr ∧ 8 + (M'.2.2.1 + 11) + lo' ≤ lo) ∧ decode M.2.1 pc = .ok (.invokevirtual idx, 3)
def ag_CS (M : Md) (fr lo pc : Nat) (st : List Value) (y : MethodName) (M' : Md) (fr' lo' : Nat) (as rest : List Value) : Prop :=
  ∃ idx : Nat, ag_Ms y M' as.length ∧ Cond.methodLink M.1 idx y ∈ ag_tbl ∧ st = as.reverse ++ rest ∧ (rest.map fun v => v.category).sum ≤ 8 ∧ (fr' + 1 ≤ fr ∧ 8 + (M'.2.2.1 + 11) + lo' ≤ lo) ∧ decode M.2.1 pc = .ok (.invokestatic idx, 3)
theorem ag_catm (ad : Nat → Nat) (st : List Value) : ((st.map (ag_cv ad)).map fun v => v.category) = st.map fun v => v.category := by
  rw [List.map_map]
  congr 1
  funext v
  exact ag_cv_cat ad v
section CALLS2
variable {M : Md} {fr lo : Nat} {α β : Type} {j : α → Option Value × Sg} {pc : Nat} {lv : List (Nat × Value)} {st : List Value} {σ : Sg} {y : MethodName} {M' : Md} {fr' lo' : Nat} {as rest : List Value} {o' : Option β} {oc : β → Option α}
theorem ev_callV {b : Nat} {j' : β → Option Value × Sg} (hc : ag_CV M fr lo pc st y M' fr' lo' b as rest) (hM : Im y M' fr' lo' j' (.ref b :: as) σ o') (k : ∀ r', o' = some r' → Ev M fr lo j (pc + 3) lv ((j' r').1.toList ++ rest) (j' r').2 (oc r')) : Ev M fr lo j pc lv st σ (o'.bind oc) := by
  intro r hr p l e R s m args below meth c D ad cs A cells slots Q C hf H locs ls hP hS hl
  obtain ⟨ci, idx, N, T, ty, hC, ⟨hk, h77⟩, ⟨hco, him, hse, hini, hds⟩, hml, hst, hw, hR, hd⟩ := hc
  obtain ⟨r', h1, h2⟩ := Option.bind_eq_some_iff.mp hr
  have hts := C.2.2.2.2.1
  have hG : GoodIn ag_tbl (wsV M.1 idx M'.1 y (ag_ws y M'.2.1 M'.2.2.1 M'.2.2.2)) := ag_gws (fun w hw => by
    rcases List.mem_append.mp hw with hw | hw
    · simp only [List.mem_cons, List.not_mem_nil, or_false] at hw
      rcases hw with rfl | rfl | rfl | rfl <;> assumption
    · exact ag_ws_in hco w hw)
  subst hst
  refine ag_call (rv := j' r') (rest := rest.map (ag_cv ad)) (va_runV (As := as.map (ag_cv ad)) (b := ad b) ⟨C.1, C.2.1, C.2.2.1, C.2.2.2.1, hts⟩ (hM r' h1 l D ad cs) (cwV (C := M'.1) as.length hts hG rfl rfl rfl hds ⟨Nat.le_trans hR.1 C.2.2.2.2.2.2.2.1.1, Nat.le_trans hR.2 C.2.2.2.2.2.2.2.1.2⟩)
    ⟨ag_blind, va_recv C.2.2.2.2.2.1.1 hP hC.1 (ag_W_o ad cs σ h77 hk hC), fun U hU hW => ⟨rfl, by rw [hU]; exact hP, C.2.2.2.2.2.1.warm hW, C.2.2.2.2.2.2.1.1⟩⟩ rfl (by rw [List.length_map]) hl.1 (by simp only [List.map_append, List.map_reverse, List.map_cons]; rfl) (lv_room (by rw [ag_catm]; exact hw)) hd C.2.2.2.2.2.2.2.2) hS C.2.2.2.2.2.2.1.2 (fun H1 locs1 hP1 hS1 => ?_)
  have h9 := k r' h1 r h2 _ _ _ _ _ _ _ _ _ _ _ _ _ _ _ _ _ C hf H1 locs1 ls hP1 hS1 hl
  have e9 : ((j' r').1.map (ag_cv ad)).toList ++ rest.map (ag_cv ad) = ((j' r').1.toList ++ rest).map (ag_cv ad) := by
    rw [List.map_append]
    cases (j' r').1 <;> rfl
  rw [e9]
  exact h9
theorem ev_callS {j' : β → Option Value × Sg} (hc : ag_CS M fr lo pc st y M' fr' lo' as rest) (hM : Im y M' fr' lo' j' as σ o') (k : ∀ r', o' = some r' → Ev M fr lo j (pc + 3) lv ((j' r').1.toList ++ rest) (j' r').2 (oc r')) : Ev M fr lo j pc lv st σ (o'.bind oc) := by
  intro r hr p l e R s m args below meth c D ad cs A cells slots Q C hf H locs ls hP hS hl
  obtain ⟨idx, ⟨hco, hsta, hini, hds⟩, hml, hst, hw, hR, hd⟩ := hc
  obtain ⟨r', h1, h2⟩ := Option.bind_eq_some_iff.mp hr
  have hts := C.2.2.2.2.1
  subst hst
  refine ag_call (rv := j' r') (rest := rest.map (ag_cv ad)) (va_runS (As := as.map (ag_cv ad)) ⟨C.1, C.2.1, C.2.2.1, C.2.2.2.1, hts⟩ (hM r' h1 l D ad cs) ⟨callB_of as.length hts (ag_gws (ag_ws_in hco)) rfl rfl rfl (hts _ hini) (hts _ hml) hds ⟨Nat.le_trans hR.1 C.2.2.2.2.2.2.2.1.1, Nat.le_trans hR.2 C.2.2.2.2.2.2.2.1.2⟩, hts _ hsta⟩
    ⟨ag_blind, fun U hU hW => ⟨rfl, by rw [hU]; exact hP, C.2.2.2.2.2.1.warm hW, C.2.2.2.2.2.2.1.1⟩⟩ rfl (by rw [List.length_map]) hl.1 (by simp only [List.map_append, List.map_reverse]) (lv_room (by rw [ag_catm]; exact hw)) hd C.2.2.2.2.2.2.2.2) hS C.2.2.2.2.2.2.1.2 (fun H1 locs1 hP1 hS1 => ?_)
  have h9 := k r' h1 r h2 _ _ _ _ _ _ _ _ _ _ _ _ _ _ _ _ _ C hf H1 locs1 ls hP1 hS1 hl
  have e9 : ((j' r').1.map (ag_cv ad)).toList ++ rest.map (ag_cv ad) = ((j' r').1.toList ++ rest).map (ag_cv ad) := by
    rw [List.map_append]
    cases (j' r').1 <;> rfl
  rw [e9]
  exact h9
/-- the one call of a nest mate's private method: a row asks isBelow -/
theorem ev_callN {j' : β → Option Value × Sg} (hown : M.1 = RX3) (hMs : ag_Ms yX6_isBelow M' as.length) (hst : st = as.reverse ++ rest) (hw : (rest.map fun v => v.category).sum ≤ 8) (hR : fr' + 1 ≤ fr ∧ 8 + (M'.2.2.1 + 11) + lo' ≤ lo) (hd : decode M.2.1 pc = .ok (.invokestatic 32, 3)) (hM : Im yX6_isBelow M' fr' lo' j' as σ o') (k : ∀ r', o' = some r' → Ev M fr lo j (pc + 3) lv ((j' r').1.toList ++ rest) (j' r').2 (oc r')) : Ev M fr lo j pc lv st σ (o'.bind oc) := by
  intro r hr p l e R s m args below meth c D ad cs A cells slots Q C hf H locs ls hP hS hl
  obtain ⟨hco, hsta, hini, hds⟩ := hMs
  obtain ⟨r', h1, h2⟩ := Option.bind_eq_some_iff.mp hr
  have hts := C.2.2.2.2.1
  have hnw : va_Nw (Cond.methodLinkNest M.1 32 yX6_isBelow RX6) s := by rw [hown]; exact C.2.2.2.2.2.1.2
  subst hst
  refine ag_call (rv := j' r') (rest := rest.map (ag_cv ad)) (va_runSN (As := as.map (ag_cv ad)) ⟨C.1, C.2.1, C.2.2.1, C.2.2.2.1, hts⟩ (hM r' h1 l D ad cs) ⟨va_cnB as.length hts (ag_gws (ag_ws_in hco)) rfl rfl rfl hnw (hts _ hini) hds ⟨Nat.le_trans hR.1 C.2.2.2.2.2.2.2.1.1, Nat.le_trans hR.2 C.2.2.2.2.2.2.2.1.2⟩, hts _ hsta, trivial⟩
    ⟨ag_blind, fun U hU hW => ⟨rfl, by rw [hU]; exact hP, C.2.2.2.2.2.1.warm hW, C.2.2.2.2.2.2.1.1⟩⟩ rfl (by rw [List.length_map]) hl.1 (by simp only [List.map_append, List.map_reverse]) (lv_room (by rw [ag_catm]; exact hw)) hd C.2.2.2.2.2.2.2.2) hS C.2.2.2.2.2.2.1.2 (fun H1 locs1 hP1 hS1 => ?_)
  have h9 := k r' h1 r h2 _ _ _ _ _ _ _ _ _ _ _ _ _ _ _ _ _ C hf H1 locs1 ls hP1 hS1 hl
  have e9 : ((j' r').1.map (ag_cv ad)).toList ++ rest.map (ag_cv ad) = ((j' r').1.toList ++ rest).map (ag_cv ad) := by
    rw [List.map_append]
    cases (j' r').1 <;> rfl
  rw [e9]
  exact h9
end CALLS2
/-! answers: an int, an int and a world, a world, a long, a long and a world -/
def jI (σ : Sg) (r : Int32) : Option Value × Sg := (some (.int r), σ)
def jW (r : Int32 × Sg) : Option Value × Sg := (some (.int r.1), r.2)
def jV (r : Sg) : Option Value × Sg := (none, r)
def jL (σ : Sg) (r : Int64) : Option Value × Sg := (some (.long r), σ)
def jM (r : Int64 × Sg) : Option Value × Sg := (some (.long r.1), r.2)
section CALLS3
variable {M : Md} {fr lo : Nat} {α : Type} {j : α → Option Value × Sg} {pc : Nat} {lv : List (Nat × Value)} {st : List Value} {σ : Sg} {y : MethodName} {M' : Md} {fr' lo' b : Nat} {as rest : List Value}
theorem ev_vI {o' : Option Int32} {oc : Int32 → Option α} (hc : ag_CV M fr lo pc st y M' fr' lo' b as rest) (hM : Im y M' fr' lo' (jI σ) (.ref b :: as) σ o') (k : ∀ r : Int32, Ev M fr lo j (pc + 3) lv (.int r :: rest) σ (oc r)) : Ev M fr lo j pc lv st σ (o'.bind oc) := ev_callV hc hM (fun r _ => k r)
theorem ev_vW {o' : Option (Int32 × Sg)} {oc : Int32 × Sg → Option α} (hc : ag_CV M fr lo pc st y M' fr' lo' b as rest) (hM : Im y M' fr' lo' jW (.ref b :: as) σ o') (k : ∀ r : Int32 × Sg, Ev M fr lo j (pc + 3) lv (.int r.1 :: rest) r.2 (oc r)) : Ev M fr lo j pc lv st σ (o'.bind oc) := ev_callV hc hM (fun r _ => k r)
theorem ev_vV {o' : Option Sg} {oc : Sg → Option α} (hc : ag_CV M fr lo pc st y M' fr' lo' b as rest) (hM : Im y M' fr' lo' jV (.ref b :: as) σ o') (k : ∀ r : Sg, Ev M fr lo j (pc + 3) lv rest r (oc r)) : Ev M fr lo j pc lv st σ (o'.bind oc) := ev_callV hc hM (fun r _ => k r)
theorem ev_vL {o' : Option Int64} {oc : Int64 → Option α} (hc : ag_CV M fr lo pc st y M' fr' lo' b as rest) (hM : Im y M' fr' lo' (jL σ) (.ref b :: as) σ o') (k : ∀ r : Int64, Ev M fr lo j (pc + 3) lv (.long r :: rest) σ (oc r)) : Ev M fr lo j pc lv st σ (o'.bind oc) := ev_callV hc hM (fun r _ => k r)
theorem ev_vM {o' : Option (Int64 × Sg)} {oc : Int64 × Sg → Option α} (hc : ag_CV M fr lo pc st y M' fr' lo' b as rest) (hM : Im y M' fr' lo' jM (.ref b :: as) σ o') (k : ∀ r : Int64 × Sg, Ev M fr lo j (pc + 3) lv (.long r.1 :: rest) r.2 (oc r)) : Ev M fr lo j pc lv st σ (o'.bind oc) := ev_callV hc hM (fun r _ => k r)
theorem ev_sI {o' : Option Int32} {oc : Int32 → Option α} (hc : ag_CS M fr lo pc st y M' fr' lo' as rest) (hM : Im y M' fr' lo' (jI σ) as σ o') (k : ∀ r : Int32, Ev M fr lo j (pc + 3) lv (.int r :: rest) σ (oc r)) : Ev M fr lo j pc lv st σ (o'.bind oc) := ev_callS hc hM (fun r _ => k r)
theorem ev_sV {o' : Option Sg} {oc : Sg → Option α} (hc : ag_CS M fr lo pc st y M' fr' lo' as rest) (hM : Im y M' fr' lo' jV as σ o') (k : ∀ r : Sg, Ev M fr lo j (pc + 3) lv rest r (oc r)) : Ev M fr lo j pc lv st σ (o'.bind oc) := ev_callS hc hM (fun r _ => k r)
theorem ev_sL {o' : Option Int64} {oc : Int64 → Option α} (hc : ag_CS M fr lo pc st y M' fr' lo' as rest) (hM : Im y M' fr' lo' (jL σ) as σ o') (k : ∀ r : Int64, Ev M fr lo j (pc + 3) lv (.long r :: rest) σ (oc r)) : Ev M fr lo j pc lv st σ (o'.bind oc) := ev_callS hc hM (fun r _ => k r)
theorem ev_nI {o' : Option Int32} {oc : Int32 → Option α} (hown : M.1 = RX3) (hMs : ag_Ms yX6_isBelow M' as.length) (hst : st = as.reverse ++ rest) (hw : (rest.map fun v => v.category).sum ≤ 8) (hR : fr' + 1 ≤ fr ∧ 8 + (M'.2.2.1 + 11) + lo' ≤ lo) (hd : decode M.2.1 pc = .ok (.invokestatic 32, 3)) (hM : Im yX6_isBelow M' fr' lo' (jI σ) as σ o') (k : ∀ r : Int32, Ev M fr lo j (pc + 3) lv (.int r :: rest) σ (oc r)) : Ev M fr lo j pc lv st σ (o'.bind oc) := ev_callN hown hMs hst hw hR hd hM (fun r _ => k r)
end CALLS3
/-! the cells of the two Years, the Folks, the Posts, the Rows -/
def ag_Y (b : Nat) : Prop := b = 3 ∨ b = 21
def ag_F (b : Nat) : Prop := b = 4 ∨ b = 22
def ag_P (b : Nat) : Prop := b = 10 ∨ b = 28
def ag_R (b : Nat) : Prop := b = 45 ∨ b = 47 ∨ b = 49 ∨ b = 51
theorem ag_YF {b : Nat} (h : ag_Y b) : ag_F (b + 1) := h.elim (fun e => Or.inl (by rw [e])) (fun e => Or.inr (by rw [e]))
theorem ag_YP {b : Nat} (h : ag_Y b) : ag_P (b + 7) := h.elim (fun e => Or.inl (by rw [e])) (fun e => Or.inr (by rw [e]))
theorem ag_RR {i : Int32} (h : ag_ib i 4 = true) : ag_R (45 + 2 * i.toNatClampNeg) := by
  have h1 : i.toNatClampNeg < 4 := Nat.not_le.mp fun q => ag_ib_in h (Or.inr q)
  unfold ag_R
  omega
theorem ag_Yk {b : Nat} (h : ag_Y b) : ag_kd b = (5, 10) ∧ b < 77 := by rcases h with rfl | rfl <;> exact ⟨rfl, by decide⟩
theorem ag_Fk {b : Nat} (h : ag_F b) : ag_kd b = (1, 6) ∧ b < 77 := by rcases h with rfl | rfl <;> exact ⟨rfl, by decide⟩
theorem ag_Pk {b : Nat} (h : ag_P b) : ag_kd b = (2, 6) ∧ b < 77 := by rcases h with rfl | rfl <;> exact ⟨rfl, by decide⟩
theorem ag_Rk {b : Nat} (h : ag_R b) : ag_kd b = (3, 4) ∧ b < 77 := by rcases h with rfl | rfl | rfl | rfl <;> exact ⟨rfl, by decide⟩
theorem ag_Yt0 {b : Nat} (h : ag_Y b) : ag_tg b 0 = some (b + 1) := by rcases h with rfl | rfl <;> rfl
theorem ag_Yt1 {b : Nat} (h : ag_Y b) : ag_tg b 1 = some (b + 7) := by rcases h with rfl | rfl <;> rfl
theorem ag_Yt2 {b : Nat} (h : ag_Y b) : ag_tg b 2 = none := by rcases h with rfl | rfl <;> rfl
theorem ag_Yt3 {b : Nat} (h : ag_Y b) : ag_tg b 3 = none := by rcases h with rfl | rfl <;> rfl
theorem ag_Yt4 {b : Nat} (h : ag_Y b) : ag_tg b 4 = none := by rcases h with rfl | rfl <;> rfl
theorem ag_Yt5 {b : Nat} (h : ag_Y b) : ag_tg b 5 = some (b + 13) := by rcases h with rfl | rfl <;> rfl
theorem ag_Yt6 {b : Nat} (h : ag_Y b) : ag_tg b 6 = some (b + 14) := by rcases h with rfl | rfl <;> rfl
theorem ag_Yt7 {b : Nat} (h : ag_Y b) : ag_tg b 7 = some (b + 15) := by rcases h with rfl | rfl <;> rfl
theorem ag_Yt8 {b : Nat} (h : ag_Y b) : ag_tg b 8 = some (b + 16) := by rcases h with rfl | rfl <;> rfl
theorem ag_Yt9 {b : Nat} (h : ag_Y b) : ag_tg b 9 = some (b + 17) := by rcases h with rfl | rfl <;> rfl
theorem ag_Ya13 {b : Nat} (h : ag_Y b) : ag_kd (b + 13) = (8, 13) ∧ b + 13 < 77 := by rcases h with rfl | rfl <;> exact ⟨rfl, by decide⟩
theorem ag_Ya14 {b : Nat} (h : ag_Y b) : ag_kd (b + 14) = (8, 13) ∧ b + 14 < 77 := by rcases h with rfl | rfl <;> exact ⟨rfl, by decide⟩
theorem ag_Ya15 {b : Nat} (h : ag_Y b) : ag_kd (b + 15) = (8, 10) ∧ b + 15 < 77 := by rcases h with rfl | rfl <;> exact ⟨rfl, by decide⟩
theorem ag_Ya16 {b : Nat} (h : ag_Y b) : ag_kd (b + 16) = (8, 80) ∧ b + 16 < 77 := by rcases h with rfl | rfl <;> exact ⟨rfl, by decide⟩
theorem ag_Ya17 {b : Nat} (h : ag_Y b) : ag_kd (b + 17) = (8, 10) ∧ b + 17 < 77 := by rcases h with rfl | rfl <;> exact ⟨rfl, by decide⟩
theorem ag_Ft0 {b : Nat} (h : ag_F b) : ag_tg b 0 = none := by rcases h with rfl | rfl <;> rfl
theorem ag_Ft1 {b : Nat} (h : ag_F b) : ag_tg b 1 = some (b + 1) := by rcases h with rfl | rfl <;> rfl
theorem ag_Ft2 {b : Nat} (h : ag_F b) : ag_tg b 2 = some (b + 2) := by rcases h with rfl | rfl <;> rfl
theorem ag_Ft3 {b : Nat} (h : ag_F b) : ag_tg b 3 = some (b + 3) := by rcases h with rfl | rfl <;> rfl
theorem ag_Ft4 {b : Nat} (h : ag_F b) : ag_tg b 4 = some (b + 4) := by rcases h with rfl | rfl <;> rfl
theorem ag_Ft5 {b : Nat} (h : ag_F b) : ag_tg b 5 = some (b + 5) := by rcases h with rfl | rfl <;> rfl
theorem ag_Fa1 {b : Nat} (h : ag_F b) : ag_kd (b + 1) = (8, 10) ∧ b + 1 < 77 := by rcases h with rfl | rfl <;> exact ⟨rfl, by decide⟩
theorem ag_Fa2 {b : Nat} (h : ag_F b) : ag_kd (b + 2) = (8, 10) ∧ b + 2 < 77 := by rcases h with rfl | rfl <;> exact ⟨rfl, by decide⟩
theorem ag_Fa3 {b : Nat} (h : ag_F b) : ag_kd (b + 3) = (8, 10) ∧ b + 3 < 77 := by rcases h with rfl | rfl <;> exact ⟨rfl, by decide⟩
theorem ag_Fa4 {b : Nat} (h : ag_F b) : ag_kd (b + 4) = (8, 10) ∧ b + 4 < 77 := by rcases h with rfl | rfl <;> exact ⟨rfl, by decide⟩
theorem ag_Fa5 {b : Nat} (h : ag_F b) : ag_kd (b + 5) = (8, 10) ∧ b + 5 < 77 := by rcases h with rfl | rfl <;> exact ⟨rfl, by decide⟩
theorem ag_Pt0 {b : Nat} (h : ag_P b) : ag_tg b 0 = none := by rcases h with rfl | rfl <;> rfl
theorem ag_Pt1 {b : Nat} (h : ag_P b) : ag_tg b 1 = some (b + 1) := by rcases h with rfl | rfl <;> rfl
theorem ag_Pt2 {b : Nat} (h : ag_P b) : ag_tg b 2 = some (b + 2) := by rcases h with rfl | rfl <;> rfl
theorem ag_Pt3 {b : Nat} (h : ag_P b) : ag_tg b 3 = some (b + 3) := by rcases h with rfl | rfl <;> rfl
theorem ag_Pt4 {b : Nat} (h : ag_P b) : ag_tg b 4 = some (b + 4) := by rcases h with rfl | rfl <;> rfl
theorem ag_Pt5 {b : Nat} (h : ag_P b) : ag_tg b 5 = some (b + 5) := by rcases h with rfl | rfl <;> rfl
theorem ag_Pa1 {b : Nat} (h : ag_P b) : ag_kd (b + 1) = (8, 13) ∧ b + 1 < 77 := by rcases h with rfl | rfl <;> exact ⟨rfl, by decide⟩
theorem ag_Pa2 {b : Nat} (h : ag_P b) : ag_kd (b + 2) = (8, 13) ∧ b + 2 < 77 := by rcases h with rfl | rfl <;> exact ⟨rfl, by decide⟩
theorem ag_Pa3 {b : Nat} (h : ag_P b) : ag_kd (b + 3) = (8, 13) ∧ b + 3 < 77 := by rcases h with rfl | rfl <;> exact ⟨rfl, by decide⟩
theorem ag_Pa4 {b : Nat} (h : ag_P b) : ag_kd (b + 4) = (8, 13) ∧ b + 4 < 77 := by rcases h with rfl | rfl <;> exact ⟨rfl, by decide⟩
theorem ag_Pa5 {b : Nat} (h : ag_P b) : ag_kd (b + 5) = (8, 13) ∧ b + 5 < 77 := by rcases h with rfl | rfl <;> exact ⟨rfl, by decide⟩
theorem ag_Rt0 {b : Nat} (h : ag_R b) : ag_tg b 0 = none := by rcases h with rfl | rfl | rfl | rfl <;> rfl
theorem ag_Rt1 {b : Nat} (h : ag_R b) : ag_tg b 1 = none := by rcases h with rfl | rfl | rfl | rfl <;> rfl
theorem ag_Rt2 {b : Nat} (h : ag_R b) : ag_tg b 2 = none := by rcases h with rfl | rfl | rfl | rfl <;> rfl
theorem ag_Rt3 {b : Nat} (h : ag_R b) : ag_tg b 3 = some (b + 1) := by rcases h with rfl | rfl | rfl | rfl <;> rfl
theorem ag_Ra1 {b : Nat} (h : ag_R b) : ag_kd (b + 1) = (8, 48) ∧ b + 1 < 77 := by rcases h with rfl | rfl | rfl | rfl <;> exact ⟨rfl, by decide⟩

theorem ag_C0 : ag_Cf 0 RX0 TX0 5 tyX0 := ⟨rfl, ag_inX0, tyX0_ok, nmX0⟩
theorem ag_C1 : ag_Cf 1 RX1 TX1 6 tyX1 := ⟨rfl, ag_inX1, tyX1_ok, nmX1⟩
theorem ag_C2 : ag_Cf 2 RX2 TX2 6 tyX2 := ⟨rfl, ag_inX2, tyX2_ok, nmX2⟩
theorem ag_C3 : ag_Cf 3 RX3 TX3 4 tyX3 := ⟨rfl, ag_inX3, tyX3_ok, nmX3⟩
theorem ag_C4 : ag_Cf 4 RX4 TX4 2 tyX4 := ⟨rfl, ag_inX4, tyX4_ok, nmX4⟩
theorem ag_C5 : ag_Cf 5 RX5 TX5 10 tyX5 := ⟨rfl, ag_inX5, tyX5_ok, nmX5⟩
theorem ag_C6 : ag_Cf 6 RX6 TX6 8 tyX6 := ⟨rfl, ag_inX6, tyX6_ok, nmX6⟩
theorem ag_C7 : ag_Cf 7 RX7 TX7 37 tyX7 := ⟨rfl, ag_inX7, tyX7_ok, nmX7⟩
end
section
-- by program (wip/whole/emit.py): each method as a function, and its walk
-- X0_addOne
def mX0_addOne : Md := (RX0, cX0_addOne, 5, none)
theorem mv_X0_addOne : ag_Mv yX0_addOne mX0_addOne 4 := ⟨ag_co_X0_addOne, ag_im_X0_addOne, ag_se_X0_addOne, ag_ini_X0, by decide +kernel⟩
theorem dX0_addOne_0 : decode mX0_addOne.2.1 0 = .ok (.aload_n 0, 1) := by decide +kernel
theorem dX0_addOne_1 : decode mX0_addOne.2.1 1 = .ok (.getfield 9, 3) := by decide +kernel
theorem dX0_addOne_4 : decode mX0_addOne.2.1 4 = .ok (.bipush 8, 2) := by decide +kernel
theorem dX0_addOne_6 : decode mX0_addOne.2.1 6 = .ok (.if_icmp .lt 4, 3) := by decide +kernel
theorem dX0_addOne_9 : decode mX0_addOne.2.1 9 = .ok (.return_, 1) := by decide +kernel
theorem dX0_addOne_10 : decode mX0_addOne.2.1 10 = .ok (.aload_n 0, 1) := by decide +kernel
theorem dX0_addOne_11 : decode mX0_addOne.2.1 11 = .ok (.getfield 15, 3) := by decide +kernel
theorem dX0_addOne_14 : decode mX0_addOne.2.1 14 = .ok (.aload_n 0, 1) := by decide +kernel
theorem dX0_addOne_15 : decode mX0_addOne.2.1 15 = .ok (.getfield 9, 3) := by decide +kernel
theorem dX0_addOne_18 : decode mX0_addOne.2.1 18 = .ok (.iload_n 1, 1) := by decide +kernel
theorem dX0_addOne_19 : decode mX0_addOne.2.1 19 = .ok (.iastore, 1) := by decide +kernel
theorem dX0_addOne_20 : decode mX0_addOne.2.1 20 = .ok (.aload_n 0, 1) := by decide +kernel
theorem dX0_addOne_21 : decode mX0_addOne.2.1 21 = .ok (.getfield 19, 3) := by decide +kernel
theorem dX0_addOne_24 : decode mX0_addOne.2.1 24 = .ok (.aload_n 0, 1) := by decide +kernel
theorem dX0_addOne_25 : decode mX0_addOne.2.1 25 = .ok (.getfield 9, 3) := by decide +kernel
theorem dX0_addOne_28 : decode mX0_addOne.2.1 28 = .ok (.iload_n 2, 1) := by decide +kernel
theorem dX0_addOne_29 : decode mX0_addOne.2.1 29 = .ok (.iastore, 1) := by decide +kernel
theorem dX0_addOne_30 : decode mX0_addOne.2.1 30 = .ok (.aload_n 0, 1) := by decide +kernel
theorem dX0_addOne_31 : decode mX0_addOne.2.1 31 = .ok (.getfield 22, 3) := by decide +kernel
theorem dX0_addOne_34 : decode mX0_addOne.2.1 34 = .ok (.aload_n 0, 1) := by decide +kernel
theorem dX0_addOne_35 : decode mX0_addOne.2.1 35 = .ok (.getfield 9, 3) := by decide +kernel
theorem dX0_addOne_38 : decode mX0_addOne.2.1 38 = .ok (.iload_n 3, 1) := by decide +kernel
theorem dX0_addOne_39 : decode mX0_addOne.2.1 39 = .ok (.iastore, 1) := by decide +kernel
theorem dX0_addOne_40 : decode mX0_addOne.2.1 40 = .ok (.aload_n 0, 1) := by decide +kernel
theorem dX0_addOne_41 : decode mX0_addOne.2.1 41 = .ok (.getfield 25, 3) := by decide +kernel
theorem dX0_addOne_44 : decode mX0_addOne.2.1 44 = .ok (.aload_n 0, 1) := by decide +kernel
theorem dX0_addOne_45 : decode mX0_addOne.2.1 45 = .ok (.getfield 9, 3) := by decide +kernel
theorem dX0_addOne_48 : decode mX0_addOne.2.1 48 = .ok (.iload 4, 2) := by decide +kernel
theorem dX0_addOne_50 : decode mX0_addOne.2.1 50 = .ok (.iastore, 1) := by decide +kernel
theorem dX0_addOne_51 : decode mX0_addOne.2.1 51 = .ok (.aload_n 0, 1) := by decide +kernel
theorem dX0_addOne_52 : decode mX0_addOne.2.1 52 = .ok (.dup, 1) := by decide +kernel
theorem dX0_addOne_53 : decode mX0_addOne.2.1 53 = .ok (.getfield 9, 3) := by decide +kernel
theorem dX0_addOne_56 : decode mX0_addOne.2.1 56 = .ok (.iconst 1, 1) := by decide +kernel
theorem dX0_addOne_57 : decode mX0_addOne.2.1 57 = .ok (.iadd, 1) := by decide +kernel
theorem dX0_addOne_58 : decode mX0_addOne.2.1 58 = .ok (.putfield 9, 3) := by decide +kernel
theorem dX0_addOne_61 : decode mX0_addOne.2.1 61 = .ok (.return_, 1) := by decide +kernel
def fn_X0_addOne (x1 : Int32) (x2 : Int32) (x3 : Int32) (x4 : Int32) (σ : Sg) : Option Sg :=
  (if (σ 39 0) < 8 then (if ag_ib (σ 39 0) 8 = true then (if ag_ib ((ag_up σ 40 (σ 39 0).toNatClampNeg x1) 39 0) 8 = true then (if ag_ib ((ag_up (ag_up σ 40 (σ 39 0).toNatClampNeg x1) 41 ((ag_up σ 40 (σ 39 0).toNatClampNeg x1) 39 0).toNatClampNeg x2) 39 0) 8 = true then (if ag_ib ((ag_up (ag_up (ag_up σ 40 (σ 39 0).toNatClampNeg x1) 41 ((ag_up σ 40 (σ 39 0).toNatClampNeg x1) 39 0).toNatClampNeg x2) 42 ((ag_up (ag_up σ 40 (σ 39 0).toNatClampNeg x1) 41 ((ag_up σ 40 (σ 39 0).toNatClampNeg x1) 39 0).toNatClampNeg x2) 39 0).toNatClampNeg x3) 39 0) 8 = true then (some (ag_up (ag_up (ag_up (ag_up (ag_up σ 40 (σ 39 0).toNatClampNeg x1) 41 ((ag_up σ 40 (σ 39 0).toNatClampNeg x1) 39 0).toNatClampNeg x2) 42 ((ag_up (ag_up σ 40 (σ 39 0).toNatClampNeg x1) 41 ((ag_up σ 40 (σ 39 0).toNatClampNeg x1) 39 0).toNatClampNeg x2) 39 0).toNatClampNeg x3) 43 ((ag_up (ag_up (ag_up σ 40 (σ 39 0).toNatClampNeg x1) 41 ((ag_up σ 40 (σ 39 0).toNatClampNeg x1) 39 0).toNatClampNeg x2) 42 ((ag_up (ag_up σ 40 (σ 39 0).toNatClampNeg x1) 41 ((ag_up σ 40 (σ 39 0).toNatClampNeg x1) 39 0).toNatClampNeg x2) 39 0).toNatClampNeg x3) 39 0).toNatClampNeg x4) 39 0 (((ag_up (ag_up (ag_up (ag_up σ 40 (σ 39 0).toNatClampNeg x1) 41 ((ag_up σ 40 (σ 39 0).toNatClampNeg x1) 39 0).toNatClampNeg x2) 42 ((ag_up (ag_up σ 40 (σ 39 0).toNatClampNeg x1) 41 ((ag_up σ 40 (σ 39 0).toNatClampNeg x1) 39 0).toNatClampNeg x2) 39 0).toNatClampNeg x3) 43 ((ag_up (ag_up (ag_up σ 40 (σ 39 0).toNatClampNeg x1) 41 ((ag_up σ 40 (σ 39 0).toNatClampNeg x1) 39 0).toNatClampNeg x2) 42 ((ag_up (ag_up σ 40 (σ 39 0).toNatClampNeg x1) 41 ((ag_up σ 40 (σ 39 0).toNatClampNeg x1) 39 0).toNatClampNeg x2) 39 0).toNatClampNeg x3) 39 0).toNatClampNeg x4) 39 0) + 1))) else none) else none) else none) else none)
  else (some σ))
set_option maxRecDepth 20000 in
set_option maxHeartbeats 4000000 in
theorem im_X0_addOne (x1 : Int32) (x2 : Int32) (x3 : Int32) (x4 : Int32) (σ : Sg) : Im yX0_addOne mX0_addOne 0 0 jV [.ref 39, .int x1, .int x2, .int x3, .int x4] σ (fn_X0_addOne x1 x2 x3 x4 σ) := by
  refine Im.of (by decide +kernel) rfl (Nat.le_of_ble_eq_true rfl) ?_
  show Ev mX0_addOne 0 0 jV 0 [(0, .ref 39), (1, .int x1), (2, .int x2), (3, .int x3), (4, .int x4)] [] σ (fn_X0_addOne x1 x2 x3 x4 σ)
  unfold fn_X0_addOne
  refine ev_aload_n (pc := 0) (i := 0) 0 dX0_addOne_0 rfl rfl ?_
  refine ev_getI (pc := 1) 0 ag_C0 (rfl) (by decide) (Nat.le_of_ble_eq_true rfl) rfl rfl ag_fl_X0_9 dX0_addOne_1 ?_
  refine ev_bipush (pc := 4) (v := 8) dX0_addOne_4 (by decide) ?_
  refine ev_icmp_lt (pc := 6) (tgt := 10) dX0_addOne_6 rfl ?_ ?_
  · refine ev_aload_n (pc := 10) (i := 0) 0 dX0_addOne_10 rfl rfl ?_
    refine ev_getR (pc := 11) (t := 40) 1 ag_C0 (rfl) (by decide) (Nat.le_of_ble_eq_true rfl) rfl rfl ag_fl_X0_15 dX0_addOne_11 ?_
    refine ev_aload_n (pc := 14) (i := 0) 0 dX0_addOne_14 rfl rfl ?_
    refine ev_getI (pc := 15) 0 ag_C0 (rfl) (by decide) (Nat.le_of_ble_eq_true rfl) rfl rfl ag_fl_X0_9 dX0_addOne_15 ?_
    refine ev_iload_n (pc := 18) (i := 1) 1 dX0_addOne_18 rfl rfl ?_
    refine ev_iast (pc := 19) (rfl) (by decide) dX0_addOne_19 ?_
    refine ev_aload_n (pc := 20) (i := 0) 0 dX0_addOne_20 rfl rfl ?_
    refine ev_getR (pc := 21) (t := 41) 2 ag_C0 (rfl) (by decide) (Nat.le_of_ble_eq_true rfl) rfl rfl ag_fl_X0_19 dX0_addOne_21 ?_
    refine ev_aload_n (pc := 24) (i := 0) 0 dX0_addOne_24 rfl rfl ?_
    refine ev_getI (pc := 25) 0 ag_C0 (rfl) (by decide) (Nat.le_of_ble_eq_true rfl) rfl rfl ag_fl_X0_9 dX0_addOne_25 ?_
    refine ev_iload_n (pc := 28) (i := 2) 2 dX0_addOne_28 rfl rfl ?_
    refine ev_iast (pc := 29) (rfl) (by decide) dX0_addOne_29 ?_
    refine ev_aload_n (pc := 30) (i := 0) 0 dX0_addOne_30 rfl rfl ?_
    refine ev_getR (pc := 31) (t := 42) 3 ag_C0 (rfl) (by decide) (Nat.le_of_ble_eq_true rfl) rfl rfl ag_fl_X0_22 dX0_addOne_31 ?_
    refine ev_aload_n (pc := 34) (i := 0) 0 dX0_addOne_34 rfl rfl ?_
    refine ev_getI (pc := 35) 0 ag_C0 (rfl) (by decide) (Nat.le_of_ble_eq_true rfl) rfl rfl ag_fl_X0_9 dX0_addOne_35 ?_
    refine ev_iload_n (pc := 38) (i := 3) 3 dX0_addOne_38 rfl rfl ?_
    refine ev_iast (pc := 39) (rfl) (by decide) dX0_addOne_39 ?_
    refine ev_aload_n (pc := 40) (i := 0) 0 dX0_addOne_40 rfl rfl ?_
    refine ev_getR (pc := 41) (t := 43) 4 ag_C0 (rfl) (by decide) (Nat.le_of_ble_eq_true rfl) rfl rfl ag_fl_X0_25 dX0_addOne_41 ?_
    refine ev_aload_n (pc := 44) (i := 0) 0 dX0_addOne_44 rfl rfl ?_
    refine ev_getI (pc := 45) 0 ag_C0 (rfl) (by decide) (Nat.le_of_ble_eq_true rfl) rfl rfl ag_fl_X0_9 dX0_addOne_45 ?_
    refine ev_iload (pc := 48) 4 dX0_addOne_48 rfl ?_
    refine ev_iast (pc := 50) (rfl) (by decide) dX0_addOne_50 ?_
    refine ev_aload_n (pc := 51) (i := 0) 0 dX0_addOne_51 rfl rfl ?_
    refine ev_dup (pc := 52) dX0_addOne_52 rfl ?_
    refine ev_getI (pc := 53) 0 ag_C0 (rfl) (by decide) (Nat.le_of_ble_eq_true rfl) rfl rfl ag_fl_X0_9 dX0_addOne_53 ?_
    refine ev_iconst (pc := 56) (v := 1) dX0_addOne_56 (by decide) ?_
    refine ev_iadd (pc := 57) dX0_addOne_57 ?_
    refine ev_put (pc := 58) 0 ag_C0 (rfl) (by decide) (Nat.le_of_ble_eq_true rfl) rfl rfl ag_fl_X0_9 rfl rfl rfl dX0_addOne_58 ?_
    exact ev_ret (fun r h => by cases h; rfl) rfl dX0_addOne_61
  · exact ev_ret (fun r h => by cases h; rfl) rfl dX0_addOne_9
-- X1_isThere
def mX1_isThere : Md := (RX1, cX1_isThere, 2, some .boolean)
theorem mv_X1_isThere : ag_Mv yX1_isThere mX1_isThere 1 := ⟨ag_co_X1_isThere, ag_im_X1_isThere, ag_se_X1_isThere, ag_ini_X1, by decide +kernel⟩
theorem dX1_isThere_0 : decode mX1_isThere.2.1 0 = .ok (.iload_n 1, 1) := by decide +kernel
theorem dX1_isThere_1 : decode mX1_isThere.2.1 1 = .ok (.ifCond .lt 15, 3) := by decide +kernel
theorem dX1_isThere_4 : decode mX1_isThere.2.1 4 = .ok (.iload_n 1, 1) := by decide +kernel
theorem dX1_isThere_5 : decode mX1_isThere.2.1 5 = .ok (.aload_n 0, 1) := by decide +kernel
theorem dX1_isThere_6 : decode mX1_isThere.2.1 6 = .ok (.getfield 9, 3) := by decide +kernel
theorem dX1_isThere_9 : decode mX1_isThere.2.1 9 = .ok (.if_icmp .ge 7, 3) := by decide +kernel
theorem dX1_isThere_12 : decode mX1_isThere.2.1 12 = .ok (.iconst 1, 1) := by decide +kernel
theorem dX1_isThere_13 : decode mX1_isThere.2.1 13 = .ok (.goto 4, 3) := by decide +kernel
theorem dX1_isThere_16 : decode mX1_isThere.2.1 16 = .ok (.iconst 0, 1) := by decide +kernel
theorem dX1_isThere_17 : decode mX1_isThere.2.1 17 = .ok (.ireturn, 1) := by decide +kernel
def fn_X1_isThere (b : Nat) (x1 : Int32) (σ : Sg) : Option Int32 :=
  (if x1 < 0 then (some 0)
  else (if (σ b 0) ≤ x1 then (some 0)
  else (some 1)))
set_option maxRecDepth 20000 in
set_option maxHeartbeats 4000000 in
theorem im_X1_isThere (b : Nat) (hb : ag_F b) (x1 : Int32) (σ : Sg) : Im yX1_isThere mX1_isThere 0 0 (jI σ) [.ref b, .int x1] σ (fn_X1_isThere b x1 σ) := by
  refine Im.of (by decide +kernel) rfl (Nat.le_of_ble_eq_true rfl) ?_
  show Ev mX1_isThere 0 0 (jI σ) 0 [(0, .ref b), (1, .int x1)] [] σ (fn_X1_isThere b x1 σ)
  unfold fn_X1_isThere
  refine ev_iload_n (pc := 0) (i := 1) 1 dX1_isThere_0 rfl rfl ?_
  refine ev_if_lt (pc := 1) (tgt := 16) dX1_isThere_1 rfl ?_ ?_
  · refine ev_iconst (pc := 16) (v := 0) dX1_isThere_16 (by decide) ?_
    exact ev_iret (ty := .boolean) (fun r h => by cases h; rfl) rfl rfl dX1_isThere_17
  · refine ev_iload_n (pc := 4) (i := 1) 1 dX1_isThere_4 rfl rfl ?_
    refine ev_aload_n (pc := 5) (i := 0) 0 dX1_isThere_5 rfl rfl ?_
    refine ev_getI (pc := 6) 0 ag_C1 (ag_Fk hb).1 (ag_Fk hb).2 (Nat.le_of_ble_eq_true rfl) (ag_Ft0 hb) rfl ag_fl_X1_9 dX1_isThere_6 ?_
    refine ev_icmp_ge (pc := 9) (tgt := 16) dX1_isThere_9 rfl ?_ ?_
    · refine ev_iconst (pc := 16) (v := 0) dX1_isThere_16 (by decide) ?_
      exact ev_iret (ty := .boolean) (fun r h => by cases h; rfl) rfl rfl dX1_isThere_17
    · refine ev_iconst (pc := 12) (v := 1) dX1_isThere_12 (by decide) ?_
      refine ev_goto (pc := 13) (tgt := 17) dX1_isThere_13 rfl ?_
      exact ev_iret (ty := .boolean) (fun r h => by cases h; rfl) rfl rfl dX1_isThere_17
-- X1_lives
def mX1_lives : Md := (RX1, cX1_lives, 3, some .boolean)
theorem mv_X1_lives : ag_Mv yX1_lives mX1_lives 2 := ⟨ag_co_X1_lives, ag_im_X1_lives, ag_se_X1_lives, ag_ini_X1, by decide +kernel⟩
theorem dX1_lives_0 : decode mX1_lives.2.1 0 = .ok (.iload_n 1, 1) := by decide +kernel
theorem dX1_lives_1 : decode mX1_lives.2.1 1 = .ok (.ifCond .lt 42, 3) := by decide +kernel
theorem dX1_lives_4 : decode mX1_lives.2.1 4 = .ok (.iload_n 1, 1) := by decide +kernel
theorem dX1_lives_5 : decode mX1_lives.2.1 5 = .ok (.aload_n 0, 1) := by decide +kernel
theorem dX1_lives_6 : decode mX1_lives.2.1 6 = .ok (.getfield 9, 3) := by decide +kernel
theorem dX1_lives_9 : decode mX1_lives.2.1 9 = .ok (.if_icmp .ge 34, 3) := by decide +kernel
theorem dX1_lives_12 : decode mX1_lives.2.1 12 = .ok (.iload_n 2, 1) := by decide +kernel
theorem dX1_lives_13 : decode mX1_lives.2.1 13 = .ok (.aload_n 0, 1) := by decide +kernel
theorem dX1_lives_14 : decode mX1_lives.2.1 14 = .ok (.getfield 15, 3) := by decide +kernel
theorem dX1_lives_17 : decode mX1_lives.2.1 17 = .ok (.iload_n 1, 1) := by decide +kernel
theorem dX1_lives_18 : decode mX1_lives.2.1 18 = .ok (.iaload, 1) := by decide +kernel
theorem dX1_lives_19 : decode mX1_lives.2.1 19 = .ok (.if_icmp .lt 24, 3) := by decide +kernel
theorem dX1_lives_22 : decode mX1_lives.2.1 22 = .ok (.iload_n 2, 1) := by decide +kernel
theorem dX1_lives_23 : decode mX1_lives.2.1 23 = .ok (.aload_n 0, 1) := by decide +kernel
theorem dX1_lives_24 : decode mX1_lives.2.1 24 = .ok (.getfield 15, 3) := by decide +kernel
theorem dX1_lives_27 : decode mX1_lives.2.1 27 = .ok (.iload_n 1, 1) := by decide +kernel
theorem dX1_lives_28 : decode mX1_lives.2.1 28 = .ok (.iaload, 1) := by decide +kernel
theorem dX1_lives_29 : decode mX1_lives.2.1 29 = .ok (.aload_n 0, 1) := by decide +kernel
theorem dX1_lives_30 : decode mX1_lives.2.1 30 = .ok (.getfield 19, 3) := by decide +kernel
theorem dX1_lives_33 : decode mX1_lives.2.1 33 = .ok (.iload_n 1, 1) := by decide +kernel
theorem dX1_lives_34 : decode mX1_lives.2.1 34 = .ok (.iaload, 1) := by decide +kernel
theorem dX1_lives_35 : decode mX1_lives.2.1 35 = .ok (.iadd, 1) := by decide +kernel
theorem dX1_lives_36 : decode mX1_lives.2.1 36 = .ok (.if_icmp .gt 7, 3) := by decide +kernel
theorem dX1_lives_39 : decode mX1_lives.2.1 39 = .ok (.iconst 1, 1) := by decide +kernel
theorem dX1_lives_40 : decode mX1_lives.2.1 40 = .ok (.goto 4, 3) := by decide +kernel
theorem dX1_lives_43 : decode mX1_lives.2.1 43 = .ok (.iconst 0, 1) := by decide +kernel
theorem dX1_lives_44 : decode mX1_lives.2.1 44 = .ok (.ireturn, 1) := by decide +kernel
def fn_X1_lives (b : Nat) (x1 : Int32) (x2 : Int32) (σ : Sg) : Option Int32 :=
  (if x1 < 0 then (some 0)
  else (if (σ b 0) ≤ x1 then (some 0)
  else (if ag_ib x1 10 = true then (if x2 < (σ (b + 1) x1.toNatClampNeg) then (some 0)
  else (if ag_ib x1 10 = true then (if ag_ib x1 10 = true then (if ((σ (b + 1) x1.toNatClampNeg) + (σ (b + 2) x1.toNatClampNeg)) < x2 then (some 0)
  else (some 1)) else none) else none)) else none)))
set_option maxRecDepth 20000 in
set_option maxHeartbeats 4000000 in
theorem im_X1_lives (b : Nat) (hb : ag_F b) (x1 : Int32) (x2 : Int32) (σ : Sg) : Im yX1_lives mX1_lives 0 0 (jI σ) [.ref b, .int x1, .int x2] σ (fn_X1_lives b x1 x2 σ) := by
  refine Im.of (by decide +kernel) rfl (Nat.le_of_ble_eq_true rfl) ?_
  show Ev mX1_lives 0 0 (jI σ) 0 [(0, .ref b), (1, .int x1), (2, .int x2)] [] σ (fn_X1_lives b x1 x2 σ)
  unfold fn_X1_lives
  refine ev_iload_n (pc := 0) (i := 1) 1 dX1_lives_0 rfl rfl ?_
  refine ev_if_lt (pc := 1) (tgt := 43) dX1_lives_1 rfl ?_ ?_
  · refine ev_iconst (pc := 43) (v := 0) dX1_lives_43 (by decide) ?_
    exact ev_iret (ty := .boolean) (fun r h => by cases h; rfl) rfl rfl dX1_lives_44
  · refine ev_iload_n (pc := 4) (i := 1) 1 dX1_lives_4 rfl rfl ?_
    refine ev_aload_n (pc := 5) (i := 0) 0 dX1_lives_5 rfl rfl ?_
    refine ev_getI (pc := 6) 0 ag_C1 (ag_Fk hb).1 (ag_Fk hb).2 (Nat.le_of_ble_eq_true rfl) (ag_Ft0 hb) rfl ag_fl_X1_9 dX1_lives_6 ?_
    refine ev_icmp_ge (pc := 9) (tgt := 43) dX1_lives_9 rfl ?_ ?_
    · refine ev_iconst (pc := 43) (v := 0) dX1_lives_43 (by decide) ?_
      exact ev_iret (ty := .boolean) (fun r h => by cases h; rfl) rfl rfl dX1_lives_44
    · refine ev_iload_n (pc := 12) (i := 2) 2 dX1_lives_12 rfl rfl ?_
      refine ev_aload_n (pc := 13) (i := 0) 0 dX1_lives_13 rfl rfl ?_
      refine ev_getR (pc := 14) (t := (b + 1)) 1 ag_C1 (ag_Fk hb).1 (ag_Fk hb).2 (Nat.le_of_ble_eq_true rfl) (ag_Ft1 hb) rfl ag_fl_X1_15 dX1_lives_14 ?_
      refine ev_iload_n (pc := 17) (i := 1) 1 dX1_lives_17 rfl rfl ?_
      refine ev_iald (pc := 18) (ag_Fa1 hb).1 (ag_Fa1 hb).2 dX1_lives_18 ?_
      refine ev_icmp_lt (pc := 19) (tgt := 43) dX1_lives_19 rfl ?_ ?_
      · refine ev_iconst (pc := 43) (v := 0) dX1_lives_43 (by decide) ?_
        exact ev_iret (ty := .boolean) (fun r h => by cases h; rfl) rfl rfl dX1_lives_44
      · refine ev_iload_n (pc := 22) (i := 2) 2 dX1_lives_22 rfl rfl ?_
        refine ev_aload_n (pc := 23) (i := 0) 0 dX1_lives_23 rfl rfl ?_
        refine ev_getR (pc := 24) (t := (b + 1)) 1 ag_C1 (ag_Fk hb).1 (ag_Fk hb).2 (Nat.le_of_ble_eq_true rfl) (ag_Ft1 hb) rfl ag_fl_X1_15 dX1_lives_24 ?_
        refine ev_iload_n (pc := 27) (i := 1) 1 dX1_lives_27 rfl rfl ?_
        refine ev_iald (pc := 28) (ag_Fa1 hb).1 (ag_Fa1 hb).2 dX1_lives_28 ?_
        refine ev_aload_n (pc := 29) (i := 0) 0 dX1_lives_29 rfl rfl ?_
        refine ev_getR (pc := 30) (t := (b + 2)) 2 ag_C1 (ag_Fk hb).1 (ag_Fk hb).2 (Nat.le_of_ble_eq_true rfl) (ag_Ft2 hb) rfl ag_fl_X1_19 dX1_lives_30 ?_
        refine ev_iload_n (pc := 33) (i := 1) 1 dX1_lives_33 rfl rfl ?_
        refine ev_iald (pc := 34) (ag_Fa2 hb).1 (ag_Fa2 hb).2 dX1_lives_34 ?_
        refine ev_iadd (pc := 35) dX1_lives_35 ?_
        refine ev_icmp_gt (pc := 36) (tgt := 43) dX1_lives_36 rfl ?_ ?_
        · refine ev_iconst (pc := 43) (v := 0) dX1_lives_43 (by decide) ?_
          exact ev_iret (ty := .boolean) (fun r h => by cases h; rfl) rfl rfl dX1_lives_44
        · refine ev_iconst (pc := 39) (v := 1) dX1_lives_39 (by decide) ?_
          refine ev_goto (pc := 40) (tgt := 44) dX1_lives_40 rfl ?_
          exact ev_iret (ty := .boolean) (fun r h => by cases h; rfl) rfl rfl dX1_lives_44
-- X1_toldAge
def mX1_toldAge : Md := (RX1, cX1_toldAge, 3, some .int)
theorem mv_X1_toldAge : ag_Mv yX1_toldAge mX1_toldAge 2 := ⟨ag_co_X1_toldAge, ag_im_X1_toldAge, ag_se_X1_toldAge, ag_ini_X1, by decide +kernel⟩
theorem dX1_toldAge_0 : decode mX1_toldAge.2.1 0 = .ok (.iload_n 2, 1) := by decide +kernel
theorem dX1_toldAge_1 : decode mX1_toldAge.2.1 1 = .ok (.aload_n 0, 1) := by decide +kernel
theorem dX1_toldAge_2 : decode mX1_toldAge.2.1 2 = .ok (.getfield 15, 3) := by decide +kernel
theorem dX1_toldAge_5 : decode mX1_toldAge.2.1 5 = .ok (.iload_n 1, 1) := by decide +kernel
theorem dX1_toldAge_6 : decode mX1_toldAge.2.1 6 = .ok (.iaload, 1) := by decide +kernel
theorem dX1_toldAge_7 : decode mX1_toldAge.2.1 7 = .ok (.isub, 1) := by decide +kernel
theorem dX1_toldAge_8 : decode mX1_toldAge.2.1 8 = .ok (.aload_n 0, 1) := by decide +kernel
theorem dX1_toldAge_9 : decode mX1_toldAge.2.1 9 = .ok (.getfield 25, 3) := by decide +kernel
theorem dX1_toldAge_12 : decode mX1_toldAge.2.1 12 = .ok (.iload_n 1, 1) := by decide +kernel
theorem dX1_toldAge_13 : decode mX1_toldAge.2.1 13 = .ok (.iaload, 1) := by decide +kernel
theorem dX1_toldAge_14 : decode mX1_toldAge.2.1 14 = .ok (.iadd, 1) := by decide +kernel
theorem dX1_toldAge_15 : decode mX1_toldAge.2.1 15 = .ok (.ireturn, 1) := by decide +kernel
def fn_X1_toldAge (b : Nat) (x1 : Int32) (x2 : Int32) (σ : Sg) : Option Int32 :=
  (if ag_ib x1 10 = true then (if ag_ib x1 10 = true then (some ((x2 - (σ (b + 1) x1.toNatClampNeg)) + (σ (b + 4) x1.toNatClampNeg))) else none) else none)
set_option maxRecDepth 20000 in
set_option maxHeartbeats 4000000 in
theorem im_X1_toldAge (b : Nat) (hb : ag_F b) (x1 : Int32) (x2 : Int32) (σ : Sg) : Im yX1_toldAge mX1_toldAge 0 0 (jI σ) [.ref b, .int x1, .int x2] σ (fn_X1_toldAge b x1 x2 σ) := by
  refine Im.of (by decide +kernel) rfl (Nat.le_of_ble_eq_true rfl) ?_
  show Ev mX1_toldAge 0 0 (jI σ) 0 [(0, .ref b), (1, .int x1), (2, .int x2)] [] σ (fn_X1_toldAge b x1 x2 σ)
  unfold fn_X1_toldAge
  refine ev_iload_n (pc := 0) (i := 2) 2 dX1_toldAge_0 rfl rfl ?_
  refine ev_aload_n (pc := 1) (i := 0) 0 dX1_toldAge_1 rfl rfl ?_
  refine ev_getR (pc := 2) (t := (b + 1)) 1 ag_C1 (ag_Fk hb).1 (ag_Fk hb).2 (Nat.le_of_ble_eq_true rfl) (ag_Ft1 hb) rfl ag_fl_X1_15 dX1_toldAge_2 ?_
  refine ev_iload_n (pc := 5) (i := 1) 1 dX1_toldAge_5 rfl rfl ?_
  refine ev_iald (pc := 6) (ag_Fa1 hb).1 (ag_Fa1 hb).2 dX1_toldAge_6 ?_
  refine ev_isub (pc := 7) dX1_toldAge_7 ?_
  refine ev_aload_n (pc := 8) (i := 0) 0 dX1_toldAge_8 rfl rfl ?_
  refine ev_getR (pc := 9) (t := (b + 4)) 4 ag_C1 (ag_Fk hb).1 (ag_Fk hb).2 (Nat.le_of_ble_eq_true rfl) (ag_Ft4 hb) rfl ag_fl_X1_25 dX1_toldAge_9 ?_
  refine ev_iload_n (pc := 12) (i := 1) 1 dX1_toldAge_12 rfl rfl ?_
  refine ev_iald (pc := 13) (ag_Fa4 hb).1 (ag_Fa4 hb).2 dX1_toldAge_13 ?_
  refine ev_iadd (pc := 14) dX1_toldAge_14 ?_
  exact ev_iret (ty := .int) (fun r h => by cases h; rfl) rfl rfl dX1_toldAge_15
-- X1_elders
def mX1_elders : Md := (RX1, cX1_elders, 3, some .int)
theorem mv_X1_elders : ag_Mv yX1_elders mX1_elders 0 := ⟨ag_co_X1_elders, ag_im_X1_elders, ag_se_X1_elders, ag_ini_X1, by decide +kernel⟩
theorem dX1_elders_0 : decode mX1_elders.2.1 0 = .ok (.iconst 0, 1) := by decide +kernel
theorem dX1_elders_1 : decode mX1_elders.2.1 1 = .ok (.istore_n 1, 1) := by decide +kernel
theorem dX1_elders_2 : decode mX1_elders.2.1 2 = .ok (.iconst 0, 1) := by decide +kernel
theorem dX1_elders_3 : decode mX1_elders.2.1 3 = .ok (.istore_n 2, 1) := by decide +kernel
theorem dX1_elders_4 : decode mX1_elders.2.1 4 = .ok (.iload_n 2, 1) := by decide +kernel
theorem dX1_elders_5 : decode mX1_elders.2.1 5 = .ok (.aload_n 0, 1) := by decide +kernel
theorem dX1_elders_6 : decode mX1_elders.2.1 6 = .ok (.getfield 9, 3) := by decide +kernel
theorem dX1_elders_9 : decode mX1_elders.2.1 9 = .ok (.if_icmp .ge 27, 3) := by decide +kernel
theorem dX1_elders_12 : decode mX1_elders.2.1 12 = .ok (.iload_n 1, 1) := by decide +kernel
theorem dX1_elders_13 : decode mX1_elders.2.1 13 = .ok (.aload_n 0, 1) := by decide +kernel
theorem dX1_elders_14 : decode mX1_elders.2.1 14 = .ok (.getfield 22, 3) := by decide +kernel
theorem dX1_elders_17 : decode mX1_elders.2.1 17 = .ok (.iload_n 2, 1) := by decide +kernel
theorem dX1_elders_18 : decode mX1_elders.2.1 18 = .ok (.iaload, 1) := by decide +kernel
theorem dX1_elders_19 : decode mX1_elders.2.1 19 = .ok (.iconst 1, 1) := by decide +kernel
theorem dX1_elders_20 : decode mX1_elders.2.1 20 = .ok (.if_icmp .ne 7, 3) := by decide +kernel
theorem dX1_elders_23 : decode mX1_elders.2.1 23 = .ok (.iconst 1, 1) := by decide +kernel
theorem dX1_elders_24 : decode mX1_elders.2.1 24 = .ok (.goto 4, 3) := by decide +kernel
theorem dX1_elders_27 : decode mX1_elders.2.1 27 = .ok (.iconst 0, 1) := by decide +kernel
theorem dX1_elders_28 : decode mX1_elders.2.1 28 = .ok (.iadd, 1) := by decide +kernel
theorem dX1_elders_29 : decode mX1_elders.2.1 29 = .ok (.istore_n 1, 1) := by decide +kernel
theorem dX1_elders_30 : decode mX1_elders.2.1 30 = .ok (.iinc 2 1, 3) := by decide +kernel
theorem dX1_elders_33 : decode mX1_elders.2.1 33 = .ok (.goto (-29), 3) := by decide +kernel
theorem dX1_elders_36 : decode mX1_elders.2.1 36 = .ok (.iload_n 1, 1) := by decide +kernel
theorem dX1_elders_37 : decode mX1_elders.2.1 37 = .ok (.ireturn, 1) := by decide +kernel
def fn_X1_elders_b28 (n : Nat) (b : Nat) (σ : Sg) (k4 : Int32 → Int32 → Option Int32) (v2 : Int32) (s0 : Int32) (s1 : Int32) : Option Int32 :=
  (k4 (s0 + s1) (v2 + 1))
set_option maxRecDepth 20000 in
set_option maxHeartbeats 4000000 in
theorem ev_X1_elders_b28 (n : Nat) (b : Nat) (hb : ag_F b) (σ : Sg) (k4 : Int32 → Int32 → Option Int32) (hk4 : ∀ (v1 : Int32) (v2 : Int32), Ev mX1_elders 0 0 (jI σ) 4 [(0, .ref b), (1, .int v1), (2, .int v2)] [] σ (k4 v1 v2)) (v2 : Int32) (s0 : Int32) (s1 : Int32) : Ev mX1_elders 0 0 (jI σ) 28 [(0, .ref b), (2, .int v2)] [.int s1, .int s0] σ (fn_X1_elders_b28 n b σ k4 v2 s0 s1) := by
  unfold fn_X1_elders_b28
  refine ev_iadd (pc := 28) dX1_elders_28 ?_
  refine ev_istore_n (pc := 29) (i := 1) (lv' := [(1, .int (s0 + s1)), (0, .ref b), (2, .int v2)]) dX1_elders_29 rfl (Nat.le_of_ble_eq_true rfl) rfl ?_
  refine ev_iinc (pc := 30) (v := (v2 + 1)) (lv' := [(2, .int (v2 + 1)), (1, .int (s0 + s1)), (0, .ref b)]) 2 dX1_elders_30 rfl rfl (Nat.le_of_ble_eq_true rfl) rfl ?_
  refine ev_goto (pc := 33) (tgt := 4) dX1_elders_33 rfl ?_
  refine ev_sub [2, 1, 0] rfl ?_
  exact hk4 (s0 + s1) (v2 + 1)
def fn_X1_elders_b4 (n : Nat) (b : Nat) (σ : Sg)  : Nat → Int32 → Int32 → Option Int32
  | 0 => fun _ _ => none
  | i + 1 => fun v1 v2 =>
  (if (σ b 0) ≤ v2 then (some v1)
  else (if ag_ib v2 10 = true then (if (σ (b + 3) v2.toNatClampNeg) = 1 then (fn_X1_elders_b28 n b σ (fn_X1_elders_b4 n b σ i) v2 v1 1)
  else (fn_X1_elders_b28 n b σ (fn_X1_elders_b4 n b σ i) v2 v1 0)) else none))
theorem fn_X1_elders_b4_s (n : Nat) (b : Nat) (σ : Sg)  (i : Nat) (v1 : Int32) (v2 : Int32) : fn_X1_elders_b4 n b σ (i + 1) v1 v2 =
  (if (σ b 0) ≤ v2 then (some v1)
  else (if ag_ib v2 10 = true then (if (σ (b + 3) v2.toNatClampNeg) = 1 then (fn_X1_elders_b28 n b σ (fn_X1_elders_b4 n b σ i) v2 v1 1)
  else (fn_X1_elders_b28 n b σ (fn_X1_elders_b4 n b σ i) v2 v1 0)) else none)) := rfl
set_option maxRecDepth 20000 in
set_option maxHeartbeats 4000000 in
theorem ev_X1_elders_b4 (n : Nat) (b : Nat) (hb : ag_F b) (σ : Sg)  : ∀ (i : Nat) (v1 : Int32) (v2 : Int32), Ev mX1_elders 0 0 (jI σ) 4 [(0, .ref b), (1, .int v1), (2, .int v2)] [] σ (fn_X1_elders_b4 n b σ i v1 v2) := by
  intro i
  induction i with
  | zero =>
    intro v1 v2
    exact ev_none
  | succ i ih =>
    intro v1 v2
    rw [fn_X1_elders_b4_s]
    refine ev_iload_n (pc := 4) (i := 2) 2 dX1_elders_4 rfl rfl ?_
    refine ev_aload_n (pc := 5) (i := 0) 0 dX1_elders_5 rfl rfl ?_
    refine ev_getI (pc := 6) 0 ag_C1 (ag_Fk hb).1 (ag_Fk hb).2 (Nat.le_of_ble_eq_true rfl) (ag_Ft0 hb) rfl ag_fl_X1_9 dX1_elders_6 ?_
    refine ev_icmp_ge (pc := 9) (tgt := 36) dX1_elders_9 rfl ?_ ?_
    · refine ev_iload_n (pc := 36) (i := 1) 1 dX1_elders_36 rfl rfl ?_
      exact ev_iret (ty := .int) (fun r h => by cases h; rfl) rfl rfl dX1_elders_37
    · refine ev_iload_n (pc := 12) (i := 1) 1 dX1_elders_12 rfl rfl ?_
      refine ev_aload_n (pc := 13) (i := 0) 0 dX1_elders_13 rfl rfl ?_
      refine ev_getR (pc := 14) (t := (b + 3)) 3 ag_C1 (ag_Fk hb).1 (ag_Fk hb).2 (Nat.le_of_ble_eq_true rfl) (ag_Ft3 hb) rfl ag_fl_X1_22 dX1_elders_14 ?_
      refine ev_iload_n (pc := 17) (i := 2) 2 dX1_elders_17 rfl rfl ?_
      refine ev_iald (pc := 18) (ag_Fa3 hb).1 (ag_Fa3 hb).2 dX1_elders_18 ?_
      refine ev_iconst (pc := 19) (v := 1) dX1_elders_19 (by decide) ?_
      refine ev_icmp_ne (pc := 20) (tgt := 27) dX1_elders_20 rfl ?_ ?_
      · refine ev_iconst (pc := 23) (v := 1) dX1_elders_23 (by decide) ?_
        refine ev_goto (pc := 24) (tgt := 28) dX1_elders_24 rfl ?_
        refine ev_sub [0, 2] rfl ?_
        exact ev_X1_elders_b28 n b hb σ (fn_X1_elders_b4 n b σ i) ih v2 v1 1
      · refine ev_iconst (pc := 27) (v := 0) dX1_elders_27 (by decide) ?_
        refine ev_sub [0, 2] rfl ?_
        exact ev_X1_elders_b28 n b hb σ (fn_X1_elders_b4 n b σ i) ih v2 v1 0
def fn_X1_elders (n : Nat) (b : Nat) (σ : Sg) : Option Int32 :=
  (fn_X1_elders_b4 n b σ n 0 0)
set_option maxRecDepth 20000 in
set_option maxHeartbeats 4000000 in
theorem im_X1_elders (n : Nat) (b : Nat) (hb : ag_F b) (σ : Sg) : Im yX1_elders mX1_elders 0 0 (jI σ) [.ref b] σ (fn_X1_elders n b σ) := by
  refine Im.of (by decide +kernel) rfl (Nat.le_of_ble_eq_true rfl) ?_
  show Ev mX1_elders 0 0 (jI σ) 0 [(0, .ref b)] [] σ (fn_X1_elders n b σ)
  unfold fn_X1_elders
  refine ev_iconst (pc := 0) (v := 0) dX1_elders_0 (by decide) ?_
  refine ev_istore_n (pc := 1) (i := 1) (lv' := [(1, .int 0), (0, .ref b)]) dX1_elders_1 rfl (Nat.le_of_ble_eq_true rfl) rfl ?_
  refine ev_iconst (pc := 2) (v := 0) dX1_elders_2 (by decide) ?_
  refine ev_istore_n (pc := 3) (i := 2) (lv' := [(2, .int 0), (1, .int 0), (0, .ref b)]) dX1_elders_3 rfl (Nat.le_of_ble_eq_true rfl) rfl ?_
  refine ev_sub [2, 1, 0] rfl ?_
  exact ev_X1_elders_b4 n b hb σ n 0 0
-- J6_bitCount_0f7a4
def mJ6_bitCount_0f7a4 : Md := (RJ6, cJ6_bitCount_0f7a4, 1, some .int)
theorem ms_J6_bitCount_0f7a4 : ag_Ms yJ6_bitCount_0f7a4 mJ6_bitCount_0f7a4 1 := ⟨ag_co_J6_bitCount_0f7a4, ag_st_J6_bitCount_0f7a4, ag_ini_J6, by decide +kernel⟩
theorem dJ6_bitCount_0f7a4_0 : decode mJ6_bitCount_0f7a4.2.1 0 = .ok (.iload_n 0, 1) := by decide +kernel
theorem dJ6_bitCount_0f7a4_1 : decode mJ6_bitCount_0f7a4.2.1 1 = .ok (.iload_n 0, 1) := by decide +kernel
theorem dJ6_bitCount_0f7a4_2 : decode mJ6_bitCount_0f7a4.2.1 2 = .ok (.iconst 1, 1) := by decide +kernel
theorem dJ6_bitCount_0f7a4_3 : decode mJ6_bitCount_0f7a4.2.1 3 = .ok (.iushr, 1) := by decide +kernel
theorem dJ6_bitCount_0f7a4_4 : decode mJ6_bitCount_0f7a4.2.1 4 = .ok (.ldc_w 265, 3) := by decide +kernel
theorem dJ6_bitCount_0f7a4_7 : decode mJ6_bitCount_0f7a4.2.1 7 = .ok (.iand, 1) := by decide +kernel
theorem dJ6_bitCount_0f7a4_8 : decode mJ6_bitCount_0f7a4.2.1 8 = .ok (.isub, 1) := by decide +kernel
theorem dJ6_bitCount_0f7a4_9 : decode mJ6_bitCount_0f7a4.2.1 9 = .ok (.istore_n 0, 1) := by decide +kernel
theorem dJ6_bitCount_0f7a4_10 : decode mJ6_bitCount_0f7a4.2.1 10 = .ok (.iload_n 0, 1) := by decide +kernel
theorem dJ6_bitCount_0f7a4_11 : decode mJ6_bitCount_0f7a4.2.1 11 = .ok (.ldc_w 266, 3) := by decide +kernel
theorem dJ6_bitCount_0f7a4_14 : decode mJ6_bitCount_0f7a4.2.1 14 = .ok (.iand, 1) := by decide +kernel
theorem dJ6_bitCount_0f7a4_15 : decode mJ6_bitCount_0f7a4.2.1 15 = .ok (.iload_n 0, 1) := by decide +kernel
theorem dJ6_bitCount_0f7a4_16 : decode mJ6_bitCount_0f7a4.2.1 16 = .ok (.iconst 2, 1) := by decide +kernel
theorem dJ6_bitCount_0f7a4_17 : decode mJ6_bitCount_0f7a4.2.1 17 = .ok (.iushr, 1) := by decide +kernel
theorem dJ6_bitCount_0f7a4_18 : decode mJ6_bitCount_0f7a4.2.1 18 = .ok (.ldc_w 266, 3) := by decide +kernel
theorem dJ6_bitCount_0f7a4_21 : decode mJ6_bitCount_0f7a4.2.1 21 = .ok (.iand, 1) := by decide +kernel
theorem dJ6_bitCount_0f7a4_22 : decode mJ6_bitCount_0f7a4.2.1 22 = .ok (.iadd, 1) := by decide +kernel
theorem dJ6_bitCount_0f7a4_23 : decode mJ6_bitCount_0f7a4.2.1 23 = .ok (.istore_n 0, 1) := by decide +kernel
theorem dJ6_bitCount_0f7a4_24 : decode mJ6_bitCount_0f7a4.2.1 24 = .ok (.iload_n 0, 1) := by decide +kernel
theorem dJ6_bitCount_0f7a4_25 : decode mJ6_bitCount_0f7a4.2.1 25 = .ok (.iload_n 0, 1) := by decide +kernel
theorem dJ6_bitCount_0f7a4_26 : decode mJ6_bitCount_0f7a4.2.1 26 = .ok (.iconst 4, 1) := by decide +kernel
theorem dJ6_bitCount_0f7a4_27 : decode mJ6_bitCount_0f7a4.2.1 27 = .ok (.iushr, 1) := by decide +kernel
theorem dJ6_bitCount_0f7a4_28 : decode mJ6_bitCount_0f7a4.2.1 28 = .ok (.iadd, 1) := by decide +kernel
theorem dJ6_bitCount_0f7a4_29 : decode mJ6_bitCount_0f7a4.2.1 29 = .ok (.ldc_w 267, 3) := by decide +kernel
theorem dJ6_bitCount_0f7a4_32 : decode mJ6_bitCount_0f7a4.2.1 32 = .ok (.iand, 1) := by decide +kernel
theorem dJ6_bitCount_0f7a4_33 : decode mJ6_bitCount_0f7a4.2.1 33 = .ok (.istore_n 0, 1) := by decide +kernel
theorem dJ6_bitCount_0f7a4_34 : decode mJ6_bitCount_0f7a4.2.1 34 = .ok (.iload_n 0, 1) := by decide +kernel
theorem dJ6_bitCount_0f7a4_35 : decode mJ6_bitCount_0f7a4.2.1 35 = .ok (.iload_n 0, 1) := by decide +kernel
theorem dJ6_bitCount_0f7a4_36 : decode mJ6_bitCount_0f7a4.2.1 36 = .ok (.bipush 8, 2) := by decide +kernel
theorem dJ6_bitCount_0f7a4_38 : decode mJ6_bitCount_0f7a4.2.1 38 = .ok (.iushr, 1) := by decide +kernel
theorem dJ6_bitCount_0f7a4_39 : decode mJ6_bitCount_0f7a4.2.1 39 = .ok (.iadd, 1) := by decide +kernel
theorem dJ6_bitCount_0f7a4_40 : decode mJ6_bitCount_0f7a4.2.1 40 = .ok (.istore_n 0, 1) := by decide +kernel
theorem dJ6_bitCount_0f7a4_41 : decode mJ6_bitCount_0f7a4.2.1 41 = .ok (.iload_n 0, 1) := by decide +kernel
theorem dJ6_bitCount_0f7a4_42 : decode mJ6_bitCount_0f7a4.2.1 42 = .ok (.iload_n 0, 1) := by decide +kernel
theorem dJ6_bitCount_0f7a4_43 : decode mJ6_bitCount_0f7a4.2.1 43 = .ok (.bipush 16, 2) := by decide +kernel
theorem dJ6_bitCount_0f7a4_45 : decode mJ6_bitCount_0f7a4.2.1 45 = .ok (.iushr, 1) := by decide +kernel
theorem dJ6_bitCount_0f7a4_46 : decode mJ6_bitCount_0f7a4.2.1 46 = .ok (.iadd, 1) := by decide +kernel
theorem dJ6_bitCount_0f7a4_47 : decode mJ6_bitCount_0f7a4.2.1 47 = .ok (.istore_n 0, 1) := by decide +kernel
theorem dJ6_bitCount_0f7a4_48 : decode mJ6_bitCount_0f7a4.2.1 48 = .ok (.iload_n 0, 1) := by decide +kernel
theorem dJ6_bitCount_0f7a4_49 : decode mJ6_bitCount_0f7a4.2.1 49 = .ok (.bipush 63, 2) := by decide +kernel
theorem dJ6_bitCount_0f7a4_51 : decode mJ6_bitCount_0f7a4.2.1 51 = .ok (.iand, 1) := by decide +kernel
theorem dJ6_bitCount_0f7a4_52 : decode mJ6_bitCount_0f7a4.2.1 52 = .ok (.ireturn, 1) := by decide +kernel
def fn_J6_bitCount_0f7a4 (x0 : Int32) (σ : Sg) : Option Int32 :=
  (some ((((((((x0 - ((ag_ushr x0 1) &&& 1431655765)) &&& 858993459) + ((ag_ushr (x0 - ((ag_ushr x0 1) &&& 1431655765)) 2) &&& 858993459)) + (ag_ushr (((x0 - ((ag_ushr x0 1) &&& 1431655765)) &&& 858993459) + ((ag_ushr (x0 - ((ag_ushr x0 1) &&& 1431655765)) 2) &&& 858993459)) 4)) &&& 252645135) + (ag_ushr (((((x0 - ((ag_ushr x0 1) &&& 1431655765)) &&& 858993459) + ((ag_ushr (x0 - ((ag_ushr x0 1) &&& 1431655765)) 2) &&& 858993459)) + (ag_ushr (((x0 - ((ag_ushr x0 1) &&& 1431655765)) &&& 858993459) + ((ag_ushr (x0 - ((ag_ushr x0 1) &&& 1431655765)) 2) &&& 858993459)) 4)) &&& 252645135) 8)) + (ag_ushr ((((((x0 - ((ag_ushr x0 1) &&& 1431655765)) &&& 858993459) + ((ag_ushr (x0 - ((ag_ushr x0 1) &&& 1431655765)) 2) &&& 858993459)) + (ag_ushr (((x0 - ((ag_ushr x0 1) &&& 1431655765)) &&& 858993459) + ((ag_ushr (x0 - ((ag_ushr x0 1) &&& 1431655765)) 2) &&& 858993459)) 4)) &&& 252645135) + (ag_ushr (((((x0 - ((ag_ushr x0 1) &&& 1431655765)) &&& 858993459) + ((ag_ushr (x0 - ((ag_ushr x0 1) &&& 1431655765)) 2) &&& 858993459)) + (ag_ushr (((x0 - ((ag_ushr x0 1) &&& 1431655765)) &&& 858993459) + ((ag_ushr (x0 - ((ag_ushr x0 1) &&& 1431655765)) 2) &&& 858993459)) 4)) &&& 252645135) 8)) 16)) &&& 63))
set_option maxRecDepth 20000 in
set_option maxHeartbeats 4000000 in
theorem im_J6_bitCount_0f7a4 (x0 : Int32) (σ : Sg) : Im yJ6_bitCount_0f7a4 mJ6_bitCount_0f7a4 0 0 (jI σ) [.int x0] σ (fn_J6_bitCount_0f7a4 x0 σ) := by
  refine Im.of (by decide +kernel) rfl (Nat.le_of_ble_eq_true rfl) ?_
  show Ev mJ6_bitCount_0f7a4 0 0 (jI σ) 0 [(0, .int x0)] [] σ (fn_J6_bitCount_0f7a4 x0 σ)
  unfold fn_J6_bitCount_0f7a4
  refine ev_iload_n (pc := 0) (i := 0) 0 dJ6_bitCount_0f7a4_0 rfl rfl ?_
  refine ev_iload_n (pc := 1) (i := 0) 0 dJ6_bitCount_0f7a4_1 rfl rfl ?_
  refine ev_iconst (pc := 2) (v := 1) dJ6_bitCount_0f7a4_2 (by decide) ?_
  refine ev_iushr (pc := 3) dJ6_bitCount_0f7a4_3 ?_
  refine ev_ldcw (pc := 4) (v := 1431655765) dJ6_bitCount_0f7a4_4 ag_kc_J6_265 ?_
  refine ev_iand (pc := 7) dJ6_bitCount_0f7a4_7 ?_
  refine ev_isub (pc := 8) dJ6_bitCount_0f7a4_8 ?_
  refine ev_istore_n (pc := 9) (i := 0) (lv' := [(0, .int (x0 - ((ag_ushr x0 1) &&& 1431655765)))]) dJ6_bitCount_0f7a4_9 rfl (Nat.le_of_ble_eq_true rfl) rfl ?_
  refine ev_iload_n (pc := 10) (i := 0) 0 dJ6_bitCount_0f7a4_10 rfl rfl ?_
  refine ev_ldcw (pc := 11) (v := 858993459) dJ6_bitCount_0f7a4_11 ag_kc_J6_266 ?_
  refine ev_iand (pc := 14) dJ6_bitCount_0f7a4_14 ?_
  refine ev_iload_n (pc := 15) (i := 0) 0 dJ6_bitCount_0f7a4_15 rfl rfl ?_
  refine ev_iconst (pc := 16) (v := 2) dJ6_bitCount_0f7a4_16 (by decide) ?_
  refine ev_iushr (pc := 17) dJ6_bitCount_0f7a4_17 ?_
  refine ev_ldcw (pc := 18) (v := 858993459) dJ6_bitCount_0f7a4_18 ag_kc_J6_266 ?_
  refine ev_iand (pc := 21) dJ6_bitCount_0f7a4_21 ?_
  refine ev_iadd (pc := 22) dJ6_bitCount_0f7a4_22 ?_
  refine ev_istore_n (pc := 23) (i := 0) (lv' := [(0, .int (((x0 - ((ag_ushr x0 1) &&& 1431655765)) &&& 858993459) + ((ag_ushr (x0 - ((ag_ushr x0 1) &&& 1431655765)) 2) &&& 858993459)))]) dJ6_bitCount_0f7a4_23 rfl (Nat.le_of_ble_eq_true rfl) rfl ?_
  refine ev_iload_n (pc := 24) (i := 0) 0 dJ6_bitCount_0f7a4_24 rfl rfl ?_
  refine ev_iload_n (pc := 25) (i := 0) 0 dJ6_bitCount_0f7a4_25 rfl rfl ?_
  refine ev_iconst (pc := 26) (v := 4) dJ6_bitCount_0f7a4_26 (by decide) ?_
  refine ev_iushr (pc := 27) dJ6_bitCount_0f7a4_27 ?_
  refine ev_iadd (pc := 28) dJ6_bitCount_0f7a4_28 ?_
  refine ev_ldcw (pc := 29) (v := 252645135) dJ6_bitCount_0f7a4_29 ag_kc_J6_267 ?_
  refine ev_iand (pc := 32) dJ6_bitCount_0f7a4_32 ?_
  refine ev_istore_n (pc := 33) (i := 0) (lv' := [(0, .int (((((x0 - ((ag_ushr x0 1) &&& 1431655765)) &&& 858993459) + ((ag_ushr (x0 - ((ag_ushr x0 1) &&& 1431655765)) 2) &&& 858993459)) + (ag_ushr (((x0 - ((ag_ushr x0 1) &&& 1431655765)) &&& 858993459) + ((ag_ushr (x0 - ((ag_ushr x0 1) &&& 1431655765)) 2) &&& 858993459)) 4)) &&& 252645135))]) dJ6_bitCount_0f7a4_33 rfl (Nat.le_of_ble_eq_true rfl) rfl ?_
  refine ev_iload_n (pc := 34) (i := 0) 0 dJ6_bitCount_0f7a4_34 rfl rfl ?_
  refine ev_iload_n (pc := 35) (i := 0) 0 dJ6_bitCount_0f7a4_35 rfl rfl ?_
  refine ev_bipush (pc := 36) (v := 8) dJ6_bitCount_0f7a4_36 (by decide) ?_
  refine ev_iushr (pc := 38) dJ6_bitCount_0f7a4_38 ?_
  refine ev_iadd (pc := 39) dJ6_bitCount_0f7a4_39 ?_
  refine ev_istore_n (pc := 40) (i := 0) (lv' := [(0, .int ((((((x0 - ((ag_ushr x0 1) &&& 1431655765)) &&& 858993459) + ((ag_ushr (x0 - ((ag_ushr x0 1) &&& 1431655765)) 2) &&& 858993459)) + (ag_ushr (((x0 - ((ag_ushr x0 1) &&& 1431655765)) &&& 858993459) + ((ag_ushr (x0 - ((ag_ushr x0 1) &&& 1431655765)) 2) &&& 858993459)) 4)) &&& 252645135) + (ag_ushr (((((x0 - ((ag_ushr x0 1) &&& 1431655765)) &&& 858993459) + ((ag_ushr (x0 - ((ag_ushr x0 1) &&& 1431655765)) 2) &&& 858993459)) + (ag_ushr (((x0 - ((ag_ushr x0 1) &&& 1431655765)) &&& 858993459) + ((ag_ushr (x0 - ((ag_ushr x0 1) &&& 1431655765)) 2) &&& 858993459)) 4)) &&& 252645135) 8)))]) dJ6_bitCount_0f7a4_40 rfl (Nat.le_of_ble_eq_true rfl) rfl ?_
  refine ev_iload_n (pc := 41) (i := 0) 0 dJ6_bitCount_0f7a4_41 rfl rfl ?_
  refine ev_iload_n (pc := 42) (i := 0) 0 dJ6_bitCount_0f7a4_42 rfl rfl ?_
  refine ev_bipush (pc := 43) (v := 16) dJ6_bitCount_0f7a4_43 (by decide) ?_
  refine ev_iushr (pc := 45) dJ6_bitCount_0f7a4_45 ?_
  refine ev_iadd (pc := 46) dJ6_bitCount_0f7a4_46 ?_
  refine ev_istore_n (pc := 47) (i := 0) (lv' := [(0, .int (((((((x0 - ((ag_ushr x0 1) &&& 1431655765)) &&& 858993459) + ((ag_ushr (x0 - ((ag_ushr x0 1) &&& 1431655765)) 2) &&& 858993459)) + (ag_ushr (((x0 - ((ag_ushr x0 1) &&& 1431655765)) &&& 858993459) + ((ag_ushr (x0 - ((ag_ushr x0 1) &&& 1431655765)) 2) &&& 858993459)) 4)) &&& 252645135) + (ag_ushr (((((x0 - ((ag_ushr x0 1) &&& 1431655765)) &&& 858993459) + ((ag_ushr (x0 - ((ag_ushr x0 1) &&& 1431655765)) 2) &&& 858993459)) + (ag_ushr (((x0 - ((ag_ushr x0 1) &&& 1431655765)) &&& 858993459) + ((ag_ushr (x0 - ((ag_ushr x0 1) &&& 1431655765)) 2) &&& 858993459)) 4)) &&& 252645135) 8)) + (ag_ushr ((((((x0 - ((ag_ushr x0 1) &&& 1431655765)) &&& 858993459) + ((ag_ushr (x0 - ((ag_ushr x0 1) &&& 1431655765)) 2) &&& 858993459)) + (ag_ushr (((x0 - ((ag_ushr x0 1) &&& 1431655765)) &&& 858993459) + ((ag_ushr (x0 - ((ag_ushr x0 1) &&& 1431655765)) 2) &&& 858993459)) 4)) &&& 252645135) + (ag_ushr (((((x0 - ((ag_ushr x0 1) &&& 1431655765)) &&& 858993459) + ((ag_ushr (x0 - ((ag_ushr x0 1) &&& 1431655765)) 2) &&& 858993459)) + (ag_ushr (((x0 - ((ag_ushr x0 1) &&& 1431655765)) &&& 858993459) + ((ag_ushr (x0 - ((ag_ushr x0 1) &&& 1431655765)) 2) &&& 858993459)) 4)) &&& 252645135) 8)) 16)))]) dJ6_bitCount_0f7a4_47 rfl (Nat.le_of_ble_eq_true rfl) rfl ?_
  refine ev_iload_n (pc := 48) (i := 0) 0 dJ6_bitCount_0f7a4_48 rfl rfl ?_
  refine ev_bipush (pc := 49) (v := 63) dJ6_bitCount_0f7a4_49 (by decide) ?_
  refine ev_iand (pc := 51) dJ6_bitCount_0f7a4_51 ?_
  exact ev_iret (ty := .int) (fun r h => by cases h; rfl) rfl rfl dJ6_bitCount_0f7a4_52
-- X1_ownWords
def mX1_ownWords : Md := (RX1, cX1_ownWords, 3, some .int)
theorem mv_X1_ownWords : ag_Mv yX1_ownWords mX1_ownWords 0 := ⟨ag_co_X1_ownWords, ag_im_X1_ownWords, ag_se_X1_ownWords, ag_ini_X1, by decide +kernel⟩
theorem dX1_ownWords_0 : decode mX1_ownWords.2.1 0 = .ok (.iconst 0, 1) := by decide +kernel
theorem dX1_ownWords_1 : decode mX1_ownWords.2.1 1 = .ok (.istore_n 1, 1) := by decide +kernel
theorem dX1_ownWords_2 : decode mX1_ownWords.2.1 2 = .ok (.iconst 0, 1) := by decide +kernel
theorem dX1_ownWords_3 : decode mX1_ownWords.2.1 3 = .ok (.istore_n 2, 1) := by decide +kernel
theorem dX1_ownWords_4 : decode mX1_ownWords.2.1 4 = .ok (.iload_n 2, 1) := by decide +kernel
theorem dX1_ownWords_5 : decode mX1_ownWords.2.1 5 = .ok (.aload_n 0, 1) := by decide +kernel
theorem dX1_ownWords_6 : decode mX1_ownWords.2.1 6 = .ok (.getfield 9, 3) := by decide +kernel
theorem dX1_ownWords_9 : decode mX1_ownWords.2.1 9 = .ok (.if_icmp .ge 21, 3) := by decide +kernel
theorem dX1_ownWords_12 : decode mX1_ownWords.2.1 12 = .ok (.iload_n 1, 1) := by decide +kernel
theorem dX1_ownWords_13 : decode mX1_ownWords.2.1 13 = .ok (.aload_n 0, 1) := by decide +kernel
theorem dX1_ownWords_14 : decode mX1_ownWords.2.1 14 = .ok (.getfield 28, 3) := by decide +kernel
theorem dX1_ownWords_17 : decode mX1_ownWords.2.1 17 = .ok (.iload_n 2, 1) := by decide +kernel
theorem dX1_ownWords_18 : decode mX1_ownWords.2.1 18 = .ok (.iaload, 1) := by decide +kernel
theorem dX1_ownWords_19 : decode mX1_ownWords.2.1 19 = .ok (.invokestatic 31, 3) := by decide +kernel
theorem dX1_ownWords_22 : decode mX1_ownWords.2.1 22 = .ok (.iadd, 1) := by decide +kernel
theorem dX1_ownWords_23 : decode mX1_ownWords.2.1 23 = .ok (.istore_n 1, 1) := by decide +kernel
theorem dX1_ownWords_24 : decode mX1_ownWords.2.1 24 = .ok (.iinc 2 1, 3) := by decide +kernel
theorem dX1_ownWords_27 : decode mX1_ownWords.2.1 27 = .ok (.goto (-23), 3) := by decide +kernel
theorem dX1_ownWords_30 : decode mX1_ownWords.2.1 30 = .ok (.iload_n 1, 1) := by decide +kernel
theorem dX1_ownWords_31 : decode mX1_ownWords.2.1 31 = .ok (.ireturn, 1) := by decide +kernel
def fn_X1_ownWords_b4 (n : Nat) (b : Nat) (σ : Sg)  : Nat → Int32 → Int32 → Option Int32
  | 0 => fun _ _ => none
  | i + 1 => fun v1 v2 =>
  (if (σ b 0) ≤ v2 then (some v1)
  else (if ag_ib v2 10 = true then (Option.bind (fn_J6_bitCount_0f7a4 (σ (b + 5) v2.toNatClampNeg) σ) fun q1 =>
  ((fn_X1_ownWords_b4 n b σ i) (v1 + q1) (v2 + 1))) else none))
theorem fn_X1_ownWords_b4_s (n : Nat) (b : Nat) (σ : Sg)  (i : Nat) (v1 : Int32) (v2 : Int32) : fn_X1_ownWords_b4 n b σ (i + 1) v1 v2 =
  (if (σ b 0) ≤ v2 then (some v1)
  else (if ag_ib v2 10 = true then (Option.bind (fn_J6_bitCount_0f7a4 (σ (b + 5) v2.toNatClampNeg) σ) fun q1 =>
  ((fn_X1_ownWords_b4 n b σ i) (v1 + q1) (v2 + 1))) else none)) := rfl
set_option maxRecDepth 20000 in
set_option maxHeartbeats 4000000 in
theorem ev_X1_ownWords_b4 (n : Nat) (b : Nat) (hb : ag_F b) (σ : Sg)  : ∀ (i : Nat) (v1 : Int32) (v2 : Int32), Ev mX1_ownWords 1 20 (jI σ) 4 [(0, .ref b), (1, .int v1), (2, .int v2)] [] σ (fn_X1_ownWords_b4 n b σ i v1 v2) := by
  intro i
  induction i with
  | zero =>
    intro v1 v2
    exact ev_none
  | succ i ih =>
    intro v1 v2
    rw [fn_X1_ownWords_b4_s]
    refine ev_iload_n (pc := 4) (i := 2) 2 dX1_ownWords_4 rfl rfl ?_
    refine ev_aload_n (pc := 5) (i := 0) 0 dX1_ownWords_5 rfl rfl ?_
    refine ev_getI (pc := 6) 0 ag_C1 (ag_Fk hb).1 (ag_Fk hb).2 (Nat.le_of_ble_eq_true rfl) (ag_Ft0 hb) rfl ag_fl_X1_9 dX1_ownWords_6 ?_
    refine ev_icmp_ge (pc := 9) (tgt := 30) dX1_ownWords_9 rfl ?_ ?_
    · refine ev_iload_n (pc := 30) (i := 1) 1 dX1_ownWords_30 rfl rfl ?_
      exact ev_iret (ty := .int) (fun r h => by cases h; rfl) rfl rfl dX1_ownWords_31
    · refine ev_iload_n (pc := 12) (i := 1) 1 dX1_ownWords_12 rfl rfl ?_
      refine ev_aload_n (pc := 13) (i := 0) 0 dX1_ownWords_13 rfl rfl ?_
      refine ev_getR (pc := 14) (t := (b + 5)) 5 ag_C1 (ag_Fk hb).1 (ag_Fk hb).2 (Nat.le_of_ble_eq_true rfl) (ag_Ft5 hb) rfl ag_fl_X1_28 dX1_ownWords_14 ?_
      refine ev_iload_n (pc := 17) (i := 2) 2 dX1_ownWords_17 rfl rfl ?_
      refine ev_iald (pc := 18) (ag_Fa5 hb).1 (ag_Fa5 hb).2 dX1_ownWords_18 ?_
      refine ev_sI (pc := 19) (as := [.int (σ (b + 5) v2.toNatClampNeg)]) (rest := [.int v1]) ⟨31, ms_J6_bitCount_0f7a4, ag_ml_X1_31, rfl, (Nat.le_of_ble_eq_true rfl), ⟨(Nat.le_of_ble_eq_true rfl), (Nat.le_of_ble_eq_true rfl)⟩, dX1_ownWords_19⟩ (im_J6_bitCount_0f7a4 (σ (b + 5) v2.toNatClampNeg) σ) (fun q1 => ?_)
      refine ev_iadd (pc := 22) dX1_ownWords_22 ?_
      refine ev_istore_n (pc := 23) (i := 1) (lv' := [(1, .int (v1 + q1)), (0, .ref b), (2, .int v2)]) dX1_ownWords_23 rfl (Nat.le_of_ble_eq_true rfl) rfl ?_
      refine ev_iinc (pc := 24) (v := (v2 + 1)) (lv' := [(2, .int (v2 + 1)), (1, .int (v1 + q1)), (0, .ref b)]) 2 dX1_ownWords_24 rfl rfl (Nat.le_of_ble_eq_true rfl) rfl ?_
      refine ev_goto (pc := 27) (tgt := 4) dX1_ownWords_27 rfl ?_
      refine ev_sub [2, 1, 0] rfl ?_
      exact ih (v1 + q1) (v2 + 1)
def fn_X1_ownWords (n : Nat) (b : Nat) (σ : Sg) : Option Int32 :=
  (fn_X1_ownWords_b4 n b σ n 0 0)
set_option maxRecDepth 20000 in
set_option maxHeartbeats 4000000 in
theorem im_X1_ownWords (n : Nat) (b : Nat) (hb : ag_F b) (σ : Sg) : Im yX1_ownWords mX1_ownWords 1 20 (jI σ) [.ref b] σ (fn_X1_ownWords n b σ) := by
  refine Im.of (by decide +kernel) rfl (Nat.le_of_ble_eq_true rfl) ?_
  show Ev mX1_ownWords 1 20 (jI σ) 0 [(0, .ref b)] [] σ (fn_X1_ownWords n b σ)
  unfold fn_X1_ownWords
  refine ev_iconst (pc := 0) (v := 0) dX1_ownWords_0 (by decide) ?_
  refine ev_istore_n (pc := 1) (i := 1) (lv' := [(1, .int 0), (0, .ref b)]) dX1_ownWords_1 rfl (Nat.le_of_ble_eq_true rfl) rfl ?_
  refine ev_iconst (pc := 2) (v := 0) dX1_ownWords_2 (by decide) ?_
  refine ev_istore_n (pc := 3) (i := 2) (lv' := [(2, .int 0), (1, .int 0), (0, .ref b)]) dX1_ownWords_3 rfl (Nat.le_of_ble_eq_true rfl) rfl ?_
  refine ev_sub [2, 1, 0] rfl ?_
  exact ev_X1_ownWords_b4 n b hb σ n 0 0
-- X1_shorten
def mX1_shorten : Md := (RX1, cX1_shorten, 5, none)
theorem mv_X1_shorten : ag_Mv yX1_shorten mX1_shorten 2 := ⟨ag_co_X1_shorten, ag_im_X1_shorten, ag_se_X1_shorten, ag_ini_X1, by decide +kernel⟩
theorem dX1_shorten_0 : decode mX1_shorten.2.1 0 = .ok (.iconst 0, 1) := by decide +kernel
theorem dX1_shorten_1 : decode mX1_shorten.2.1 1 = .ok (.istore_n 3, 1) := by decide +kernel
theorem dX1_shorten_2 : decode mX1_shorten.2.1 2 = .ok (.iload_n 3, 1) := by decide +kernel
theorem dX1_shorten_3 : decode mX1_shorten.2.1 3 = .ok (.aload_n 0, 1) := by decide +kernel
theorem dX1_shorten_4 : decode mX1_shorten.2.1 4 = .ok (.getfield 9, 3) := by decide +kernel
theorem dX1_shorten_7 : decode mX1_shorten.2.1 7 = .ok (.if_icmp .ge 58, 3) := by decide +kernel
theorem dX1_shorten_10 : decode mX1_shorten.2.1 10 = .ok (.iload_n 2, 1) := by decide +kernel
theorem dX1_shorten_11 : decode mX1_shorten.2.1 11 = .ok (.iload_n 3, 1) := by decide +kernel
theorem dX1_shorten_12 : decode mX1_shorten.2.1 12 = .ok (.ishr, 1) := by decide +kernel
theorem dX1_shorten_13 : decode mX1_shorten.2.1 13 = .ok (.iconst 1, 1) := by decide +kernel
theorem dX1_shorten_14 : decode mX1_shorten.2.1 14 = .ok (.iand, 1) := by decide +kernel
theorem dX1_shorten_15 : decode mX1_shorten.2.1 15 = .ok (.iconst 1, 1) := by decide +kernel
theorem dX1_shorten_16 : decode mX1_shorten.2.1 16 = .ok (.if_icmp .ne 7, 3) := by decide +kernel
theorem dX1_shorten_19 : decode mX1_shorten.2.1 19 = .ok (.iconst 1, 1) := by decide +kernel
theorem dX1_shorten_20 : decode mX1_shorten.2.1 20 = .ok (.goto 4, 3) := by decide +kernel
theorem dX1_shorten_23 : decode mX1_shorten.2.1 23 = .ok (.iconst 0, 1) := by decide +kernel
theorem dX1_shorten_24 : decode mX1_shorten.2.1 24 = .ok (.istore 4, 2) := by decide +kernel
theorem dX1_shorten_26 : decode mX1_shorten.2.1 26 = .ok (.aload_n 0, 1) := by decide +kernel
theorem dX1_shorten_27 : decode mX1_shorten.2.1 27 = .ok (.getfield 19, 3) := by decide +kernel
theorem dX1_shorten_30 : decode mX1_shorten.2.1 30 = .ok (.iload_n 3, 1) := by decide +kernel
theorem dX1_shorten_31 : decode mX1_shorten.2.1 31 = .ok (.iload 4, 2) := by decide +kernel
theorem dX1_shorten_33 : decode mX1_shorten.2.1 33 = .ok (.ifCond .eq 19, 3) := by decide +kernel
theorem dX1_shorten_36 : decode mX1_shorten.2.1 36 = .ok (.iconst 1, 1) := by decide +kernel
theorem dX1_shorten_37 : decode mX1_shorten.2.1 37 = .ok (.aload_n 1, 1) := by decide +kernel
theorem dX1_shorten_38 : decode mX1_shorten.2.1 38 = .ok (.getfield 19, 3) := by decide +kernel
theorem dX1_shorten_41 : decode mX1_shorten.2.1 41 = .ok (.iload_n 3, 1) := by decide +kernel
theorem dX1_shorten_42 : decode mX1_shorten.2.1 42 = .ok (.iaload, 1) := by decide +kernel
theorem dX1_shorten_43 : decode mX1_shorten.2.1 43 = .ok (.bipush 10, 2) := by decide +kernel
theorem dX1_shorten_45 : decode mX1_shorten.2.1 45 = .ok (.isub, 1) := by decide +kernel
theorem dX1_shorten_46 : decode mX1_shorten.2.1 46 = .ok (.invokestatic 37, 3) := by decide +kernel
theorem dX1_shorten_49 : decode mX1_shorten.2.1 49 = .ok (.goto 9, 3) := by decide +kernel
theorem dX1_shorten_52 : decode mX1_shorten.2.1 52 = .ok (.aload_n 1, 1) := by decide +kernel
theorem dX1_shorten_53 : decode mX1_shorten.2.1 53 = .ok (.getfield 19, 3) := by decide +kernel
theorem dX1_shorten_56 : decode mX1_shorten.2.1 56 = .ok (.iload_n 3, 1) := by decide +kernel
theorem dX1_shorten_57 : decode mX1_shorten.2.1 57 = .ok (.iaload, 1) := by decide +kernel
theorem dX1_shorten_58 : decode mX1_shorten.2.1 58 = .ok (.iastore, 1) := by decide +kernel
theorem dX1_shorten_59 : decode mX1_shorten.2.1 59 = .ok (.iinc 3 1, 3) := by decide +kernel
theorem dX1_shorten_62 : decode mX1_shorten.2.1 62 = .ok (.goto (-60), 3) := by decide +kernel
theorem dX1_shorten_65 : decode mX1_shorten.2.1 65 = .ok (.return_, 1) := by decide +kernel
def fn_X1_shorten_b58 (n : Nat) (b : Nat) (b1 : Nat) (x2 : Int32) (k2 : Int32 → Sg → Option Sg) (v3 : Int32) (s1 : Int32) (s2 : Int32) (σ : Sg) : Option Sg :=
  (if ag_ib s1 10 = true then (k2 (v3 + 1) (ag_up σ (b + 2) s1.toNatClampNeg s2)) else none)
set_option maxRecDepth 20000 in
set_option maxHeartbeats 4000000 in
theorem ev_X1_shorten_b58 (n : Nat) (b : Nat) (hb : ag_F b) (b1 : Nat) (hb1 : ag_F b1) (x2 : Int32) (k2 : Int32 → Sg → Option Sg) (hk2 : ∀ (v3 : Int32) (σ : Sg), Ev mX1_shorten 1 21 jV 2 [(0, .ref b), (1, .ref b1), (2, .int x2), (3, .int v3)] [] σ (k2 v3 σ)) (v3 : Int32) (s1 : Int32) (s2 : Int32) (σ : Sg) : Ev mX1_shorten 1 21 jV 58 [(0, .ref b), (1, .ref b1), (2, .int x2), (3, .int v3)] [.int s2, .int s1, .ref (b + 2)] σ (fn_X1_shorten_b58 n b b1 x2 k2 v3 s1 s2 σ) := by
  unfold fn_X1_shorten_b58
  refine ev_iast (pc := 58) (ag_Fa2 hb).1 (ag_Fa2 hb).2 dX1_shorten_58 ?_
  refine ev_iinc (pc := 59) (v := (v3 + 1)) (lv' := [(3, .int (v3 + 1)), (0, .ref b), (1, .ref b1), (2, .int x2)]) 3 dX1_shorten_59 rfl rfl (Nat.le_of_ble_eq_true rfl) rfl ?_
  refine ev_goto (pc := 62) (tgt := 2) dX1_shorten_62 rfl ?_
  refine ev_sub [1, 2, 3, 0] rfl ?_
  exact hk2 (v3 + 1) (ag_up σ (b + 2) s1.toNatClampNeg s2)
def fn_X1_shorten_b24 (n : Nat) (b : Nat) (b1 : Nat) (x2 : Int32) (k2 : Int32 → Sg → Option Sg) (v3 : Int32) (s0 : Int32) (σ : Sg) : Option Sg :=
  (if s0 = 0 then (if ag_ib v3 10 = true then (fn_X1_shorten_b58 n b b1 x2 k2 v3 v3 (σ (b1 + 2) v3.toNatClampNeg) σ) else none)
  else (if ag_ib v3 10 = true then (fn_X1_shorten_b58 n b b1 x2 k2 v3 v3 (ag_max 1 ((σ (b1 + 2) v3.toNatClampNeg) - 10)) σ) else none))
set_option maxRecDepth 20000 in
set_option maxHeartbeats 4000000 in
theorem ev_X1_shorten_b24 (n : Nat) (b : Nat) (hb : ag_F b) (b1 : Nat) (hb1 : ag_F b1) (x2 : Int32) (k2 : Int32 → Sg → Option Sg) (hk2 : ∀ (v3 : Int32) (σ : Sg), Ev mX1_shorten 1 21 jV 2 [(0, .ref b), (1, .ref b1), (2, .int x2), (3, .int v3)] [] σ (k2 v3 σ)) (v3 : Int32) (s0 : Int32) (σ : Sg) : Ev mX1_shorten 1 21 jV 24 [(0, .ref b), (1, .ref b1), (2, .int x2), (3, .int v3)] [.int s0] σ (fn_X1_shorten_b24 n b b1 x2 k2 v3 s0 σ) := by
  unfold fn_X1_shorten_b24
  refine ev_istore (pc := 24) (lv' := [(4, .int s0), (0, .ref b), (1, .ref b1), (2, .int x2), (3, .int v3)]) dX1_shorten_24 (Nat.le_of_ble_eq_true rfl) rfl ?_
  refine ev_aload_n (pc := 26) (i := 0) 1 dX1_shorten_26 rfl rfl ?_
  refine ev_getR (pc := 27) (t := (b + 2)) 2 ag_C1 (ag_Fk hb).1 (ag_Fk hb).2 (Nat.le_of_ble_eq_true rfl) (ag_Ft2 hb) rfl ag_fl_X1_19 dX1_shorten_27 ?_
  refine ev_iload_n (pc := 30) (i := 3) 4 dX1_shorten_30 rfl rfl ?_
  refine ev_iload (pc := 31) 0 dX1_shorten_31 rfl ?_
  refine ev_if_eq (pc := 33) (tgt := 52) dX1_shorten_33 rfl ?_ ?_
  · refine ev_aload_n (pc := 52) (i := 1) 2 dX1_shorten_52 rfl rfl ?_
    refine ev_getR (pc := 53) (t := (b1 + 2)) 2 ag_C1 (ag_Fk hb1).1 (ag_Fk hb1).2 (Nat.le_of_ble_eq_true rfl) (ag_Ft2 hb1) rfl ag_fl_X1_19 dX1_shorten_53 ?_
    refine ev_iload_n (pc := 56) (i := 3) 4 dX1_shorten_56 rfl rfl ?_
    refine ev_iald (pc := 57) (ag_Fa2 hb1).1 (ag_Fa2 hb1).2 dX1_shorten_57 ?_
    refine ev_sub [1, 2, 3, 4] rfl ?_
    exact ev_X1_shorten_b58 n b hb b1 hb1 x2 k2 hk2 v3 v3 (σ (b1 + 2) v3.toNatClampNeg) σ
  · refine ev_iconst (pc := 36) (v := 1) dX1_shorten_36 (by decide) ?_
    refine ev_aload_n (pc := 37) (i := 1) 2 dX1_shorten_37 rfl rfl ?_
    refine ev_getR (pc := 38) (t := (b1 + 2)) 2 ag_C1 (ag_Fk hb1).1 (ag_Fk hb1).2 (Nat.le_of_ble_eq_true rfl) (ag_Ft2 hb1) rfl ag_fl_X1_19 dX1_shorten_38 ?_
    refine ev_iload_n (pc := 41) (i := 3) 4 dX1_shorten_41 rfl rfl ?_
    refine ev_iald (pc := 42) (ag_Fa2 hb1).1 (ag_Fa2 hb1).2 dX1_shorten_42 ?_
    refine ev_bipush (pc := 43) (v := 10) dX1_shorten_43 (by decide) ?_
    refine ev_isub (pc := 45) dX1_shorten_45 ?_
    refine ev_mmax (pc := 46) ag_ml_X1_37 ⟨(Nat.le_of_ble_eq_true rfl), (Nat.le_of_ble_eq_true rfl)⟩ dX1_shorten_46 ?_
    refine ev_goto (pc := 49) (tgt := 58) dX1_shorten_49 rfl ?_
    refine ev_sub [1, 2, 3, 4] rfl ?_
    exact ev_X1_shorten_b58 n b hb b1 hb1 x2 k2 hk2 v3 v3 (ag_max 1 ((σ (b1 + 2) v3.toNatClampNeg) - 10)) σ
def fn_X1_shorten_b2 (n : Nat) (b : Nat) (b1 : Nat) (x2 : Int32)  : Nat → Int32 → Sg → Option Sg
  | 0 => fun _ _ => none
  | i + 1 => fun v3 σ =>
  (if (σ b 0) ≤ v3 then (some σ)
  else (if ((x2 >>> (v3 &&& 31)) &&& 1) = 1 then (fn_X1_shorten_b24 n b b1 x2 (fn_X1_shorten_b2 n b b1 x2 i) v3 1 σ)
  else (fn_X1_shorten_b24 n b b1 x2 (fn_X1_shorten_b2 n b b1 x2 i) v3 0 σ)))
theorem fn_X1_shorten_b2_s (n : Nat) (b : Nat) (b1 : Nat) (x2 : Int32)  (i : Nat) (v3 : Int32) (σ : Sg) : fn_X1_shorten_b2 n b b1 x2 (i + 1) v3 σ =
  (if (σ b 0) ≤ v3 then (some σ)
  else (if ((x2 >>> (v3 &&& 31)) &&& 1) = 1 then (fn_X1_shorten_b24 n b b1 x2 (fn_X1_shorten_b2 n b b1 x2 i) v3 1 σ)
  else (fn_X1_shorten_b24 n b b1 x2 (fn_X1_shorten_b2 n b b1 x2 i) v3 0 σ))) := rfl
set_option maxRecDepth 20000 in
set_option maxHeartbeats 4000000 in
theorem ev_X1_shorten_b2 (n : Nat) (b : Nat) (hb : ag_F b) (b1 : Nat) (hb1 : ag_F b1) (x2 : Int32)  : ∀ (i : Nat) (v3 : Int32) (σ : Sg), Ev mX1_shorten 1 21 jV 2 [(0, .ref b), (1, .ref b1), (2, .int x2), (3, .int v3)] [] σ (fn_X1_shorten_b2 n b b1 x2 i v3 σ) := by
  intro i
  induction i with
  | zero =>
    intro v3 σ
    exact ev_none
  | succ i ih =>
    intro v3 σ
    rw [fn_X1_shorten_b2_s]
    refine ev_iload_n (pc := 2) (i := 3) 3 dX1_shorten_2 rfl rfl ?_
    refine ev_aload_n (pc := 3) (i := 0) 0 dX1_shorten_3 rfl rfl ?_
    refine ev_getI (pc := 4) 0 ag_C1 (ag_Fk hb).1 (ag_Fk hb).2 (Nat.le_of_ble_eq_true rfl) (ag_Ft0 hb) rfl ag_fl_X1_9 dX1_shorten_4 ?_
    refine ev_icmp_ge (pc := 7) (tgt := 65) dX1_shorten_7 rfl ?_ ?_
    · exact ev_ret (fun r h => by cases h; rfl) rfl dX1_shorten_65
    · refine ev_iload_n (pc := 10) (i := 2) 2 dX1_shorten_10 rfl rfl ?_
      refine ev_iload_n (pc := 11) (i := 3) 3 dX1_shorten_11 rfl rfl ?_
      refine ev_ishr (pc := 12) dX1_shorten_12 ?_
      refine ev_iconst (pc := 13) (v := 1) dX1_shorten_13 (by decide) ?_
      refine ev_iand (pc := 14) dX1_shorten_14 ?_
      refine ev_iconst (pc := 15) (v := 1) dX1_shorten_15 (by decide) ?_
      refine ev_icmp_ne (pc := 16) (tgt := 23) dX1_shorten_16 rfl ?_ ?_
      · refine ev_iconst (pc := 19) (v := 1) dX1_shorten_19 (by decide) ?_
        refine ev_goto (pc := 20) (tgt := 24) dX1_shorten_20 rfl ?_
        exact ev_X1_shorten_b24 n b hb b1 hb1 x2 (fn_X1_shorten_b2 n b b1 x2 i) ih v3 1 σ
      · refine ev_iconst (pc := 23) (v := 0) dX1_shorten_23 (by decide) ?_
        exact ev_X1_shorten_b24 n b hb b1 hb1 x2 (fn_X1_shorten_b2 n b b1 x2 i) ih v3 0 σ
def fn_X1_shorten (n : Nat) (b : Nat) (b1 : Nat) (x2 : Int32) (σ : Sg) : Option Sg :=
  (fn_X1_shorten_b2 n b b1 x2 n 0 σ)
set_option maxRecDepth 20000 in
set_option maxHeartbeats 4000000 in
theorem im_X1_shorten (n : Nat) (b : Nat) (hb : ag_F b) (b1 : Nat) (hb1 : ag_F b1) (x2 : Int32) (σ : Sg) : Im yX1_shorten mX1_shorten 1 21 jV [.ref b, .ref b1, .int x2] σ (fn_X1_shorten n b b1 x2 σ) := by
  refine Im.of (by decide +kernel) rfl (Nat.le_of_ble_eq_true rfl) ?_
  show Ev mX1_shorten 1 21 jV 0 [(0, .ref b), (1, .ref b1), (2, .int x2)] [] σ (fn_X1_shorten n b b1 x2 σ)
  unfold fn_X1_shorten
  refine ev_iconst (pc := 0) (v := 0) dX1_shorten_0 (by decide) ?_
  refine ev_istore_n (pc := 1) (i := 3) (lv' := [(3, .int 0), (0, .ref b), (1, .ref b1), (2, .int x2)]) dX1_shorten_1 rfl (Nat.le_of_ble_eq_true rfl) rfl ?_
  refine ev_sub [1, 2, 3, 0] rfl ?_
  exact ev_X1_shorten_b2 n b hb b1 hb1 x2 n 0 σ
-- X1_takeFrom
def mX1_takeFrom : Md := (RX1, cX1_takeFrom, 2, none)
theorem mv_X1_takeFrom : ag_Mv yX1_takeFrom mX1_takeFrom 1 := ⟨ag_co_X1_takeFrom, ag_im_X1_takeFrom, ag_se_X1_takeFrom, ag_ini_X1, by decide +kernel⟩
theorem dX1_takeFrom_0 : decode mX1_takeFrom.2.1 0 = .ok (.aload_n 0, 1) := by decide +kernel
theorem dX1_takeFrom_1 : decode mX1_takeFrom.2.1 1 = .ok (.aload_n 1, 1) := by decide +kernel
theorem dX1_takeFrom_2 : decode mX1_takeFrom.2.1 2 = .ok (.getfield 9, 3) := by decide +kernel
theorem dX1_takeFrom_5 : decode mX1_takeFrom.2.1 5 = .ok (.putfield 9, 3) := by decide +kernel
theorem dX1_takeFrom_8 : decode mX1_takeFrom.2.1 8 = .ok (.aload_n 1, 1) := by decide +kernel
theorem dX1_takeFrom_9 : decode mX1_takeFrom.2.1 9 = .ok (.getfield 15, 3) := by decide +kernel
theorem dX1_takeFrom_12 : decode mX1_takeFrom.2.1 12 = .ok (.iconst 0, 1) := by decide +kernel
theorem dX1_takeFrom_13 : decode mX1_takeFrom.2.1 13 = .ok (.aload_n 0, 1) := by decide +kernel
theorem dX1_takeFrom_14 : decode mX1_takeFrom.2.1 14 = .ok (.getfield 15, 3) := by decide +kernel
theorem dX1_takeFrom_17 : decode mX1_takeFrom.2.1 17 = .ok (.iconst 0, 1) := by decide +kernel
theorem dX1_takeFrom_18 : decode mX1_takeFrom.2.1 18 = .ok (.bipush 10, 2) := by decide +kernel
theorem dX1_takeFrom_20 : decode mX1_takeFrom.2.1 20 = .ok (.invokestatic 43, 3) := by decide +kernel
theorem dX1_takeFrom_23 : decode mX1_takeFrom.2.1 23 = .ok (.aload_n 1, 1) := by decide +kernel
theorem dX1_takeFrom_24 : decode mX1_takeFrom.2.1 24 = .ok (.getfield 19, 3) := by decide +kernel
theorem dX1_takeFrom_27 : decode mX1_takeFrom.2.1 27 = .ok (.iconst 0, 1) := by decide +kernel
theorem dX1_takeFrom_28 : decode mX1_takeFrom.2.1 28 = .ok (.aload_n 0, 1) := by decide +kernel
theorem dX1_takeFrom_29 : decode mX1_takeFrom.2.1 29 = .ok (.getfield 19, 3) := by decide +kernel
theorem dX1_takeFrom_32 : decode mX1_takeFrom.2.1 32 = .ok (.iconst 0, 1) := by decide +kernel
theorem dX1_takeFrom_33 : decode mX1_takeFrom.2.1 33 = .ok (.bipush 10, 2) := by decide +kernel
theorem dX1_takeFrom_35 : decode mX1_takeFrom.2.1 35 = .ok (.invokestatic 43, 3) := by decide +kernel
theorem dX1_takeFrom_38 : decode mX1_takeFrom.2.1 38 = .ok (.aload_n 1, 1) := by decide +kernel
theorem dX1_takeFrom_39 : decode mX1_takeFrom.2.1 39 = .ok (.getfield 22, 3) := by decide +kernel
theorem dX1_takeFrom_42 : decode mX1_takeFrom.2.1 42 = .ok (.iconst 0, 1) := by decide +kernel
theorem dX1_takeFrom_43 : decode mX1_takeFrom.2.1 43 = .ok (.aload_n 0, 1) := by decide +kernel
theorem dX1_takeFrom_44 : decode mX1_takeFrom.2.1 44 = .ok (.getfield 22, 3) := by decide +kernel
theorem dX1_takeFrom_47 : decode mX1_takeFrom.2.1 47 = .ok (.iconst 0, 1) := by decide +kernel
theorem dX1_takeFrom_48 : decode mX1_takeFrom.2.1 48 = .ok (.bipush 10, 2) := by decide +kernel
theorem dX1_takeFrom_50 : decode mX1_takeFrom.2.1 50 = .ok (.invokestatic 43, 3) := by decide +kernel
theorem dX1_takeFrom_53 : decode mX1_takeFrom.2.1 53 = .ok (.aload_n 1, 1) := by decide +kernel
theorem dX1_takeFrom_54 : decode mX1_takeFrom.2.1 54 = .ok (.getfield 25, 3) := by decide +kernel
theorem dX1_takeFrom_57 : decode mX1_takeFrom.2.1 57 = .ok (.iconst 0, 1) := by decide +kernel
theorem dX1_takeFrom_58 : decode mX1_takeFrom.2.1 58 = .ok (.aload_n 0, 1) := by decide +kernel
theorem dX1_takeFrom_59 : decode mX1_takeFrom.2.1 59 = .ok (.getfield 25, 3) := by decide +kernel
theorem dX1_takeFrom_62 : decode mX1_takeFrom.2.1 62 = .ok (.iconst 0, 1) := by decide +kernel
theorem dX1_takeFrom_63 : decode mX1_takeFrom.2.1 63 = .ok (.bipush 10, 2) := by decide +kernel
theorem dX1_takeFrom_65 : decode mX1_takeFrom.2.1 65 = .ok (.invokestatic 43, 3) := by decide +kernel
theorem dX1_takeFrom_68 : decode mX1_takeFrom.2.1 68 = .ok (.aload_n 1, 1) := by decide +kernel
theorem dX1_takeFrom_69 : decode mX1_takeFrom.2.1 69 = .ok (.getfield 28, 3) := by decide +kernel
theorem dX1_takeFrom_72 : decode mX1_takeFrom.2.1 72 = .ok (.iconst 0, 1) := by decide +kernel
theorem dX1_takeFrom_73 : decode mX1_takeFrom.2.1 73 = .ok (.aload_n 0, 1) := by decide +kernel
theorem dX1_takeFrom_74 : decode mX1_takeFrom.2.1 74 = .ok (.getfield 28, 3) := by decide +kernel
theorem dX1_takeFrom_77 : decode mX1_takeFrom.2.1 77 = .ok (.iconst 0, 1) := by decide +kernel
theorem dX1_takeFrom_78 : decode mX1_takeFrom.2.1 78 = .ok (.bipush 10, 2) := by decide +kernel
theorem dX1_takeFrom_80 : decode mX1_takeFrom.2.1 80 = .ok (.invokestatic 43, 3) := by decide +kernel
theorem dX1_takeFrom_83 : decode mX1_takeFrom.2.1 83 = .ok (.return_, 1) := by decide +kernel
def fn_X1_takeFrom (b : Nat) (b1 : Nat) (σ : Sg) : Option Sg :=
  (if ag_cpok 0 0 10 10 10 = true then (if ag_cpok 0 0 10 10 10 = true then (if ag_cpok 0 0 10 10 10 = true then (if ag_cpok 0 0 10 10 10 = true then (if ag_cpok 0 0 10 10 10 = true then (some (ag_ar (ag_ar (ag_ar (ag_ar (ag_ar (ag_up σ b 0 (σ b1 0)) (b + 1) (va_cpy ((ag_up σ b 0 (σ b1 0)) (b1 + 1)) ((ag_up σ b 0 (σ b1 0)) (b + 1)) (0 : Int32).toNatClampNeg (0 : Int32).toNatClampNeg (10 : Int32).toNatClampNeg)) (b + 2) (va_cpy ((ag_ar (ag_up σ b 0 (σ b1 0)) (b + 1) (va_cpy ((ag_up σ b 0 (σ b1 0)) (b1 + 1)) ((ag_up σ b 0 (σ b1 0)) (b + 1)) (0 : Int32).toNatClampNeg (0 : Int32).toNatClampNeg (10 : Int32).toNatClampNeg)) (b1 + 2)) ((ag_ar (ag_up σ b 0 (σ b1 0)) (b + 1) (va_cpy ((ag_up σ b 0 (σ b1 0)) (b1 + 1)) ((ag_up σ b 0 (σ b1 0)) (b + 1)) (0 : Int32).toNatClampNeg (0 : Int32).toNatClampNeg (10 : Int32).toNatClampNeg)) (b + 2)) (0 : Int32).toNatClampNeg (0 : Int32).toNatClampNeg (10 : Int32).toNatClampNeg)) (b + 3) (va_cpy ((ag_ar (ag_ar (ag_up σ b 0 (σ b1 0)) (b + 1) (va_cpy ((ag_up σ b 0 (σ b1 0)) (b1 + 1)) ((ag_up σ b 0 (σ b1 0)) (b + 1)) (0 : Int32).toNatClampNeg (0 : Int32).toNatClampNeg (10 : Int32).toNatClampNeg)) (b + 2) (va_cpy ((ag_ar (ag_up σ b 0 (σ b1 0)) (b + 1) (va_cpy ((ag_up σ b 0 (σ b1 0)) (b1 + 1)) ((ag_up σ b 0 (σ b1 0)) (b + 1)) (0 : Int32).toNatClampNeg (0 : Int32).toNatClampNeg (10 : Int32).toNatClampNeg)) (b1 + 2)) ((ag_ar (ag_up σ b 0 (σ b1 0)) (b + 1) (va_cpy ((ag_up σ b 0 (σ b1 0)) (b1 + 1)) ((ag_up σ b 0 (σ b1 0)) (b + 1)) (0 : Int32).toNatClampNeg (0 : Int32).toNatClampNeg (10 : Int32).toNatClampNeg)) (b + 2)) (0 : Int32).toNatClampNeg (0 : Int32).toNatClampNeg (10 : Int32).toNatClampNeg)) (b1 + 3)) ((ag_ar (ag_ar (ag_up σ b 0 (σ b1 0)) (b + 1) (va_cpy ((ag_up σ b 0 (σ b1 0)) (b1 + 1)) ((ag_up σ b 0 (σ b1 0)) (b + 1)) (0 : Int32).toNatClampNeg (0 : Int32).toNatClampNeg (10 : Int32).toNatClampNeg)) (b + 2) (va_cpy ((ag_ar (ag_up σ b 0 (σ b1 0)) (b + 1) (va_cpy ((ag_up σ b 0 (σ b1 0)) (b1 + 1)) ((ag_up σ b 0 (σ b1 0)) (b + 1)) (0 : Int32).toNatClampNeg (0 : Int32).toNatClampNeg (10 : Int32).toNatClampNeg)) (b1 + 2)) ((ag_ar (ag_up σ b 0 (σ b1 0)) (b + 1) (va_cpy ((ag_up σ b 0 (σ b1 0)) (b1 + 1)) ((ag_up σ b 0 (σ b1 0)) (b + 1)) (0 : Int32).toNatClampNeg (0 : Int32).toNatClampNeg (10 : Int32).toNatClampNeg)) (b + 2)) (0 : Int32).toNatClampNeg (0 : Int32).toNatClampNeg (10 : Int32).toNatClampNeg)) (b + 3)) (0 : Int32).toNatClampNeg (0 : Int32).toNatClampNeg (10 : Int32).toNatClampNeg)) (b + 4) (va_cpy ((ag_ar (ag_ar (ag_ar (ag_up σ b 0 (σ b1 0)) (b + 1) (va_cpy ((ag_up σ b 0 (σ b1 0)) (b1 + 1)) ((ag_up σ b 0 (σ b1 0)) (b + 1)) (0 : Int32).toNatClampNeg (0 : Int32).toNatClampNeg (10 : Int32).toNatClampNeg)) (b + 2) (va_cpy ((ag_ar (ag_up σ b 0 (σ b1 0)) (b + 1) (va_cpy ((ag_up σ b 0 (σ b1 0)) (b1 + 1)) ((ag_up σ b 0 (σ b1 0)) (b + 1)) (0 : Int32).toNatClampNeg (0 : Int32).toNatClampNeg (10 : Int32).toNatClampNeg)) (b1 + 2)) ((ag_ar (ag_up σ b 0 (σ b1 0)) (b + 1) (va_cpy ((ag_up σ b 0 (σ b1 0)) (b1 + 1)) ((ag_up σ b 0 (σ b1 0)) (b + 1)) (0 : Int32).toNatClampNeg (0 : Int32).toNatClampNeg (10 : Int32).toNatClampNeg)) (b + 2)) (0 : Int32).toNatClampNeg (0 : Int32).toNatClampNeg (10 : Int32).toNatClampNeg)) (b + 3) (va_cpy ((ag_ar (ag_ar (ag_up σ b 0 (σ b1 0)) (b + 1) (va_cpy ((ag_up σ b 0 (σ b1 0)) (b1 + 1)) ((ag_up σ b 0 (σ b1 0)) (b + 1)) (0 : Int32).toNatClampNeg (0 : Int32).toNatClampNeg (10 : Int32).toNatClampNeg)) (b + 2) (va_cpy ((ag_ar (ag_up σ b 0 (σ b1 0)) (b + 1) (va_cpy ((ag_up σ b 0 (σ b1 0)) (b1 + 1)) ((ag_up σ b 0 (σ b1 0)) (b + 1)) (0 : Int32).toNatClampNeg (0 : Int32).toNatClampNeg (10 : Int32).toNatClampNeg)) (b1 + 2)) ((ag_ar (ag_up σ b 0 (σ b1 0)) (b + 1) (va_cpy ((ag_up σ b 0 (σ b1 0)) (b1 + 1)) ((ag_up σ b 0 (σ b1 0)) (b + 1)) (0 : Int32).toNatClampNeg (0 : Int32).toNatClampNeg (10 : Int32).toNatClampNeg)) (b + 2)) (0 : Int32).toNatClampNeg (0 : Int32).toNatClampNeg (10 : Int32).toNatClampNeg)) (b1 + 3)) ((ag_ar (ag_ar (ag_up σ b 0 (σ b1 0)) (b + 1) (va_cpy ((ag_up σ b 0 (σ b1 0)) (b1 + 1)) ((ag_up σ b 0 (σ b1 0)) (b + 1)) (0 : Int32).toNatClampNeg (0 : Int32).toNatClampNeg (10 : Int32).toNatClampNeg)) (b + 2) (va_cpy ((ag_ar (ag_up σ b 0 (σ b1 0)) (b + 1) (va_cpy ((ag_up σ b 0 (σ b1 0)) (b1 + 1)) ((ag_up σ b 0 (σ b1 0)) (b + 1)) (0 : Int32).toNatClampNeg (0 : Int32).toNatClampNeg (10 : Int32).toNatClampNeg)) (b1 + 2)) ((ag_ar (ag_up σ b 0 (σ b1 0)) (b + 1) (va_cpy ((ag_up σ b 0 (σ b1 0)) (b1 + 1)) ((ag_up σ b 0 (σ b1 0)) (b + 1)) (0 : Int32).toNatClampNeg (0 : Int32).toNatClampNeg (10 : Int32).toNatClampNeg)) (b + 2)) (0 : Int32).toNatClampNeg (0 : Int32).toNatClampNeg (10 : Int32).toNatClampNeg)) (b + 3)) (0 : Int32).toNatClampNeg (0 : Int32).toNatClampNeg (10 : Int32).toNatClampNeg)) (b1 + 4)) ((ag_ar (ag_ar (ag_ar (ag_up σ b 0 (σ b1 0)) (b + 1) (va_cpy ((ag_up σ b 0 (σ b1 0)) (b1 + 1)) ((ag_up σ b 0 (σ b1 0)) (b + 1)) (0 : Int32).toNatClampNeg (0 : Int32).toNatClampNeg (10 : Int32).toNatClampNeg)) (b + 2) (va_cpy ((ag_ar (ag_up σ b 0 (σ b1 0)) (b + 1) (va_cpy ((ag_up σ b 0 (σ b1 0)) (b1 + 1)) ((ag_up σ b 0 (σ b1 0)) (b + 1)) (0 : Int32).toNatClampNeg (0 : Int32).toNatClampNeg (10 : Int32).toNatClampNeg)) (b1 + 2)) ((ag_ar (ag_up σ b 0 (σ b1 0)) (b + 1) (va_cpy ((ag_up σ b 0 (σ b1 0)) (b1 + 1)) ((ag_up σ b 0 (σ b1 0)) (b + 1)) (0 : Int32).toNatClampNeg (0 : Int32).toNatClampNeg (10 : Int32).toNatClampNeg)) (b + 2)) (0 : Int32).toNatClampNeg (0 : Int32).toNatClampNeg (10 : Int32).toNatClampNeg)) (b + 3) (va_cpy ((ag_ar (ag_ar (ag_up σ b 0 (σ b1 0)) (b + 1) (va_cpy ((ag_up σ b 0 (σ b1 0)) (b1 + 1)) ((ag_up σ b 0 (σ b1 0)) (b + 1)) (0 : Int32).toNatClampNeg (0 : Int32).toNatClampNeg (10 : Int32).toNatClampNeg)) (b + 2) (va_cpy ((ag_ar (ag_up σ b 0 (σ b1 0)) (b + 1) (va_cpy ((ag_up σ b 0 (σ b1 0)) (b1 + 1)) ((ag_up σ b 0 (σ b1 0)) (b + 1)) (0 : Int32).toNatClampNeg (0 : Int32).toNatClampNeg (10 : Int32).toNatClampNeg)) (b1 + 2)) ((ag_ar (ag_up σ b 0 (σ b1 0)) (b + 1) (va_cpy ((ag_up σ b 0 (σ b1 0)) (b1 + 1)) ((ag_up σ b 0 (σ b1 0)) (b + 1)) (0 : Int32).toNatClampNeg (0 : Int32).toNatClampNeg (10 : Int32).toNatClampNeg)) (b + 2)) (0 : Int32).toNatClampNeg (0 : Int32).toNatClampNeg (10 : Int32).toNatClampNeg)) (b1 + 3)) ((ag_ar (ag_ar (ag_up σ b 0 (σ b1 0)) (b + 1) (va_cpy ((ag_up σ b 0 (σ b1 0)) (b1 + 1)) ((ag_up σ b 0 (σ b1 0)) (b + 1)) (0 : Int32).toNatClampNeg (0 : Int32).toNatClampNeg (10 : Int32).toNatClampNeg)) (b + 2) (va_cpy ((ag_ar (ag_up σ b 0 (σ b1 0)) (b + 1) (va_cpy ((ag_up σ b 0 (σ b1 0)) (b1 + 1)) ((ag_up σ b 0 (σ b1 0)) (b + 1)) (0 : Int32).toNatClampNeg (0 : Int32).toNatClampNeg (10 : Int32).toNatClampNeg)) (b1 + 2)) ((ag_ar (ag_up σ b 0 (σ b1 0)) (b + 1) (va_cpy ((ag_up σ b 0 (σ b1 0)) (b1 + 1)) ((ag_up σ b 0 (σ b1 0)) (b + 1)) (0 : Int32).toNatClampNeg (0 : Int32).toNatClampNeg (10 : Int32).toNatClampNeg)) (b + 2)) (0 : Int32).toNatClampNeg (0 : Int32).toNatClampNeg (10 : Int32).toNatClampNeg)) (b + 3)) (0 : Int32).toNatClampNeg (0 : Int32).toNatClampNeg (10 : Int32).toNatClampNeg)) (b + 4)) (0 : Int32).toNatClampNeg (0 : Int32).toNatClampNeg (10 : Int32).toNatClampNeg)) (b + 5) (va_cpy ((ag_ar (ag_ar (ag_ar (ag_ar (ag_up σ b 0 (σ b1 0)) (b + 1) (va_cpy ((ag_up σ b 0 (σ b1 0)) (b1 + 1)) ((ag_up σ b 0 (σ b1 0)) (b + 1)) (0 : Int32).toNatClampNeg (0 : Int32).toNatClampNeg (10 : Int32).toNatClampNeg)) (b + 2) (va_cpy ((ag_ar (ag_up σ b 0 (σ b1 0)) (b + 1) (va_cpy ((ag_up σ b 0 (σ b1 0)) (b1 + 1)) ((ag_up σ b 0 (σ b1 0)) (b + 1)) (0 : Int32).toNatClampNeg (0 : Int32).toNatClampNeg (10 : Int32).toNatClampNeg)) (b1 + 2)) ((ag_ar (ag_up σ b 0 (σ b1 0)) (b + 1) (va_cpy ((ag_up σ b 0 (σ b1 0)) (b1 + 1)) ((ag_up σ b 0 (σ b1 0)) (b + 1)) (0 : Int32).toNatClampNeg (0 : Int32).toNatClampNeg (10 : Int32).toNatClampNeg)) (b + 2)) (0 : Int32).toNatClampNeg (0 : Int32).toNatClampNeg (10 : Int32).toNatClampNeg)) (b + 3) (va_cpy ((ag_ar (ag_ar (ag_up σ b 0 (σ b1 0)) (b + 1) (va_cpy ((ag_up σ b 0 (σ b1 0)) (b1 + 1)) ((ag_up σ b 0 (σ b1 0)) (b + 1)) (0 : Int32).toNatClampNeg (0 : Int32).toNatClampNeg (10 : Int32).toNatClampNeg)) (b + 2) (va_cpy ((ag_ar (ag_up σ b 0 (σ b1 0)) (b + 1) (va_cpy ((ag_up σ b 0 (σ b1 0)) (b1 + 1)) ((ag_up σ b 0 (σ b1 0)) (b + 1)) (0 : Int32).toNatClampNeg (0 : Int32).toNatClampNeg (10 : Int32).toNatClampNeg)) (b1 + 2)) ((ag_ar (ag_up σ b 0 (σ b1 0)) (b + 1) (va_cpy ((ag_up σ b 0 (σ b1 0)) (b1 + 1)) ((ag_up σ b 0 (σ b1 0)) (b + 1)) (0 : Int32).toNatClampNeg (0 : Int32).toNatClampNeg (10 : Int32).toNatClampNeg)) (b + 2)) (0 : Int32).toNatClampNeg (0 : Int32).toNatClampNeg (10 : Int32).toNatClampNeg)) (b1 + 3)) ((ag_ar (ag_ar (ag_up σ b 0 (σ b1 0)) (b + 1) (va_cpy ((ag_up σ b 0 (σ b1 0)) (b1 + 1)) ((ag_up σ b 0 (σ b1 0)) (b + 1)) (0 : Int32).toNatClampNeg (0 : Int32).toNatClampNeg (10 : Int32).toNatClampNeg)) (b + 2) (va_cpy ((ag_ar (ag_up σ b 0 (σ b1 0)) (b + 1) (va_cpy ((ag_up σ b 0 (σ b1 0)) (b1 + 1)) ((ag_up σ b 0 (σ b1 0)) (b + 1)) (0 : Int32).toNatClampNeg (0 : Int32).toNatClampNeg (10 : Int32).toNatClampNeg)) (b1 + 2)) ((ag_ar (ag_up σ b 0 (σ b1 0)) (b + 1) (va_cpy ((ag_up σ b 0 (σ b1 0)) (b1 + 1)) ((ag_up σ b 0 (σ b1 0)) (b + 1)) (0 : Int32).toNatClampNeg (0 : Int32).toNatClampNeg (10 : Int32).toNatClampNeg)) (b + 2)) (0 : Int32).toNatClampNeg (0 : Int32).toNatClampNeg (10 : Int32).toNatClampNeg)) (b + 3)) (0 : Int32).toNatClampNeg (0 : Int32).toNatClampNeg (10 : Int32).toNatClampNeg)) (b + 4) (va_cpy ((ag_ar (ag_ar (ag_ar (ag_up σ b 0 (σ b1 0)) (b + 1) (va_cpy ((ag_up σ b 0 (σ b1 0)) (b1 + 1)) ((ag_up σ b 0 (σ b1 0)) (b + 1)) (0 : Int32).toNatClampNeg (0 : Int32).toNatClampNeg (10 : Int32).toNatClampNeg)) (b + 2) (va_cpy ((ag_ar (ag_up σ b 0 (σ b1 0)) (b + 1) (va_cpy ((ag_up σ b 0 (σ b1 0)) (b1 + 1)) ((ag_up σ b 0 (σ b1 0)) (b + 1)) (0 : Int32).toNatClampNeg (0 : Int32).toNatClampNeg (10 : Int32).toNatClampNeg)) (b1 + 2)) ((ag_ar (ag_up σ b 0 (σ b1 0)) (b + 1) (va_cpy ((ag_up σ b 0 (σ b1 0)) (b1 + 1)) ((ag_up σ b 0 (σ b1 0)) (b + 1)) (0 : Int32).toNatClampNeg (0 : Int32).toNatClampNeg (10 : Int32).toNatClampNeg)) (b + 2)) (0 : Int32).toNatClampNeg (0 : Int32).toNatClampNeg (10 : Int32).toNatClampNeg)) (b + 3) (va_cpy ((ag_ar (ag_ar (ag_up σ b 0 (σ b1 0)) (b + 1) (va_cpy ((ag_up σ b 0 (σ b1 0)) (b1 + 1)) ((ag_up σ b 0 (σ b1 0)) (b + 1)) (0 : Int32).toNatClampNeg (0 : Int32).toNatClampNeg (10 : Int32).toNatClampNeg)) (b + 2) (va_cpy ((ag_ar (ag_up σ b 0 (σ b1 0)) (b + 1) (va_cpy ((ag_up σ b 0 (σ b1 0)) (b1 + 1)) ((ag_up σ b 0 (σ b1 0)) (b + 1)) (0 : Int32).toNatClampNeg (0 : Int32).toNatClampNeg (10 : Int32).toNatClampNeg)) (b1 + 2)) ((ag_ar (ag_up σ b 0 (σ b1 0)) (b + 1) (va_cpy ((ag_up σ b 0 (σ b1 0)) (b1 + 1)) ((ag_up σ b 0 (σ b1 0)) (b + 1)) (0 : Int32).toNatClampNeg (0 : Int32).toNatClampNeg (10 : Int32).toNatClampNeg)) (b + 2)) (0 : Int32).toNatClampNeg (0 : Int32).toNatClampNeg (10 : Int32).toNatClampNeg)) (b1 + 3)) ((ag_ar (ag_ar (ag_up σ b 0 (σ b1 0)) (b + 1) (va_cpy ((ag_up σ b 0 (σ b1 0)) (b1 + 1)) ((ag_up σ b 0 (σ b1 0)) (b + 1)) (0 : Int32).toNatClampNeg (0 : Int32).toNatClampNeg (10 : Int32).toNatClampNeg)) (b + 2) (va_cpy ((ag_ar (ag_up σ b 0 (σ b1 0)) (b + 1) (va_cpy ((ag_up σ b 0 (σ b1 0)) (b1 + 1)) ((ag_up σ b 0 (σ b1 0)) (b + 1)) (0 : Int32).toNatClampNeg (0 : Int32).toNatClampNeg (10 : Int32).toNatClampNeg)) (b1 + 2)) ((ag_ar (ag_up σ b 0 (σ b1 0)) (b + 1) (va_cpy ((ag_up σ b 0 (σ b1 0)) (b1 + 1)) ((ag_up σ b 0 (σ b1 0)) (b + 1)) (0 : Int32).toNatClampNeg (0 : Int32).toNatClampNeg (10 : Int32).toNatClampNeg)) (b + 2)) (0 : Int32).toNatClampNeg (0 : Int32).toNatClampNeg (10 : Int32).toNatClampNeg)) (b + 3)) (0 : Int32).toNatClampNeg (0 : Int32).toNatClampNeg (10 : Int32).toNatClampNeg)) (b1 + 4)) ((ag_ar (ag_ar (ag_ar (ag_up σ b 0 (σ b1 0)) (b + 1) (va_cpy ((ag_up σ b 0 (σ b1 0)) (b1 + 1)) ((ag_up σ b 0 (σ b1 0)) (b + 1)) (0 : Int32).toNatClampNeg (0 : Int32).toNatClampNeg (10 : Int32).toNatClampNeg)) (b + 2) (va_cpy ((ag_ar (ag_up σ b 0 (σ b1 0)) (b + 1) (va_cpy ((ag_up σ b 0 (σ b1 0)) (b1 + 1)) ((ag_up σ b 0 (σ b1 0)) (b + 1)) (0 : Int32).toNatClampNeg (0 : Int32).toNatClampNeg (10 : Int32).toNatClampNeg)) (b1 + 2)) ((ag_ar (ag_up σ b 0 (σ b1 0)) (b + 1) (va_cpy ((ag_up σ b 0 (σ b1 0)) (b1 + 1)) ((ag_up σ b 0 (σ b1 0)) (b + 1)) (0 : Int32).toNatClampNeg (0 : Int32).toNatClampNeg (10 : Int32).toNatClampNeg)) (b + 2)) (0 : Int32).toNatClampNeg (0 : Int32).toNatClampNeg (10 : Int32).toNatClampNeg)) (b + 3) (va_cpy ((ag_ar (ag_ar (ag_up σ b 0 (σ b1 0)) (b + 1) (va_cpy ((ag_up σ b 0 (σ b1 0)) (b1 + 1)) ((ag_up σ b 0 (σ b1 0)) (b + 1)) (0 : Int32).toNatClampNeg (0 : Int32).toNatClampNeg (10 : Int32).toNatClampNeg)) (b + 2) (va_cpy ((ag_ar (ag_up σ b 0 (σ b1 0)) (b + 1) (va_cpy ((ag_up σ b 0 (σ b1 0)) (b1 + 1)) ((ag_up σ b 0 (σ b1 0)) (b + 1)) (0 : Int32).toNatClampNeg (0 : Int32).toNatClampNeg (10 : Int32).toNatClampNeg)) (b1 + 2)) ((ag_ar (ag_up σ b 0 (σ b1 0)) (b + 1) (va_cpy ((ag_up σ b 0 (σ b1 0)) (b1 + 1)) ((ag_up σ b 0 (σ b1 0)) (b + 1)) (0 : Int32).toNatClampNeg (0 : Int32).toNatClampNeg (10 : Int32).toNatClampNeg)) (b + 2)) (0 : Int32).toNatClampNeg (0 : Int32).toNatClampNeg (10 : Int32).toNatClampNeg)) (b1 + 3)) ((ag_ar (ag_ar (ag_up σ b 0 (σ b1 0)) (b + 1) (va_cpy ((ag_up σ b 0 (σ b1 0)) (b1 + 1)) ((ag_up σ b 0 (σ b1 0)) (b + 1)) (0 : Int32).toNatClampNeg (0 : Int32).toNatClampNeg (10 : Int32).toNatClampNeg)) (b + 2) (va_cpy ((ag_ar (ag_up σ b 0 (σ b1 0)) (b + 1) (va_cpy ((ag_up σ b 0 (σ b1 0)) (b1 + 1)) ((ag_up σ b 0 (σ b1 0)) (b + 1)) (0 : Int32).toNatClampNeg (0 : Int32).toNatClampNeg (10 : Int32).toNatClampNeg)) (b1 + 2)) ((ag_ar (ag_up σ b 0 (σ b1 0)) (b + 1) (va_cpy ((ag_up σ b 0 (σ b1 0)) (b1 + 1)) ((ag_up σ b 0 (σ b1 0)) (b + 1)) (0 : Int32).toNatClampNeg (0 : Int32).toNatClampNeg (10 : Int32).toNatClampNeg)) (b + 2)) (0 : Int32).toNatClampNeg (0 : Int32).toNatClampNeg (10 : Int32).toNatClampNeg)) (b + 3)) (0 : Int32).toNatClampNeg (0 : Int32).toNatClampNeg (10 : Int32).toNatClampNeg)) (b + 4)) (0 : Int32).toNatClampNeg (0 : Int32).toNatClampNeg (10 : Int32).toNatClampNeg)) (b1 + 5)) ((ag_ar (ag_ar (ag_ar (ag_ar (ag_up σ b 0 (σ b1 0)) (b + 1) (va_cpy ((ag_up σ b 0 (σ b1 0)) (b1 + 1)) ((ag_up σ b 0 (σ b1 0)) (b + 1)) (0 : Int32).toNatClampNeg (0 : Int32).toNatClampNeg (10 : Int32).toNatClampNeg)) (b + 2) (va_cpy ((ag_ar (ag_up σ b 0 (σ b1 0)) (b + 1) (va_cpy ((ag_up σ b 0 (σ b1 0)) (b1 + 1)) ((ag_up σ b 0 (σ b1 0)) (b + 1)) (0 : Int32).toNatClampNeg (0 : Int32).toNatClampNeg (10 : Int32).toNatClampNeg)) (b1 + 2)) ((ag_ar (ag_up σ b 0 (σ b1 0)) (b + 1) (va_cpy ((ag_up σ b 0 (σ b1 0)) (b1 + 1)) ((ag_up σ b 0 (σ b1 0)) (b + 1)) (0 : Int32).toNatClampNeg (0 : Int32).toNatClampNeg (10 : Int32).toNatClampNeg)) (b + 2)) (0 : Int32).toNatClampNeg (0 : Int32).toNatClampNeg (10 : Int32).toNatClampNeg)) (b + 3) (va_cpy ((ag_ar (ag_ar (ag_up σ b 0 (σ b1 0)) (b + 1) (va_cpy ((ag_up σ b 0 (σ b1 0)) (b1 + 1)) ((ag_up σ b 0 (σ b1 0)) (b + 1)) (0 : Int32).toNatClampNeg (0 : Int32).toNatClampNeg (10 : Int32).toNatClampNeg)) (b + 2) (va_cpy ((ag_ar (ag_up σ b 0 (σ b1 0)) (b + 1) (va_cpy ((ag_up σ b 0 (σ b1 0)) (b1 + 1)) ((ag_up σ b 0 (σ b1 0)) (b + 1)) (0 : Int32).toNatClampNeg (0 : Int32).toNatClampNeg (10 : Int32).toNatClampNeg)) (b1 + 2)) ((ag_ar (ag_up σ b 0 (σ b1 0)) (b + 1) (va_cpy ((ag_up σ b 0 (σ b1 0)) (b1 + 1)) ((ag_up σ b 0 (σ b1 0)) (b + 1)) (0 : Int32).toNatClampNeg (0 : Int32).toNatClampNeg (10 : Int32).toNatClampNeg)) (b + 2)) (0 : Int32).toNatClampNeg (0 : Int32).toNatClampNeg (10 : Int32).toNatClampNeg)) (b1 + 3)) ((ag_ar (ag_ar (ag_up σ b 0 (σ b1 0)) (b + 1) (va_cpy ((ag_up σ b 0 (σ b1 0)) (b1 + 1)) ((ag_up σ b 0 (σ b1 0)) (b + 1)) (0 : Int32).toNatClampNeg (0 : Int32).toNatClampNeg (10 : Int32).toNatClampNeg)) (b + 2) (va_cpy ((ag_ar (ag_up σ b 0 (σ b1 0)) (b + 1) (va_cpy ((ag_up σ b 0 (σ b1 0)) (b1 + 1)) ((ag_up σ b 0 (σ b1 0)) (b + 1)) (0 : Int32).toNatClampNeg (0 : Int32).toNatClampNeg (10 : Int32).toNatClampNeg)) (b1 + 2)) ((ag_ar (ag_up σ b 0 (σ b1 0)) (b + 1) (va_cpy ((ag_up σ b 0 (σ b1 0)) (b1 + 1)) ((ag_up σ b 0 (σ b1 0)) (b + 1)) (0 : Int32).toNatClampNeg (0 : Int32).toNatClampNeg (10 : Int32).toNatClampNeg)) (b + 2)) (0 : Int32).toNatClampNeg (0 : Int32).toNatClampNeg (10 : Int32).toNatClampNeg)) (b + 3)) (0 : Int32).toNatClampNeg (0 : Int32).toNatClampNeg (10 : Int32).toNatClampNeg)) (b + 4) (va_cpy ((ag_ar (ag_ar (ag_ar (ag_up σ b 0 (σ b1 0)) (b + 1) (va_cpy ((ag_up σ b 0 (σ b1 0)) (b1 + 1)) ((ag_up σ b 0 (σ b1 0)) (b + 1)) (0 : Int32).toNatClampNeg (0 : Int32).toNatClampNeg (10 : Int32).toNatClampNeg)) (b + 2) (va_cpy ((ag_ar (ag_up σ b 0 (σ b1 0)) (b + 1) (va_cpy ((ag_up σ b 0 (σ b1 0)) (b1 + 1)) ((ag_up σ b 0 (σ b1 0)) (b + 1)) (0 : Int32).toNatClampNeg (0 : Int32).toNatClampNeg (10 : Int32).toNatClampNeg)) (b1 + 2)) ((ag_ar (ag_up σ b 0 (σ b1 0)) (b + 1) (va_cpy ((ag_up σ b 0 (σ b1 0)) (b1 + 1)) ((ag_up σ b 0 (σ b1 0)) (b + 1)) (0 : Int32).toNatClampNeg (0 : Int32).toNatClampNeg (10 : Int32).toNatClampNeg)) (b + 2)) (0 : Int32).toNatClampNeg (0 : Int32).toNatClampNeg (10 : Int32).toNatClampNeg)) (b + 3) (va_cpy ((ag_ar (ag_ar (ag_up σ b 0 (σ b1 0)) (b + 1) (va_cpy ((ag_up σ b 0 (σ b1 0)) (b1 + 1)) ((ag_up σ b 0 (σ b1 0)) (b + 1)) (0 : Int32).toNatClampNeg (0 : Int32).toNatClampNeg (10 : Int32).toNatClampNeg)) (b + 2) (va_cpy ((ag_ar (ag_up σ b 0 (σ b1 0)) (b + 1) (va_cpy ((ag_up σ b 0 (σ b1 0)) (b1 + 1)) ((ag_up σ b 0 (σ b1 0)) (b + 1)) (0 : Int32).toNatClampNeg (0 : Int32).toNatClampNeg (10 : Int32).toNatClampNeg)) (b1 + 2)) ((ag_ar (ag_up σ b 0 (σ b1 0)) (b + 1) (va_cpy ((ag_up σ b 0 (σ b1 0)) (b1 + 1)) ((ag_up σ b 0 (σ b1 0)) (b + 1)) (0 : Int32).toNatClampNeg (0 : Int32).toNatClampNeg (10 : Int32).toNatClampNeg)) (b + 2)) (0 : Int32).toNatClampNeg (0 : Int32).toNatClampNeg (10 : Int32).toNatClampNeg)) (b1 + 3)) ((ag_ar (ag_ar (ag_up σ b 0 (σ b1 0)) (b + 1) (va_cpy ((ag_up σ b 0 (σ b1 0)) (b1 + 1)) ((ag_up σ b 0 (σ b1 0)) (b + 1)) (0 : Int32).toNatClampNeg (0 : Int32).toNatClampNeg (10 : Int32).toNatClampNeg)) (b + 2) (va_cpy ((ag_ar (ag_up σ b 0 (σ b1 0)) (b + 1) (va_cpy ((ag_up σ b 0 (σ b1 0)) (b1 + 1)) ((ag_up σ b 0 (σ b1 0)) (b + 1)) (0 : Int32).toNatClampNeg (0 : Int32).toNatClampNeg (10 : Int32).toNatClampNeg)) (b1 + 2)) ((ag_ar (ag_up σ b 0 (σ b1 0)) (b + 1) (va_cpy ((ag_up σ b 0 (σ b1 0)) (b1 + 1)) ((ag_up σ b 0 (σ b1 0)) (b + 1)) (0 : Int32).toNatClampNeg (0 : Int32).toNatClampNeg (10 : Int32).toNatClampNeg)) (b + 2)) (0 : Int32).toNatClampNeg (0 : Int32).toNatClampNeg (10 : Int32).toNatClampNeg)) (b + 3)) (0 : Int32).toNatClampNeg (0 : Int32).toNatClampNeg (10 : Int32).toNatClampNeg)) (b1 + 4)) ((ag_ar (ag_ar (ag_ar (ag_up σ b 0 (σ b1 0)) (b + 1) (va_cpy ((ag_up σ b 0 (σ b1 0)) (b1 + 1)) ((ag_up σ b 0 (σ b1 0)) (b + 1)) (0 : Int32).toNatClampNeg (0 : Int32).toNatClampNeg (10 : Int32).toNatClampNeg)) (b + 2) (va_cpy ((ag_ar (ag_up σ b 0 (σ b1 0)) (b + 1) (va_cpy ((ag_up σ b 0 (σ b1 0)) (b1 + 1)) ((ag_up σ b 0 (σ b1 0)) (b + 1)) (0 : Int32).toNatClampNeg (0 : Int32).toNatClampNeg (10 : Int32).toNatClampNeg)) (b1 + 2)) ((ag_ar (ag_up σ b 0 (σ b1 0)) (b + 1) (va_cpy ((ag_up σ b 0 (σ b1 0)) (b1 + 1)) ((ag_up σ b 0 (σ b1 0)) (b + 1)) (0 : Int32).toNatClampNeg (0 : Int32).toNatClampNeg (10 : Int32).toNatClampNeg)) (b + 2)) (0 : Int32).toNatClampNeg (0 : Int32).toNatClampNeg (10 : Int32).toNatClampNeg)) (b + 3) (va_cpy ((ag_ar (ag_ar (ag_up σ b 0 (σ b1 0)) (b + 1) (va_cpy ((ag_up σ b 0 (σ b1 0)) (b1 + 1)) ((ag_up σ b 0 (σ b1 0)) (b + 1)) (0 : Int32).toNatClampNeg (0 : Int32).toNatClampNeg (10 : Int32).toNatClampNeg)) (b + 2) (va_cpy ((ag_ar (ag_up σ b 0 (σ b1 0)) (b + 1) (va_cpy ((ag_up σ b 0 (σ b1 0)) (b1 + 1)) ((ag_up σ b 0 (σ b1 0)) (b + 1)) (0 : Int32).toNatClampNeg (0 : Int32).toNatClampNeg (10 : Int32).toNatClampNeg)) (b1 + 2)) ((ag_ar (ag_up σ b 0 (σ b1 0)) (b + 1) (va_cpy ((ag_up σ b 0 (σ b1 0)) (b1 + 1)) ((ag_up σ b 0 (σ b1 0)) (b + 1)) (0 : Int32).toNatClampNeg (0 : Int32).toNatClampNeg (10 : Int32).toNatClampNeg)) (b + 2)) (0 : Int32).toNatClampNeg (0 : Int32).toNatClampNeg (10 : Int32).toNatClampNeg)) (b1 + 3)) ((ag_ar (ag_ar (ag_up σ b 0 (σ b1 0)) (b + 1) (va_cpy ((ag_up σ b 0 (σ b1 0)) (b1 + 1)) ((ag_up σ b 0 (σ b1 0)) (b + 1)) (0 : Int32).toNatClampNeg (0 : Int32).toNatClampNeg (10 : Int32).toNatClampNeg)) (b + 2) (va_cpy ((ag_ar (ag_up σ b 0 (σ b1 0)) (b + 1) (va_cpy ((ag_up σ b 0 (σ b1 0)) (b1 + 1)) ((ag_up σ b 0 (σ b1 0)) (b + 1)) (0 : Int32).toNatClampNeg (0 : Int32).toNatClampNeg (10 : Int32).toNatClampNeg)) (b1 + 2)) ((ag_ar (ag_up σ b 0 (σ b1 0)) (b + 1) (va_cpy ((ag_up σ b 0 (σ b1 0)) (b1 + 1)) ((ag_up σ b 0 (σ b1 0)) (b + 1)) (0 : Int32).toNatClampNeg (0 : Int32).toNatClampNeg (10 : Int32).toNatClampNeg)) (b + 2)) (0 : Int32).toNatClampNeg (0 : Int32).toNatClampNeg (10 : Int32).toNatClampNeg)) (b + 3)) (0 : Int32).toNatClampNeg (0 : Int32).toNatClampNeg (10 : Int32).toNatClampNeg)) (b + 4)) (0 : Int32).toNatClampNeg (0 : Int32).toNatClampNeg (10 : Int32).toNatClampNeg)) (b + 5)) (0 : Int32).toNatClampNeg (0 : Int32).toNatClampNeg (10 : Int32).toNatClampNeg))) else none) else none) else none) else none) else none)
set_option maxRecDepth 20000 in
set_option maxHeartbeats 4000000 in
theorem im_X1_takeFrom (b : Nat) (hb : ag_F b) (b1 : Nat) (hb1 : ag_F b1) (σ : Sg) : Im yX1_takeFrom mX1_takeFrom 1 60 jV [.ref b, .ref b1] σ (fn_X1_takeFrom b b1 σ) := by
  refine Im.of (by decide +kernel) rfl (Nat.le_of_ble_eq_true rfl) ?_
  show Ev mX1_takeFrom 1 60 jV 0 [(0, .ref b), (1, .ref b1)] [] σ (fn_X1_takeFrom b b1 σ)
  unfold fn_X1_takeFrom
  refine ev_aload_n (pc := 0) (i := 0) 0 dX1_takeFrom_0 rfl rfl ?_
  refine ev_aload_n (pc := 1) (i := 1) 1 dX1_takeFrom_1 rfl rfl ?_
  refine ev_getI (pc := 2) 0 ag_C1 (ag_Fk hb1).1 (ag_Fk hb1).2 (Nat.le_of_ble_eq_true rfl) (ag_Ft0 hb1) rfl ag_fl_X1_9 dX1_takeFrom_2 ?_
  refine ev_put (pc := 5) 0 ag_C1 (ag_Fk hb).1 (ag_Fk hb).2 (Nat.le_of_ble_eq_true rfl) (ag_Ft0 hb) rfl ag_fl_X1_9 rfl rfl rfl dX1_takeFrom_5 ?_
  refine ev_aload_n (pc := 8) (i := 1) 1 dX1_takeFrom_8 rfl rfl ?_
  refine ev_getR (pc := 9) (t := (b1 + 1)) 1 ag_C1 (ag_Fk hb1).1 (ag_Fk hb1).2 (Nat.le_of_ble_eq_true rfl) (ag_Ft1 hb1) rfl ag_fl_X1_15 dX1_takeFrom_9 ?_
  refine ev_iconst (pc := 12) (v := 0) dX1_takeFrom_12 (by decide) ?_
  refine ev_aload_n (pc := 13) (i := 0) 0 dX1_takeFrom_13 rfl rfl ?_
  refine ev_getR (pc := 14) (t := (b + 1)) 1 ag_C1 (ag_Fk hb).1 (ag_Fk hb).2 (Nat.le_of_ble_eq_true rfl) (ag_Ft1 hb) rfl ag_fl_X1_15 dX1_takeFrom_14 ?_
  refine ev_iconst (pc := 17) (v := 0) dX1_takeFrom_17 (by decide) ?_
  refine ev_bipush (pc := 18) (v := 10) dX1_takeFrom_18 (by decide) ?_
  refine ev_copy (pc := 20) (ag_Fa1 hb1).1 (ag_Fa1 hb1).2 (ag_Fa1 hb).1 (ag_Fa1 hb).2 ag_ml_X1_43 ⟨(Nat.le_of_ble_eq_true rfl), (by decide)⟩ dX1_takeFrom_20 ?_
  refine ev_aload_n (pc := 23) (i := 1) 1 dX1_takeFrom_23 rfl rfl ?_
  refine ev_getR (pc := 24) (t := (b1 + 2)) 2 ag_C1 (ag_Fk hb1).1 (ag_Fk hb1).2 (Nat.le_of_ble_eq_true rfl) (ag_Ft2 hb1) rfl ag_fl_X1_19 dX1_takeFrom_24 ?_
  refine ev_iconst (pc := 27) (v := 0) dX1_takeFrom_27 (by decide) ?_
  refine ev_aload_n (pc := 28) (i := 0) 0 dX1_takeFrom_28 rfl rfl ?_
  refine ev_getR (pc := 29) (t := (b + 2)) 2 ag_C1 (ag_Fk hb).1 (ag_Fk hb).2 (Nat.le_of_ble_eq_true rfl) (ag_Ft2 hb) rfl ag_fl_X1_19 dX1_takeFrom_29 ?_
  refine ev_iconst (pc := 32) (v := 0) dX1_takeFrom_32 (by decide) ?_
  refine ev_bipush (pc := 33) (v := 10) dX1_takeFrom_33 (by decide) ?_
  refine ev_copy (pc := 35) (ag_Fa2 hb1).1 (ag_Fa2 hb1).2 (ag_Fa2 hb).1 (ag_Fa2 hb).2 ag_ml_X1_43 ⟨(Nat.le_of_ble_eq_true rfl), (by decide)⟩ dX1_takeFrom_35 ?_
  refine ev_aload_n (pc := 38) (i := 1) 1 dX1_takeFrom_38 rfl rfl ?_
  refine ev_getR (pc := 39) (t := (b1 + 3)) 3 ag_C1 (ag_Fk hb1).1 (ag_Fk hb1).2 (Nat.le_of_ble_eq_true rfl) (ag_Ft3 hb1) rfl ag_fl_X1_22 dX1_takeFrom_39 ?_
  refine ev_iconst (pc := 42) (v := 0) dX1_takeFrom_42 (by decide) ?_
  refine ev_aload_n (pc := 43) (i := 0) 0 dX1_takeFrom_43 rfl rfl ?_
  refine ev_getR (pc := 44) (t := (b + 3)) 3 ag_C1 (ag_Fk hb).1 (ag_Fk hb).2 (Nat.le_of_ble_eq_true rfl) (ag_Ft3 hb) rfl ag_fl_X1_22 dX1_takeFrom_44 ?_
  refine ev_iconst (pc := 47) (v := 0) dX1_takeFrom_47 (by decide) ?_
  refine ev_bipush (pc := 48) (v := 10) dX1_takeFrom_48 (by decide) ?_
  refine ev_copy (pc := 50) (ag_Fa3 hb1).1 (ag_Fa3 hb1).2 (ag_Fa3 hb).1 (ag_Fa3 hb).2 ag_ml_X1_43 ⟨(Nat.le_of_ble_eq_true rfl), (by decide)⟩ dX1_takeFrom_50 ?_
  refine ev_aload_n (pc := 53) (i := 1) 1 dX1_takeFrom_53 rfl rfl ?_
  refine ev_getR (pc := 54) (t := (b1 + 4)) 4 ag_C1 (ag_Fk hb1).1 (ag_Fk hb1).2 (Nat.le_of_ble_eq_true rfl) (ag_Ft4 hb1) rfl ag_fl_X1_25 dX1_takeFrom_54 ?_
  refine ev_iconst (pc := 57) (v := 0) dX1_takeFrom_57 (by decide) ?_
  refine ev_aload_n (pc := 58) (i := 0) 0 dX1_takeFrom_58 rfl rfl ?_
  refine ev_getR (pc := 59) (t := (b + 4)) 4 ag_C1 (ag_Fk hb).1 (ag_Fk hb).2 (Nat.le_of_ble_eq_true rfl) (ag_Ft4 hb) rfl ag_fl_X1_25 dX1_takeFrom_59 ?_
  refine ev_iconst (pc := 62) (v := 0) dX1_takeFrom_62 (by decide) ?_
  refine ev_bipush (pc := 63) (v := 10) dX1_takeFrom_63 (by decide) ?_
  refine ev_copy (pc := 65) (ag_Fa4 hb1).1 (ag_Fa4 hb1).2 (ag_Fa4 hb).1 (ag_Fa4 hb).2 ag_ml_X1_43 ⟨(Nat.le_of_ble_eq_true rfl), (by decide)⟩ dX1_takeFrom_65 ?_
  refine ev_aload_n (pc := 68) (i := 1) 1 dX1_takeFrom_68 rfl rfl ?_
  refine ev_getR (pc := 69) (t := (b1 + 5)) 5 ag_C1 (ag_Fk hb1).1 (ag_Fk hb1).2 (Nat.le_of_ble_eq_true rfl) (ag_Ft5 hb1) rfl ag_fl_X1_28 dX1_takeFrom_69 ?_
  refine ev_iconst (pc := 72) (v := 0) dX1_takeFrom_72 (by decide) ?_
  refine ev_aload_n (pc := 73) (i := 0) 0 dX1_takeFrom_73 rfl rfl ?_
  refine ev_getR (pc := 74) (t := (b + 5)) 5 ag_C1 (ag_Fk hb).1 (ag_Fk hb).2 (Nat.le_of_ble_eq_true rfl) (ag_Ft5 hb) rfl ag_fl_X1_28 dX1_takeFrom_74 ?_
  refine ev_iconst (pc := 77) (v := 0) dX1_takeFrom_77 (by decide) ?_
  refine ev_bipush (pc := 78) (v := 10) dX1_takeFrom_78 (by decide) ?_
  refine ev_copy (pc := 80) (ag_Fa5 hb1).1 (ag_Fa5 hb1).2 (ag_Fa5 hb).1 (ag_Fa5 hb).2 ag_ml_X1_43 ⟨(Nat.le_of_ble_eq_true rfl), (by decide)⟩ dX1_takeFrom_80 ?_
  exact ev_ret (fun r h => by cases h; rfl) rfl dX1_takeFrom_83
-- X2_setLast
def mX2_setLast : Md := (RX2, cX2_setLast, 7, none)
theorem mv_X2_setLast : ag_Mv yX2_setLast mX2_setLast 5 := ⟨ag_co_X2_setLast, ag_im_X2_setLast, ag_se_X2_setLast, ag_ini_X2, by decide +kernel⟩
theorem dX2_setLast_0 : decode mX2_setLast.2.1 0 = .ok (.aload_n 0, 1) := by decide +kernel
theorem dX2_setLast_1 : decode mX2_setLast.2.1 1 = .ok (.getfield 9, 3) := by decide +kernel
theorem dX2_setLast_4 : decode mX2_setLast.2.1 4 = .ok (.iconst 1, 1) := by decide +kernel
theorem dX2_setLast_5 : decode mX2_setLast.2.1 5 = .ok (.isub, 1) := by decide +kernel
theorem dX2_setLast_6 : decode mX2_setLast.2.1 6 = .ok (.istore 6, 2) := by decide +kernel
theorem dX2_setLast_8 : decode mX2_setLast.2.1 8 = .ok (.iload 6, 2) := by decide +kernel
theorem dX2_setLast_10 : decode mX2_setLast.2.1 10 = .ok (.ifCond .lt 10, 3) := by decide +kernel
theorem dX2_setLast_13 : decode mX2_setLast.2.1 13 = .ok (.iload 6, 2) := by decide +kernel
theorem dX2_setLast_15 : decode mX2_setLast.2.1 15 = .ok (.bipush 13, 2) := by decide +kernel
theorem dX2_setLast_17 : decode mX2_setLast.2.1 17 = .ok (.if_icmp .lt 4, 3) := by decide +kernel
theorem dX2_setLast_20 : decode mX2_setLast.2.1 20 = .ok (.return_, 1) := by decide +kernel
theorem dX2_setLast_21 : decode mX2_setLast.2.1 21 = .ok (.aload_n 0, 1) := by decide +kernel
theorem dX2_setLast_22 : decode mX2_setLast.2.1 22 = .ok (.getfield 15, 3) := by decide +kernel
theorem dX2_setLast_25 : decode mX2_setLast.2.1 25 = .ok (.iload 6, 2) := by decide +kernel
theorem dX2_setLast_27 : decode mX2_setLast.2.1 27 = .ok (.iload_n 1, 1) := by decide +kernel
theorem dX2_setLast_28 : decode mX2_setLast.2.1 28 = .ok (.iastore, 1) := by decide +kernel
theorem dX2_setLast_29 : decode mX2_setLast.2.1 29 = .ok (.aload_n 0, 1) := by decide +kernel
theorem dX2_setLast_30 : decode mX2_setLast.2.1 30 = .ok (.getfield 19, 3) := by decide +kernel
theorem dX2_setLast_33 : decode mX2_setLast.2.1 33 = .ok (.iload 6, 2) := by decide +kernel
theorem dX2_setLast_35 : decode mX2_setLast.2.1 35 = .ok (.iload_n 2, 1) := by decide +kernel
theorem dX2_setLast_36 : decode mX2_setLast.2.1 36 = .ok (.iastore, 1) := by decide +kernel
theorem dX2_setLast_37 : decode mX2_setLast.2.1 37 = .ok (.aload_n 0, 1) := by decide +kernel
theorem dX2_setLast_38 : decode mX2_setLast.2.1 38 = .ok (.getfield 22, 3) := by decide +kernel
theorem dX2_setLast_41 : decode mX2_setLast.2.1 41 = .ok (.iload 6, 2) := by decide +kernel
theorem dX2_setLast_43 : decode mX2_setLast.2.1 43 = .ok (.iload_n 3, 1) := by decide +kernel
theorem dX2_setLast_44 : decode mX2_setLast.2.1 44 = .ok (.iastore, 1) := by decide +kernel
theorem dX2_setLast_45 : decode mX2_setLast.2.1 45 = .ok (.aload_n 0, 1) := by decide +kernel
theorem dX2_setLast_46 : decode mX2_setLast.2.1 46 = .ok (.getfield 25, 3) := by decide +kernel
theorem dX2_setLast_49 : decode mX2_setLast.2.1 49 = .ok (.iload 6, 2) := by decide +kernel
theorem dX2_setLast_51 : decode mX2_setLast.2.1 51 = .ok (.iload 4, 2) := by decide +kernel
theorem dX2_setLast_53 : decode mX2_setLast.2.1 53 = .ok (.iastore, 1) := by decide +kernel
theorem dX2_setLast_54 : decode mX2_setLast.2.1 54 = .ok (.aload_n 0, 1) := by decide +kernel
theorem dX2_setLast_55 : decode mX2_setLast.2.1 55 = .ok (.getfield 28, 3) := by decide +kernel
theorem dX2_setLast_58 : decode mX2_setLast.2.1 58 = .ok (.iload 6, 2) := by decide +kernel
theorem dX2_setLast_60 : decode mX2_setLast.2.1 60 = .ok (.iload 5, 2) := by decide +kernel
theorem dX2_setLast_62 : decode mX2_setLast.2.1 62 = .ok (.iastore, 1) := by decide +kernel
theorem dX2_setLast_63 : decode mX2_setLast.2.1 63 = .ok (.return_, 1) := by decide +kernel
def fn_X2_setLast (b : Nat) (x1 : Int32) (x2 : Int32) (x3 : Int32) (x4 : Int32) (x5 : Int32) (σ : Sg) : Option Sg :=
  (if ((σ b 0) - 1) < 0 then (some σ)
  else (if ((σ b 0) - 1) < 13 then (if ag_ib ((σ b 0) - 1) 13 = true then (if ag_ib ((σ b 0) - 1) 13 = true then (if ag_ib ((σ b 0) - 1) 13 = true then (if ag_ib ((σ b 0) - 1) 13 = true then (if ag_ib ((σ b 0) - 1) 13 = true then (some (ag_up (ag_up (ag_up (ag_up (ag_up σ (b + 1) ((σ b 0) - 1).toNatClampNeg x1) (b + 2) ((σ b 0) - 1).toNatClampNeg x2) (b + 3) ((σ b 0) - 1).toNatClampNeg x3) (b + 4) ((σ b 0) - 1).toNatClampNeg x4) (b + 5) ((σ b 0) - 1).toNatClampNeg x5)) else none) else none) else none) else none) else none)
  else (some σ)))
set_option maxRecDepth 20000 in
set_option maxHeartbeats 4000000 in
theorem im_X2_setLast (b : Nat) (hb : ag_P b) (x1 : Int32) (x2 : Int32) (x3 : Int32) (x4 : Int32) (x5 : Int32) (σ : Sg) : Im yX2_setLast mX2_setLast 0 0 jV [.ref b, .int x1, .int x2, .int x3, .int x4, .int x5] σ (fn_X2_setLast b x1 x2 x3 x4 x5 σ) := by
  refine Im.of (by decide +kernel) rfl (Nat.le_of_ble_eq_true rfl) ?_
  show Ev mX2_setLast 0 0 jV 0 [(0, .ref b), (1, .int x1), (2, .int x2), (3, .int x3), (4, .int x4), (5, .int x5)] [] σ (fn_X2_setLast b x1 x2 x3 x4 x5 σ)
  unfold fn_X2_setLast
  refine ev_aload_n (pc := 0) (i := 0) 0 dX2_setLast_0 rfl rfl ?_
  refine ev_getI (pc := 1) 0 ag_C2 (ag_Pk hb).1 (ag_Pk hb).2 (Nat.le_of_ble_eq_true rfl) (ag_Pt0 hb) rfl ag_fl_X2_9 dX2_setLast_1 ?_
  refine ev_iconst (pc := 4) (v := 1) dX2_setLast_4 (by decide) ?_
  refine ev_isub (pc := 5) dX2_setLast_5 ?_
  refine ev_istore (pc := 6) (lv' := [(6, .int ((σ b 0) - 1)), (0, .ref b), (1, .int x1), (2, .int x2), (3, .int x3), (4, .int x4), (5, .int x5)]) dX2_setLast_6 (Nat.le_of_ble_eq_true rfl) rfl ?_
  refine ev_iload (pc := 8) 0 dX2_setLast_8 rfl ?_
  refine ev_if_lt (pc := 10) (tgt := 20) dX2_setLast_10 rfl ?_ ?_
  · exact ev_ret (fun r h => by cases h; rfl) rfl dX2_setLast_20
  · refine ev_iload (pc := 13) 0 dX2_setLast_13 rfl ?_
    refine ev_bipush (pc := 15) (v := 13) dX2_setLast_15 (by decide) ?_
    refine ev_icmp_lt (pc := 17) (tgt := 21) dX2_setLast_17 rfl ?_ ?_
    · refine ev_aload_n (pc := 21) (i := 0) 1 dX2_setLast_21 rfl rfl ?_
      refine ev_getR (pc := 22) (t := (b + 1)) 1 ag_C2 (ag_Pk hb).1 (ag_Pk hb).2 (Nat.le_of_ble_eq_true rfl) (ag_Pt1 hb) rfl ag_fl_X2_15 dX2_setLast_22 ?_
      refine ev_iload (pc := 25) 0 dX2_setLast_25 rfl ?_
      refine ev_iload_n (pc := 27) (i := 1) 2 dX2_setLast_27 rfl rfl ?_
      refine ev_iast (pc := 28) (ag_Pa1 hb).1 (ag_Pa1 hb).2 dX2_setLast_28 ?_
      refine ev_aload_n (pc := 29) (i := 0) 1 dX2_setLast_29 rfl rfl ?_
      refine ev_getR (pc := 30) (t := (b + 2)) 2 ag_C2 (ag_Pk hb).1 (ag_Pk hb).2 (Nat.le_of_ble_eq_true rfl) (ag_Pt2 hb) rfl ag_fl_X2_19 dX2_setLast_30 ?_
      refine ev_iload (pc := 33) 0 dX2_setLast_33 rfl ?_
      refine ev_iload_n (pc := 35) (i := 2) 3 dX2_setLast_35 rfl rfl ?_
      refine ev_iast (pc := 36) (ag_Pa2 hb).1 (ag_Pa2 hb).2 dX2_setLast_36 ?_
      refine ev_aload_n (pc := 37) (i := 0) 1 dX2_setLast_37 rfl rfl ?_
      refine ev_getR (pc := 38) (t := (b + 3)) 3 ag_C2 (ag_Pk hb).1 (ag_Pk hb).2 (Nat.le_of_ble_eq_true rfl) (ag_Pt3 hb) rfl ag_fl_X2_22 dX2_setLast_38 ?_
      refine ev_iload (pc := 41) 0 dX2_setLast_41 rfl ?_
      refine ev_iload_n (pc := 43) (i := 3) 4 dX2_setLast_43 rfl rfl ?_
      refine ev_iast (pc := 44) (ag_Pa3 hb).1 (ag_Pa3 hb).2 dX2_setLast_44 ?_
      refine ev_aload_n (pc := 45) (i := 0) 1 dX2_setLast_45 rfl rfl ?_
      refine ev_getR (pc := 46) (t := (b + 4)) 4 ag_C2 (ag_Pk hb).1 (ag_Pk hb).2 (Nat.le_of_ble_eq_true rfl) (ag_Pt4 hb) rfl ag_fl_X2_25 dX2_setLast_46 ?_
      refine ev_iload (pc := 49) 0 dX2_setLast_49 rfl ?_
      refine ev_iload (pc := 51) 5 dX2_setLast_51 rfl ?_
      refine ev_iast (pc := 53) (ag_Pa4 hb).1 (ag_Pa4 hb).2 dX2_setLast_53 ?_
      refine ev_aload_n (pc := 54) (i := 0) 1 dX2_setLast_54 rfl rfl ?_
      refine ev_getR (pc := 55) (t := (b + 5)) 5 ag_C2 (ag_Pk hb).1 (ag_Pk hb).2 (Nat.le_of_ble_eq_true rfl) (ag_Pt5 hb) rfl ag_fl_X2_28 dX2_setLast_55 ?_
      refine ev_iload (pc := 58) 0 dX2_setLast_58 rfl ?_
      refine ev_iload (pc := 60) 6 dX2_setLast_60 rfl ?_
      refine ev_iast (pc := 62) (ag_Pa5 hb).1 (ag_Pa5 hb).2 dX2_setLast_62 ?_
      exact ev_ret (fun r h => by cases h; rfl) rfl dX2_setLast_63
    · exact ev_ret (fun r h => by cases h; rfl) rfl dX2_setLast_20
-- X2_takeFrom
def mX2_takeFrom : Md := (RX2, cX2_takeFrom, 2, none)
theorem mv_X2_takeFrom : ag_Mv yX2_takeFrom mX2_takeFrom 1 := ⟨ag_co_X2_takeFrom, ag_im_X2_takeFrom, ag_se_X2_takeFrom, ag_ini_X2, by decide +kernel⟩
theorem dX2_takeFrom_0 : decode mX2_takeFrom.2.1 0 = .ok (.aload_n 0, 1) := by decide +kernel
theorem dX2_takeFrom_1 : decode mX2_takeFrom.2.1 1 = .ok (.aload_n 1, 1) := by decide +kernel
theorem dX2_takeFrom_2 : decode mX2_takeFrom.2.1 2 = .ok (.getfield 9, 3) := by decide +kernel
theorem dX2_takeFrom_5 : decode mX2_takeFrom.2.1 5 = .ok (.putfield 9, 3) := by decide +kernel
theorem dX2_takeFrom_8 : decode mX2_takeFrom.2.1 8 = .ok (.aload_n 1, 1) := by decide +kernel
theorem dX2_takeFrom_9 : decode mX2_takeFrom.2.1 9 = .ok (.getfield 15, 3) := by decide +kernel
theorem dX2_takeFrom_12 : decode mX2_takeFrom.2.1 12 = .ok (.iconst 0, 1) := by decide +kernel
theorem dX2_takeFrom_13 : decode mX2_takeFrom.2.1 13 = .ok (.aload_n 0, 1) := by decide +kernel
theorem dX2_takeFrom_14 : decode mX2_takeFrom.2.1 14 = .ok (.getfield 15, 3) := by decide +kernel
theorem dX2_takeFrom_17 : decode mX2_takeFrom.2.1 17 = .ok (.iconst 0, 1) := by decide +kernel
theorem dX2_takeFrom_18 : decode mX2_takeFrom.2.1 18 = .ok (.bipush 13, 2) := by decide +kernel
theorem dX2_takeFrom_20 : decode mX2_takeFrom.2.1 20 = .ok (.invokestatic 31, 3) := by decide +kernel
theorem dX2_takeFrom_23 : decode mX2_takeFrom.2.1 23 = .ok (.aload_n 1, 1) := by decide +kernel
theorem dX2_takeFrom_24 : decode mX2_takeFrom.2.1 24 = .ok (.getfield 19, 3) := by decide +kernel
theorem dX2_takeFrom_27 : decode mX2_takeFrom.2.1 27 = .ok (.iconst 0, 1) := by decide +kernel
theorem dX2_takeFrom_28 : decode mX2_takeFrom.2.1 28 = .ok (.aload_n 0, 1) := by decide +kernel
theorem dX2_takeFrom_29 : decode mX2_takeFrom.2.1 29 = .ok (.getfield 19, 3) := by decide +kernel
theorem dX2_takeFrom_32 : decode mX2_takeFrom.2.1 32 = .ok (.iconst 0, 1) := by decide +kernel
theorem dX2_takeFrom_33 : decode mX2_takeFrom.2.1 33 = .ok (.bipush 13, 2) := by decide +kernel
theorem dX2_takeFrom_35 : decode mX2_takeFrom.2.1 35 = .ok (.invokestatic 31, 3) := by decide +kernel
theorem dX2_takeFrom_38 : decode mX2_takeFrom.2.1 38 = .ok (.aload_n 1, 1) := by decide +kernel
theorem dX2_takeFrom_39 : decode mX2_takeFrom.2.1 39 = .ok (.getfield 22, 3) := by decide +kernel
theorem dX2_takeFrom_42 : decode mX2_takeFrom.2.1 42 = .ok (.iconst 0, 1) := by decide +kernel
theorem dX2_takeFrom_43 : decode mX2_takeFrom.2.1 43 = .ok (.aload_n 0, 1) := by decide +kernel
theorem dX2_takeFrom_44 : decode mX2_takeFrom.2.1 44 = .ok (.getfield 22, 3) := by decide +kernel
theorem dX2_takeFrom_47 : decode mX2_takeFrom.2.1 47 = .ok (.iconst 0, 1) := by decide +kernel
theorem dX2_takeFrom_48 : decode mX2_takeFrom.2.1 48 = .ok (.bipush 13, 2) := by decide +kernel
theorem dX2_takeFrom_50 : decode mX2_takeFrom.2.1 50 = .ok (.invokestatic 31, 3) := by decide +kernel
theorem dX2_takeFrom_53 : decode mX2_takeFrom.2.1 53 = .ok (.aload_n 1, 1) := by decide +kernel
theorem dX2_takeFrom_54 : decode mX2_takeFrom.2.1 54 = .ok (.getfield 25, 3) := by decide +kernel
theorem dX2_takeFrom_57 : decode mX2_takeFrom.2.1 57 = .ok (.iconst 0, 1) := by decide +kernel
theorem dX2_takeFrom_58 : decode mX2_takeFrom.2.1 58 = .ok (.aload_n 0, 1) := by decide +kernel
theorem dX2_takeFrom_59 : decode mX2_takeFrom.2.1 59 = .ok (.getfield 25, 3) := by decide +kernel
theorem dX2_takeFrom_62 : decode mX2_takeFrom.2.1 62 = .ok (.iconst 0, 1) := by decide +kernel
theorem dX2_takeFrom_63 : decode mX2_takeFrom.2.1 63 = .ok (.bipush 13, 2) := by decide +kernel
theorem dX2_takeFrom_65 : decode mX2_takeFrom.2.1 65 = .ok (.invokestatic 31, 3) := by decide +kernel
theorem dX2_takeFrom_68 : decode mX2_takeFrom.2.1 68 = .ok (.aload_n 1, 1) := by decide +kernel
theorem dX2_takeFrom_69 : decode mX2_takeFrom.2.1 69 = .ok (.getfield 28, 3) := by decide +kernel
theorem dX2_takeFrom_72 : decode mX2_takeFrom.2.1 72 = .ok (.iconst 0, 1) := by decide +kernel
theorem dX2_takeFrom_73 : decode mX2_takeFrom.2.1 73 = .ok (.aload_n 0, 1) := by decide +kernel
theorem dX2_takeFrom_74 : decode mX2_takeFrom.2.1 74 = .ok (.getfield 28, 3) := by decide +kernel
theorem dX2_takeFrom_77 : decode mX2_takeFrom.2.1 77 = .ok (.iconst 0, 1) := by decide +kernel
theorem dX2_takeFrom_78 : decode mX2_takeFrom.2.1 78 = .ok (.bipush 13, 2) := by decide +kernel
theorem dX2_takeFrom_80 : decode mX2_takeFrom.2.1 80 = .ok (.invokestatic 31, 3) := by decide +kernel
theorem dX2_takeFrom_83 : decode mX2_takeFrom.2.1 83 = .ok (.return_, 1) := by decide +kernel
def fn_X2_takeFrom (b : Nat) (b1 : Nat) (σ : Sg) : Option Sg :=
  (if ag_cpok 0 0 13 13 13 = true then (if ag_cpok 0 0 13 13 13 = true then (if ag_cpok 0 0 13 13 13 = true then (if ag_cpok 0 0 13 13 13 = true then (if ag_cpok 0 0 13 13 13 = true then (some (ag_ar (ag_ar (ag_ar (ag_ar (ag_ar (ag_up σ b 0 (σ b1 0)) (b + 1) (va_cpy ((ag_up σ b 0 (σ b1 0)) (b1 + 1)) ((ag_up σ b 0 (σ b1 0)) (b + 1)) (0 : Int32).toNatClampNeg (0 : Int32).toNatClampNeg (13 : Int32).toNatClampNeg)) (b + 2) (va_cpy ((ag_ar (ag_up σ b 0 (σ b1 0)) (b + 1) (va_cpy ((ag_up σ b 0 (σ b1 0)) (b1 + 1)) ((ag_up σ b 0 (σ b1 0)) (b + 1)) (0 : Int32).toNatClampNeg (0 : Int32).toNatClampNeg (13 : Int32).toNatClampNeg)) (b1 + 2)) ((ag_ar (ag_up σ b 0 (σ b1 0)) (b + 1) (va_cpy ((ag_up σ b 0 (σ b1 0)) (b1 + 1)) ((ag_up σ b 0 (σ b1 0)) (b + 1)) (0 : Int32).toNatClampNeg (0 : Int32).toNatClampNeg (13 : Int32).toNatClampNeg)) (b + 2)) (0 : Int32).toNatClampNeg (0 : Int32).toNatClampNeg (13 : Int32).toNatClampNeg)) (b + 3) (va_cpy ((ag_ar (ag_ar (ag_up σ b 0 (σ b1 0)) (b + 1) (va_cpy ((ag_up σ b 0 (σ b1 0)) (b1 + 1)) ((ag_up σ b 0 (σ b1 0)) (b + 1)) (0 : Int32).toNatClampNeg (0 : Int32).toNatClampNeg (13 : Int32).toNatClampNeg)) (b + 2) (va_cpy ((ag_ar (ag_up σ b 0 (σ b1 0)) (b + 1) (va_cpy ((ag_up σ b 0 (σ b1 0)) (b1 + 1)) ((ag_up σ b 0 (σ b1 0)) (b + 1)) (0 : Int32).toNatClampNeg (0 : Int32).toNatClampNeg (13 : Int32).toNatClampNeg)) (b1 + 2)) ((ag_ar (ag_up σ b 0 (σ b1 0)) (b + 1) (va_cpy ((ag_up σ b 0 (σ b1 0)) (b1 + 1)) ((ag_up σ b 0 (σ b1 0)) (b + 1)) (0 : Int32).toNatClampNeg (0 : Int32).toNatClampNeg (13 : Int32).toNatClampNeg)) (b + 2)) (0 : Int32).toNatClampNeg (0 : Int32).toNatClampNeg (13 : Int32).toNatClampNeg)) (b1 + 3)) ((ag_ar (ag_ar (ag_up σ b 0 (σ b1 0)) (b + 1) (va_cpy ((ag_up σ b 0 (σ b1 0)) (b1 + 1)) ((ag_up σ b 0 (σ b1 0)) (b + 1)) (0 : Int32).toNatClampNeg (0 : Int32).toNatClampNeg (13 : Int32).toNatClampNeg)) (b + 2) (va_cpy ((ag_ar (ag_up σ b 0 (σ b1 0)) (b + 1) (va_cpy ((ag_up σ b 0 (σ b1 0)) (b1 + 1)) ((ag_up σ b 0 (σ b1 0)) (b + 1)) (0 : Int32).toNatClampNeg (0 : Int32).toNatClampNeg (13 : Int32).toNatClampNeg)) (b1 + 2)) ((ag_ar (ag_up σ b 0 (σ b1 0)) (b + 1) (va_cpy ((ag_up σ b 0 (σ b1 0)) (b1 + 1)) ((ag_up σ b 0 (σ b1 0)) (b + 1)) (0 : Int32).toNatClampNeg (0 : Int32).toNatClampNeg (13 : Int32).toNatClampNeg)) (b + 2)) (0 : Int32).toNatClampNeg (0 : Int32).toNatClampNeg (13 : Int32).toNatClampNeg)) (b + 3)) (0 : Int32).toNatClampNeg (0 : Int32).toNatClampNeg (13 : Int32).toNatClampNeg)) (b + 4) (va_cpy ((ag_ar (ag_ar (ag_ar (ag_up σ b 0 (σ b1 0)) (b + 1) (va_cpy ((ag_up σ b 0 (σ b1 0)) (b1 + 1)) ((ag_up σ b 0 (σ b1 0)) (b + 1)) (0 : Int32).toNatClampNeg (0 : Int32).toNatClampNeg (13 : Int32).toNatClampNeg)) (b + 2) (va_cpy ((ag_ar (ag_up σ b 0 (σ b1 0)) (b + 1) (va_cpy ((ag_up σ b 0 (σ b1 0)) (b1 + 1)) ((ag_up σ b 0 (σ b1 0)) (b + 1)) (0 : Int32).toNatClampNeg (0 : Int32).toNatClampNeg (13 : Int32).toNatClampNeg)) (b1 + 2)) ((ag_ar (ag_up σ b 0 (σ b1 0)) (b + 1) (va_cpy ((ag_up σ b 0 (σ b1 0)) (b1 + 1)) ((ag_up σ b 0 (σ b1 0)) (b + 1)) (0 : Int32).toNatClampNeg (0 : Int32).toNatClampNeg (13 : Int32).toNatClampNeg)) (b + 2)) (0 : Int32).toNatClampNeg (0 : Int32).toNatClampNeg (13 : Int32).toNatClampNeg)) (b + 3) (va_cpy ((ag_ar (ag_ar (ag_up σ b 0 (σ b1 0)) (b + 1) (va_cpy ((ag_up σ b 0 (σ b1 0)) (b1 + 1)) ((ag_up σ b 0 (σ b1 0)) (b + 1)) (0 : Int32).toNatClampNeg (0 : Int32).toNatClampNeg (13 : Int32).toNatClampNeg)) (b + 2) (va_cpy ((ag_ar (ag_up σ b 0 (σ b1 0)) (b + 1) (va_cpy ((ag_up σ b 0 (σ b1 0)) (b1 + 1)) ((ag_up σ b 0 (σ b1 0)) (b + 1)) (0 : Int32).toNatClampNeg (0 : Int32).toNatClampNeg (13 : Int32).toNatClampNeg)) (b1 + 2)) ((ag_ar (ag_up σ b 0 (σ b1 0)) (b + 1) (va_cpy ((ag_up σ b 0 (σ b1 0)) (b1 + 1)) ((ag_up σ b 0 (σ b1 0)) (b + 1)) (0 : Int32).toNatClampNeg (0 : Int32).toNatClampNeg (13 : Int32).toNatClampNeg)) (b + 2)) (0 : Int32).toNatClampNeg (0 : Int32).toNatClampNeg (13 : Int32).toNatClampNeg)) (b1 + 3)) ((ag_ar (ag_ar (ag_up σ b 0 (σ b1 0)) (b + 1) (va_cpy ((ag_up σ b 0 (σ b1 0)) (b1 + 1)) ((ag_up σ b 0 (σ b1 0)) (b + 1)) (0 : Int32).toNatClampNeg (0 : Int32).toNatClampNeg (13 : Int32).toNatClampNeg)) (b + 2) (va_cpy ((ag_ar (ag_up σ b 0 (σ b1 0)) (b + 1) (va_cpy ((ag_up σ b 0 (σ b1 0)) (b1 + 1)) ((ag_up σ b 0 (σ b1 0)) (b + 1)) (0 : Int32).toNatClampNeg (0 : Int32).toNatClampNeg (13 : Int32).toNatClampNeg)) (b1 + 2)) ((ag_ar (ag_up σ b 0 (σ b1 0)) (b + 1) (va_cpy ((ag_up σ b 0 (σ b1 0)) (b1 + 1)) ((ag_up σ b 0 (σ b1 0)) (b + 1)) (0 : Int32).toNatClampNeg (0 : Int32).toNatClampNeg (13 : Int32).toNatClampNeg)) (b + 2)) (0 : Int32).toNatClampNeg (0 : Int32).toNatClampNeg (13 : Int32).toNatClampNeg)) (b + 3)) (0 : Int32).toNatClampNeg (0 : Int32).toNatClampNeg (13 : Int32).toNatClampNeg)) (b1 + 4)) ((ag_ar (ag_ar (ag_ar (ag_up σ b 0 (σ b1 0)) (b + 1) (va_cpy ((ag_up σ b 0 (σ b1 0)) (b1 + 1)) ((ag_up σ b 0 (σ b1 0)) (b + 1)) (0 : Int32).toNatClampNeg (0 : Int32).toNatClampNeg (13 : Int32).toNatClampNeg)) (b + 2) (va_cpy ((ag_ar (ag_up σ b 0 (σ b1 0)) (b + 1) (va_cpy ((ag_up σ b 0 (σ b1 0)) (b1 + 1)) ((ag_up σ b 0 (σ b1 0)) (b + 1)) (0 : Int32).toNatClampNeg (0 : Int32).toNatClampNeg (13 : Int32).toNatClampNeg)) (b1 + 2)) ((ag_ar (ag_up σ b 0 (σ b1 0)) (b + 1) (va_cpy ((ag_up σ b 0 (σ b1 0)) (b1 + 1)) ((ag_up σ b 0 (σ b1 0)) (b + 1)) (0 : Int32).toNatClampNeg (0 : Int32).toNatClampNeg (13 : Int32).toNatClampNeg)) (b + 2)) (0 : Int32).toNatClampNeg (0 : Int32).toNatClampNeg (13 : Int32).toNatClampNeg)) (b + 3) (va_cpy ((ag_ar (ag_ar (ag_up σ b 0 (σ b1 0)) (b + 1) (va_cpy ((ag_up σ b 0 (σ b1 0)) (b1 + 1)) ((ag_up σ b 0 (σ b1 0)) (b + 1)) (0 : Int32).toNatClampNeg (0 : Int32).toNatClampNeg (13 : Int32).toNatClampNeg)) (b + 2) (va_cpy ((ag_ar (ag_up σ b 0 (σ b1 0)) (b + 1) (va_cpy ((ag_up σ b 0 (σ b1 0)) (b1 + 1)) ((ag_up σ b 0 (σ b1 0)) (b + 1)) (0 : Int32).toNatClampNeg (0 : Int32).toNatClampNeg (13 : Int32).toNatClampNeg)) (b1 + 2)) ((ag_ar (ag_up σ b 0 (σ b1 0)) (b + 1) (va_cpy ((ag_up σ b 0 (σ b1 0)) (b1 + 1)) ((ag_up σ b 0 (σ b1 0)) (b + 1)) (0 : Int32).toNatClampNeg (0 : Int32).toNatClampNeg (13 : Int32).toNatClampNeg)) (b + 2)) (0 : Int32).toNatClampNeg (0 : Int32).toNatClampNeg (13 : Int32).toNatClampNeg)) (b1 + 3)) ((ag_ar (ag_ar (ag_up σ b 0 (σ b1 0)) (b + 1) (va_cpy ((ag_up σ b 0 (σ b1 0)) (b1 + 1)) ((ag_up σ b 0 (σ b1 0)) (b + 1)) (0 : Int32).toNatClampNeg (0 : Int32).toNatClampNeg (13 : Int32).toNatClampNeg)) (b + 2) (va_cpy ((ag_ar (ag_up σ b 0 (σ b1 0)) (b + 1) (va_cpy ((ag_up σ b 0 (σ b1 0)) (b1 + 1)) ((ag_up σ b 0 (σ b1 0)) (b + 1)) (0 : Int32).toNatClampNeg (0 : Int32).toNatClampNeg (13 : Int32).toNatClampNeg)) (b1 + 2)) ((ag_ar (ag_up σ b 0 (σ b1 0)) (b + 1) (va_cpy ((ag_up σ b 0 (σ b1 0)) (b1 + 1)) ((ag_up σ b 0 (σ b1 0)) (b + 1)) (0 : Int32).toNatClampNeg (0 : Int32).toNatClampNeg (13 : Int32).toNatClampNeg)) (b + 2)) (0 : Int32).toNatClampNeg (0 : Int32).toNatClampNeg (13 : Int32).toNatClampNeg)) (b + 3)) (0 : Int32).toNatClampNeg (0 : Int32).toNatClampNeg (13 : Int32).toNatClampNeg)) (b + 4)) (0 : Int32).toNatClampNeg (0 : Int32).toNatClampNeg (13 : Int32).toNatClampNeg)) (b + 5) (va_cpy ((ag_ar (ag_ar (ag_ar (ag_ar (ag_up σ b 0 (σ b1 0)) (b + 1) (va_cpy ((ag_up σ b 0 (σ b1 0)) (b1 + 1)) ((ag_up σ b 0 (σ b1 0)) (b + 1)) (0 : Int32).toNatClampNeg (0 : Int32).toNatClampNeg (13 : Int32).toNatClampNeg)) (b + 2) (va_cpy ((ag_ar (ag_up σ b 0 (σ b1 0)) (b + 1) (va_cpy ((ag_up σ b 0 (σ b1 0)) (b1 + 1)) ((ag_up σ b 0 (σ b1 0)) (b + 1)) (0 : Int32).toNatClampNeg (0 : Int32).toNatClampNeg (13 : Int32).toNatClampNeg)) (b1 + 2)) ((ag_ar (ag_up σ b 0 (σ b1 0)) (b + 1) (va_cpy ((ag_up σ b 0 (σ b1 0)) (b1 + 1)) ((ag_up σ b 0 (σ b1 0)) (b + 1)) (0 : Int32).toNatClampNeg (0 : Int32).toNatClampNeg (13 : Int32).toNatClampNeg)) (b + 2)) (0 : Int32).toNatClampNeg (0 : Int32).toNatClampNeg (13 : Int32).toNatClampNeg)) (b + 3) (va_cpy ((ag_ar (ag_ar (ag_up σ b 0 (σ b1 0)) (b + 1) (va_cpy ((ag_up σ b 0 (σ b1 0)) (b1 + 1)) ((ag_up σ b 0 (σ b1 0)) (b + 1)) (0 : Int32).toNatClampNeg (0 : Int32).toNatClampNeg (13 : Int32).toNatClampNeg)) (b + 2) (va_cpy ((ag_ar (ag_up σ b 0 (σ b1 0)) (b + 1) (va_cpy ((ag_up σ b 0 (σ b1 0)) (b1 + 1)) ((ag_up σ b 0 (σ b1 0)) (b + 1)) (0 : Int32).toNatClampNeg (0 : Int32).toNatClampNeg (13 : Int32).toNatClampNeg)) (b1 + 2)) ((ag_ar (ag_up σ b 0 (σ b1 0)) (b + 1) (va_cpy ((ag_up σ b 0 (σ b1 0)) (b1 + 1)) ((ag_up σ b 0 (σ b1 0)) (b + 1)) (0 : Int32).toNatClampNeg (0 : Int32).toNatClampNeg (13 : Int32).toNatClampNeg)) (b + 2)) (0 : Int32).toNatClampNeg (0 : Int32).toNatClampNeg (13 : Int32).toNatClampNeg)) (b1 + 3)) ((ag_ar (ag_ar (ag_up σ b 0 (σ b1 0)) (b + 1) (va_cpy ((ag_up σ b 0 (σ b1 0)) (b1 + 1)) ((ag_up σ b 0 (σ b1 0)) (b + 1)) (0 : Int32).toNatClampNeg (0 : Int32).toNatClampNeg (13 : Int32).toNatClampNeg)) (b + 2) (va_cpy ((ag_ar (ag_up σ b 0 (σ b1 0)) (b + 1) (va_cpy ((ag_up σ b 0 (σ b1 0)) (b1 + 1)) ((ag_up σ b 0 (σ b1 0)) (b + 1)) (0 : Int32).toNatClampNeg (0 : Int32).toNatClampNeg (13 : Int32).toNatClampNeg)) (b1 + 2)) ((ag_ar (ag_up σ b 0 (σ b1 0)) (b + 1) (va_cpy ((ag_up σ b 0 (σ b1 0)) (b1 + 1)) ((ag_up σ b 0 (σ b1 0)) (b + 1)) (0 : Int32).toNatClampNeg (0 : Int32).toNatClampNeg (13 : Int32).toNatClampNeg)) (b + 2)) (0 : Int32).toNatClampNeg (0 : Int32).toNatClampNeg (13 : Int32).toNatClampNeg)) (b + 3)) (0 : Int32).toNatClampNeg (0 : Int32).toNatClampNeg (13 : Int32).toNatClampNeg)) (b + 4) (va_cpy ((ag_ar (ag_ar (ag_ar (ag_up σ b 0 (σ b1 0)) (b + 1) (va_cpy ((ag_up σ b 0 (σ b1 0)) (b1 + 1)) ((ag_up σ b 0 (σ b1 0)) (b + 1)) (0 : Int32).toNatClampNeg (0 : Int32).toNatClampNeg (13 : Int32).toNatClampNeg)) (b + 2) (va_cpy ((ag_ar (ag_up σ b 0 (σ b1 0)) (b + 1) (va_cpy ((ag_up σ b 0 (σ b1 0)) (b1 + 1)) ((ag_up σ b 0 (σ b1 0)) (b + 1)) (0 : Int32).toNatClampNeg (0 : Int32).toNatClampNeg (13 : Int32).toNatClampNeg)) (b1 + 2)) ((ag_ar (ag_up σ b 0 (σ b1 0)) (b + 1) (va_cpy ((ag_up σ b 0 (σ b1 0)) (b1 + 1)) ((ag_up σ b 0 (σ b1 0)) (b + 1)) (0 : Int32).toNatClampNeg (0 : Int32).toNatClampNeg (13 : Int32).toNatClampNeg)) (b + 2)) (0 : Int32).toNatClampNeg (0 : Int32).toNatClampNeg (13 : Int32).toNatClampNeg)) (b + 3) (va_cpy ((ag_ar (ag_ar (ag_up σ b 0 (σ b1 0)) (b + 1) (va_cpy ((ag_up σ b 0 (σ b1 0)) (b1 + 1)) ((ag_up σ b 0 (σ b1 0)) (b + 1)) (0 : Int32).toNatClampNeg (0 : Int32).toNatClampNeg (13 : Int32).toNatClampNeg)) (b + 2) (va_cpy ((ag_ar (ag_up σ b 0 (σ b1 0)) (b + 1) (va_cpy ((ag_up σ b 0 (σ b1 0)) (b1 + 1)) ((ag_up σ b 0 (σ b1 0)) (b + 1)) (0 : Int32).toNatClampNeg (0 : Int32).toNatClampNeg (13 : Int32).toNatClampNeg)) (b1 + 2)) ((ag_ar (ag_up σ b 0 (σ b1 0)) (b + 1) (va_cpy ((ag_up σ b 0 (σ b1 0)) (b1 + 1)) ((ag_up σ b 0 (σ b1 0)) (b + 1)) (0 : Int32).toNatClampNeg (0 : Int32).toNatClampNeg (13 : Int32).toNatClampNeg)) (b + 2)) (0 : Int32).toNatClampNeg (0 : Int32).toNatClampNeg (13 : Int32).toNatClampNeg)) (b1 + 3)) ((ag_ar (ag_ar (ag_up σ b 0 (σ b1 0)) (b + 1) (va_cpy ((ag_up σ b 0 (σ b1 0)) (b1 + 1)) ((ag_up σ b 0 (σ b1 0)) (b + 1)) (0 : Int32).toNatClampNeg (0 : Int32).toNatClampNeg (13 : Int32).toNatClampNeg)) (b + 2) (va_cpy ((ag_ar (ag_up σ b 0 (σ b1 0)) (b + 1) (va_cpy ((ag_up σ b 0 (σ b1 0)) (b1 + 1)) ((ag_up σ b 0 (σ b1 0)) (b + 1)) (0 : Int32).toNatClampNeg (0 : Int32).toNatClampNeg (13 : Int32).toNatClampNeg)) (b1 + 2)) ((ag_ar (ag_up σ b 0 (σ b1 0)) (b + 1) (va_cpy ((ag_up σ b 0 (σ b1 0)) (b1 + 1)) ((ag_up σ b 0 (σ b1 0)) (b + 1)) (0 : Int32).toNatClampNeg (0 : Int32).toNatClampNeg (13 : Int32).toNatClampNeg)) (b + 2)) (0 : Int32).toNatClampNeg (0 : Int32).toNatClampNeg (13 : Int32).toNatClampNeg)) (b + 3)) (0 : Int32).toNatClampNeg (0 : Int32).toNatClampNeg (13 : Int32).toNatClampNeg)) (b1 + 4)) ((ag_ar (ag_ar (ag_ar (ag_up σ b 0 (σ b1 0)) (b + 1) (va_cpy ((ag_up σ b 0 (σ b1 0)) (b1 + 1)) ((ag_up σ b 0 (σ b1 0)) (b + 1)) (0 : Int32).toNatClampNeg (0 : Int32).toNatClampNeg (13 : Int32).toNatClampNeg)) (b + 2) (va_cpy ((ag_ar (ag_up σ b 0 (σ b1 0)) (b + 1) (va_cpy ((ag_up σ b 0 (σ b1 0)) (b1 + 1)) ((ag_up σ b 0 (σ b1 0)) (b + 1)) (0 : Int32).toNatClampNeg (0 : Int32).toNatClampNeg (13 : Int32).toNatClampNeg)) (b1 + 2)) ((ag_ar (ag_up σ b 0 (σ b1 0)) (b + 1) (va_cpy ((ag_up σ b 0 (σ b1 0)) (b1 + 1)) ((ag_up σ b 0 (σ b1 0)) (b + 1)) (0 : Int32).toNatClampNeg (0 : Int32).toNatClampNeg (13 : Int32).toNatClampNeg)) (b + 2)) (0 : Int32).toNatClampNeg (0 : Int32).toNatClampNeg (13 : Int32).toNatClampNeg)) (b + 3) (va_cpy ((ag_ar (ag_ar (ag_up σ b 0 (σ b1 0)) (b + 1) (va_cpy ((ag_up σ b 0 (σ b1 0)) (b1 + 1)) ((ag_up σ b 0 (σ b1 0)) (b + 1)) (0 : Int32).toNatClampNeg (0 : Int32).toNatClampNeg (13 : Int32).toNatClampNeg)) (b + 2) (va_cpy ((ag_ar (ag_up σ b 0 (σ b1 0)) (b + 1) (va_cpy ((ag_up σ b 0 (σ b1 0)) (b1 + 1)) ((ag_up σ b 0 (σ b1 0)) (b + 1)) (0 : Int32).toNatClampNeg (0 : Int32).toNatClampNeg (13 : Int32).toNatClampNeg)) (b1 + 2)) ((ag_ar (ag_up σ b 0 (σ b1 0)) (b + 1) (va_cpy ((ag_up σ b 0 (σ b1 0)) (b1 + 1)) ((ag_up σ b 0 (σ b1 0)) (b + 1)) (0 : Int32).toNatClampNeg (0 : Int32).toNatClampNeg (13 : Int32).toNatClampNeg)) (b + 2)) (0 : Int32).toNatClampNeg (0 : Int32).toNatClampNeg (13 : Int32).toNatClampNeg)) (b1 + 3)) ((ag_ar (ag_ar (ag_up σ b 0 (σ b1 0)) (b + 1) (va_cpy ((ag_up σ b 0 (σ b1 0)) (b1 + 1)) ((ag_up σ b 0 (σ b1 0)) (b + 1)) (0 : Int32).toNatClampNeg (0 : Int32).toNatClampNeg (13 : Int32).toNatClampNeg)) (b + 2) (va_cpy ((ag_ar (ag_up σ b 0 (σ b1 0)) (b + 1) (va_cpy ((ag_up σ b 0 (σ b1 0)) (b1 + 1)) ((ag_up σ b 0 (σ b1 0)) (b + 1)) (0 : Int32).toNatClampNeg (0 : Int32).toNatClampNeg (13 : Int32).toNatClampNeg)) (b1 + 2)) ((ag_ar (ag_up σ b 0 (σ b1 0)) (b + 1) (va_cpy ((ag_up σ b 0 (σ b1 0)) (b1 + 1)) ((ag_up σ b 0 (σ b1 0)) (b + 1)) (0 : Int32).toNatClampNeg (0 : Int32).toNatClampNeg (13 : Int32).toNatClampNeg)) (b + 2)) (0 : Int32).toNatClampNeg (0 : Int32).toNatClampNeg (13 : Int32).toNatClampNeg)) (b + 3)) (0 : Int32).toNatClampNeg (0 : Int32).toNatClampNeg (13 : Int32).toNatClampNeg)) (b + 4)) (0 : Int32).toNatClampNeg (0 : Int32).toNatClampNeg (13 : Int32).toNatClampNeg)) (b1 + 5)) ((ag_ar (ag_ar (ag_ar (ag_ar (ag_up σ b 0 (σ b1 0)) (b + 1) (va_cpy ((ag_up σ b 0 (σ b1 0)) (b1 + 1)) ((ag_up σ b 0 (σ b1 0)) (b + 1)) (0 : Int32).toNatClampNeg (0 : Int32).toNatClampNeg (13 : Int32).toNatClampNeg)) (b + 2) (va_cpy ((ag_ar (ag_up σ b 0 (σ b1 0)) (b + 1) (va_cpy ((ag_up σ b 0 (σ b1 0)) (b1 + 1)) ((ag_up σ b 0 (σ b1 0)) (b + 1)) (0 : Int32).toNatClampNeg (0 : Int32).toNatClampNeg (13 : Int32).toNatClampNeg)) (b1 + 2)) ((ag_ar (ag_up σ b 0 (σ b1 0)) (b + 1) (va_cpy ((ag_up σ b 0 (σ b1 0)) (b1 + 1)) ((ag_up σ b 0 (σ b1 0)) (b + 1)) (0 : Int32).toNatClampNeg (0 : Int32).toNatClampNeg (13 : Int32).toNatClampNeg)) (b + 2)) (0 : Int32).toNatClampNeg (0 : Int32).toNatClampNeg (13 : Int32).toNatClampNeg)) (b + 3) (va_cpy ((ag_ar (ag_ar (ag_up σ b 0 (σ b1 0)) (b + 1) (va_cpy ((ag_up σ b 0 (σ b1 0)) (b1 + 1)) ((ag_up σ b 0 (σ b1 0)) (b + 1)) (0 : Int32).toNatClampNeg (0 : Int32).toNatClampNeg (13 : Int32).toNatClampNeg)) (b + 2) (va_cpy ((ag_ar (ag_up σ b 0 (σ b1 0)) (b + 1) (va_cpy ((ag_up σ b 0 (σ b1 0)) (b1 + 1)) ((ag_up σ b 0 (σ b1 0)) (b + 1)) (0 : Int32).toNatClampNeg (0 : Int32).toNatClampNeg (13 : Int32).toNatClampNeg)) (b1 + 2)) ((ag_ar (ag_up σ b 0 (σ b1 0)) (b + 1) (va_cpy ((ag_up σ b 0 (σ b1 0)) (b1 + 1)) ((ag_up σ b 0 (σ b1 0)) (b + 1)) (0 : Int32).toNatClampNeg (0 : Int32).toNatClampNeg (13 : Int32).toNatClampNeg)) (b + 2)) (0 : Int32).toNatClampNeg (0 : Int32).toNatClampNeg (13 : Int32).toNatClampNeg)) (b1 + 3)) ((ag_ar (ag_ar (ag_up σ b 0 (σ b1 0)) (b + 1) (va_cpy ((ag_up σ b 0 (σ b1 0)) (b1 + 1)) ((ag_up σ b 0 (σ b1 0)) (b + 1)) (0 : Int32).toNatClampNeg (0 : Int32).toNatClampNeg (13 : Int32).toNatClampNeg)) (b + 2) (va_cpy ((ag_ar (ag_up σ b 0 (σ b1 0)) (b + 1) (va_cpy ((ag_up σ b 0 (σ b1 0)) (b1 + 1)) ((ag_up σ b 0 (σ b1 0)) (b + 1)) (0 : Int32).toNatClampNeg (0 : Int32).toNatClampNeg (13 : Int32).toNatClampNeg)) (b1 + 2)) ((ag_ar (ag_up σ b 0 (σ b1 0)) (b + 1) (va_cpy ((ag_up σ b 0 (σ b1 0)) (b1 + 1)) ((ag_up σ b 0 (σ b1 0)) (b + 1)) (0 : Int32).toNatClampNeg (0 : Int32).toNatClampNeg (13 : Int32).toNatClampNeg)) (b + 2)) (0 : Int32).toNatClampNeg (0 : Int32).toNatClampNeg (13 : Int32).toNatClampNeg)) (b + 3)) (0 : Int32).toNatClampNeg (0 : Int32).toNatClampNeg (13 : Int32).toNatClampNeg)) (b + 4) (va_cpy ((ag_ar (ag_ar (ag_ar (ag_up σ b 0 (σ b1 0)) (b + 1) (va_cpy ((ag_up σ b 0 (σ b1 0)) (b1 + 1)) ((ag_up σ b 0 (σ b1 0)) (b + 1)) (0 : Int32).toNatClampNeg (0 : Int32).toNatClampNeg (13 : Int32).toNatClampNeg)) (b + 2) (va_cpy ((ag_ar (ag_up σ b 0 (σ b1 0)) (b + 1) (va_cpy ((ag_up σ b 0 (σ b1 0)) (b1 + 1)) ((ag_up σ b 0 (σ b1 0)) (b + 1)) (0 : Int32).toNatClampNeg (0 : Int32).toNatClampNeg (13 : Int32).toNatClampNeg)) (b1 + 2)) ((ag_ar (ag_up σ b 0 (σ b1 0)) (b + 1) (va_cpy ((ag_up σ b 0 (σ b1 0)) (b1 + 1)) ((ag_up σ b 0 (σ b1 0)) (b + 1)) (0 : Int32).toNatClampNeg (0 : Int32).toNatClampNeg (13 : Int32).toNatClampNeg)) (b + 2)) (0 : Int32).toNatClampNeg (0 : Int32).toNatClampNeg (13 : Int32).toNatClampNeg)) (b + 3) (va_cpy ((ag_ar (ag_ar (ag_up σ b 0 (σ b1 0)) (b + 1) (va_cpy ((ag_up σ b 0 (σ b1 0)) (b1 + 1)) ((ag_up σ b 0 (σ b1 0)) (b + 1)) (0 : Int32).toNatClampNeg (0 : Int32).toNatClampNeg (13 : Int32).toNatClampNeg)) (b + 2) (va_cpy ((ag_ar (ag_up σ b 0 (σ b1 0)) (b + 1) (va_cpy ((ag_up σ b 0 (σ b1 0)) (b1 + 1)) ((ag_up σ b 0 (σ b1 0)) (b + 1)) (0 : Int32).toNatClampNeg (0 : Int32).toNatClampNeg (13 : Int32).toNatClampNeg)) (b1 + 2)) ((ag_ar (ag_up σ b 0 (σ b1 0)) (b + 1) (va_cpy ((ag_up σ b 0 (σ b1 0)) (b1 + 1)) ((ag_up σ b 0 (σ b1 0)) (b + 1)) (0 : Int32).toNatClampNeg (0 : Int32).toNatClampNeg (13 : Int32).toNatClampNeg)) (b + 2)) (0 : Int32).toNatClampNeg (0 : Int32).toNatClampNeg (13 : Int32).toNatClampNeg)) (b1 + 3)) ((ag_ar (ag_ar (ag_up σ b 0 (σ b1 0)) (b + 1) (va_cpy ((ag_up σ b 0 (σ b1 0)) (b1 + 1)) ((ag_up σ b 0 (σ b1 0)) (b + 1)) (0 : Int32).toNatClampNeg (0 : Int32).toNatClampNeg (13 : Int32).toNatClampNeg)) (b + 2) (va_cpy ((ag_ar (ag_up σ b 0 (σ b1 0)) (b + 1) (va_cpy ((ag_up σ b 0 (σ b1 0)) (b1 + 1)) ((ag_up σ b 0 (σ b1 0)) (b + 1)) (0 : Int32).toNatClampNeg (0 : Int32).toNatClampNeg (13 : Int32).toNatClampNeg)) (b1 + 2)) ((ag_ar (ag_up σ b 0 (σ b1 0)) (b + 1) (va_cpy ((ag_up σ b 0 (σ b1 0)) (b1 + 1)) ((ag_up σ b 0 (σ b1 0)) (b + 1)) (0 : Int32).toNatClampNeg (0 : Int32).toNatClampNeg (13 : Int32).toNatClampNeg)) (b + 2)) (0 : Int32).toNatClampNeg (0 : Int32).toNatClampNeg (13 : Int32).toNatClampNeg)) (b + 3)) (0 : Int32).toNatClampNeg (0 : Int32).toNatClampNeg (13 : Int32).toNatClampNeg)) (b1 + 4)) ((ag_ar (ag_ar (ag_ar (ag_up σ b 0 (σ b1 0)) (b + 1) (va_cpy ((ag_up σ b 0 (σ b1 0)) (b1 + 1)) ((ag_up σ b 0 (σ b1 0)) (b + 1)) (0 : Int32).toNatClampNeg (0 : Int32).toNatClampNeg (13 : Int32).toNatClampNeg)) (b + 2) (va_cpy ((ag_ar (ag_up σ b 0 (σ b1 0)) (b + 1) (va_cpy ((ag_up σ b 0 (σ b1 0)) (b1 + 1)) ((ag_up σ b 0 (σ b1 0)) (b + 1)) (0 : Int32).toNatClampNeg (0 : Int32).toNatClampNeg (13 : Int32).toNatClampNeg)) (b1 + 2)) ((ag_ar (ag_up σ b 0 (σ b1 0)) (b + 1) (va_cpy ((ag_up σ b 0 (σ b1 0)) (b1 + 1)) ((ag_up σ b 0 (σ b1 0)) (b + 1)) (0 : Int32).toNatClampNeg (0 : Int32).toNatClampNeg (13 : Int32).toNatClampNeg)) (b + 2)) (0 : Int32).toNatClampNeg (0 : Int32).toNatClampNeg (13 : Int32).toNatClampNeg)) (b + 3) (va_cpy ((ag_ar (ag_ar (ag_up σ b 0 (σ b1 0)) (b + 1) (va_cpy ((ag_up σ b 0 (σ b1 0)) (b1 + 1)) ((ag_up σ b 0 (σ b1 0)) (b + 1)) (0 : Int32).toNatClampNeg (0 : Int32).toNatClampNeg (13 : Int32).toNatClampNeg)) (b + 2) (va_cpy ((ag_ar (ag_up σ b 0 (σ b1 0)) (b + 1) (va_cpy ((ag_up σ b 0 (σ b1 0)) (b1 + 1)) ((ag_up σ b 0 (σ b1 0)) (b + 1)) (0 : Int32).toNatClampNeg (0 : Int32).toNatClampNeg (13 : Int32).toNatClampNeg)) (b1 + 2)) ((ag_ar (ag_up σ b 0 (σ b1 0)) (b + 1) (va_cpy ((ag_up σ b 0 (σ b1 0)) (b1 + 1)) ((ag_up σ b 0 (σ b1 0)) (b + 1)) (0 : Int32).toNatClampNeg (0 : Int32).toNatClampNeg (13 : Int32).toNatClampNeg)) (b + 2)) (0 : Int32).toNatClampNeg (0 : Int32).toNatClampNeg (13 : Int32).toNatClampNeg)) (b1 + 3)) ((ag_ar (ag_ar (ag_up σ b 0 (σ b1 0)) (b + 1) (va_cpy ((ag_up σ b 0 (σ b1 0)) (b1 + 1)) ((ag_up σ b 0 (σ b1 0)) (b + 1)) (0 : Int32).toNatClampNeg (0 : Int32).toNatClampNeg (13 : Int32).toNatClampNeg)) (b + 2) (va_cpy ((ag_ar (ag_up σ b 0 (σ b1 0)) (b + 1) (va_cpy ((ag_up σ b 0 (σ b1 0)) (b1 + 1)) ((ag_up σ b 0 (σ b1 0)) (b + 1)) (0 : Int32).toNatClampNeg (0 : Int32).toNatClampNeg (13 : Int32).toNatClampNeg)) (b1 + 2)) ((ag_ar (ag_up σ b 0 (σ b1 0)) (b + 1) (va_cpy ((ag_up σ b 0 (σ b1 0)) (b1 + 1)) ((ag_up σ b 0 (σ b1 0)) (b + 1)) (0 : Int32).toNatClampNeg (0 : Int32).toNatClampNeg (13 : Int32).toNatClampNeg)) (b + 2)) (0 : Int32).toNatClampNeg (0 : Int32).toNatClampNeg (13 : Int32).toNatClampNeg)) (b + 3)) (0 : Int32).toNatClampNeg (0 : Int32).toNatClampNeg (13 : Int32).toNatClampNeg)) (b + 4)) (0 : Int32).toNatClampNeg (0 : Int32).toNatClampNeg (13 : Int32).toNatClampNeg)) (b + 5)) (0 : Int32).toNatClampNeg (0 : Int32).toNatClampNeg (13 : Int32).toNatClampNeg))) else none) else none) else none) else none) else none)
set_option maxRecDepth 20000 in
set_option maxHeartbeats 4000000 in
theorem im_X2_takeFrom (b : Nat) (hb : ag_P b) (b1 : Nat) (hb1 : ag_P b1) (σ : Sg) : Im yX2_takeFrom mX2_takeFrom 1 60 jV [.ref b, .ref b1] σ (fn_X2_takeFrom b b1 σ) := by
  refine Im.of (by decide +kernel) rfl (Nat.le_of_ble_eq_true rfl) ?_
  show Ev mX2_takeFrom 1 60 jV 0 [(0, .ref b), (1, .ref b1)] [] σ (fn_X2_takeFrom b b1 σ)
  unfold fn_X2_takeFrom
  refine ev_aload_n (pc := 0) (i := 0) 0 dX2_takeFrom_0 rfl rfl ?_
  refine ev_aload_n (pc := 1) (i := 1) 1 dX2_takeFrom_1 rfl rfl ?_
  refine ev_getI (pc := 2) 0 ag_C2 (ag_Pk hb1).1 (ag_Pk hb1).2 (Nat.le_of_ble_eq_true rfl) (ag_Pt0 hb1) rfl ag_fl_X2_9 dX2_takeFrom_2 ?_
  refine ev_put (pc := 5) 0 ag_C2 (ag_Pk hb).1 (ag_Pk hb).2 (Nat.le_of_ble_eq_true rfl) (ag_Pt0 hb) rfl ag_fl_X2_9 rfl rfl rfl dX2_takeFrom_5 ?_
  refine ev_aload_n (pc := 8) (i := 1) 1 dX2_takeFrom_8 rfl rfl ?_
  refine ev_getR (pc := 9) (t := (b1 + 1)) 1 ag_C2 (ag_Pk hb1).1 (ag_Pk hb1).2 (Nat.le_of_ble_eq_true rfl) (ag_Pt1 hb1) rfl ag_fl_X2_15 dX2_takeFrom_9 ?_
  refine ev_iconst (pc := 12) (v := 0) dX2_takeFrom_12 (by decide) ?_
  refine ev_aload_n (pc := 13) (i := 0) 0 dX2_takeFrom_13 rfl rfl ?_
  refine ev_getR (pc := 14) (t := (b + 1)) 1 ag_C2 (ag_Pk hb).1 (ag_Pk hb).2 (Nat.le_of_ble_eq_true rfl) (ag_Pt1 hb) rfl ag_fl_X2_15 dX2_takeFrom_14 ?_
  refine ev_iconst (pc := 17) (v := 0) dX2_takeFrom_17 (by decide) ?_
  refine ev_bipush (pc := 18) (v := 13) dX2_takeFrom_18 (by decide) ?_
  refine ev_copy (pc := 20) (ag_Pa1 hb1).1 (ag_Pa1 hb1).2 (ag_Pa1 hb).1 (ag_Pa1 hb).2 ag_ml_X2_31 ⟨(Nat.le_of_ble_eq_true rfl), (by decide)⟩ dX2_takeFrom_20 ?_
  refine ev_aload_n (pc := 23) (i := 1) 1 dX2_takeFrom_23 rfl rfl ?_
  refine ev_getR (pc := 24) (t := (b1 + 2)) 2 ag_C2 (ag_Pk hb1).1 (ag_Pk hb1).2 (Nat.le_of_ble_eq_true rfl) (ag_Pt2 hb1) rfl ag_fl_X2_19 dX2_takeFrom_24 ?_
  refine ev_iconst (pc := 27) (v := 0) dX2_takeFrom_27 (by decide) ?_
  refine ev_aload_n (pc := 28) (i := 0) 0 dX2_takeFrom_28 rfl rfl ?_
  refine ev_getR (pc := 29) (t := (b + 2)) 2 ag_C2 (ag_Pk hb).1 (ag_Pk hb).2 (Nat.le_of_ble_eq_true rfl) (ag_Pt2 hb) rfl ag_fl_X2_19 dX2_takeFrom_29 ?_
  refine ev_iconst (pc := 32) (v := 0) dX2_takeFrom_32 (by decide) ?_
  refine ev_bipush (pc := 33) (v := 13) dX2_takeFrom_33 (by decide) ?_
  refine ev_copy (pc := 35) (ag_Pa2 hb1).1 (ag_Pa2 hb1).2 (ag_Pa2 hb).1 (ag_Pa2 hb).2 ag_ml_X2_31 ⟨(Nat.le_of_ble_eq_true rfl), (by decide)⟩ dX2_takeFrom_35 ?_
  refine ev_aload_n (pc := 38) (i := 1) 1 dX2_takeFrom_38 rfl rfl ?_
  refine ev_getR (pc := 39) (t := (b1 + 3)) 3 ag_C2 (ag_Pk hb1).1 (ag_Pk hb1).2 (Nat.le_of_ble_eq_true rfl) (ag_Pt3 hb1) rfl ag_fl_X2_22 dX2_takeFrom_39 ?_
  refine ev_iconst (pc := 42) (v := 0) dX2_takeFrom_42 (by decide) ?_
  refine ev_aload_n (pc := 43) (i := 0) 0 dX2_takeFrom_43 rfl rfl ?_
  refine ev_getR (pc := 44) (t := (b + 3)) 3 ag_C2 (ag_Pk hb).1 (ag_Pk hb).2 (Nat.le_of_ble_eq_true rfl) (ag_Pt3 hb) rfl ag_fl_X2_22 dX2_takeFrom_44 ?_
  refine ev_iconst (pc := 47) (v := 0) dX2_takeFrom_47 (by decide) ?_
  refine ev_bipush (pc := 48) (v := 13) dX2_takeFrom_48 (by decide) ?_
  refine ev_copy (pc := 50) (ag_Pa3 hb1).1 (ag_Pa3 hb1).2 (ag_Pa3 hb).1 (ag_Pa3 hb).2 ag_ml_X2_31 ⟨(Nat.le_of_ble_eq_true rfl), (by decide)⟩ dX2_takeFrom_50 ?_
  refine ev_aload_n (pc := 53) (i := 1) 1 dX2_takeFrom_53 rfl rfl ?_
  refine ev_getR (pc := 54) (t := (b1 + 4)) 4 ag_C2 (ag_Pk hb1).1 (ag_Pk hb1).2 (Nat.le_of_ble_eq_true rfl) (ag_Pt4 hb1) rfl ag_fl_X2_25 dX2_takeFrom_54 ?_
  refine ev_iconst (pc := 57) (v := 0) dX2_takeFrom_57 (by decide) ?_
  refine ev_aload_n (pc := 58) (i := 0) 0 dX2_takeFrom_58 rfl rfl ?_
  refine ev_getR (pc := 59) (t := (b + 4)) 4 ag_C2 (ag_Pk hb).1 (ag_Pk hb).2 (Nat.le_of_ble_eq_true rfl) (ag_Pt4 hb) rfl ag_fl_X2_25 dX2_takeFrom_59 ?_
  refine ev_iconst (pc := 62) (v := 0) dX2_takeFrom_62 (by decide) ?_
  refine ev_bipush (pc := 63) (v := 13) dX2_takeFrom_63 (by decide) ?_
  refine ev_copy (pc := 65) (ag_Pa4 hb1).1 (ag_Pa4 hb1).2 (ag_Pa4 hb).1 (ag_Pa4 hb).2 ag_ml_X2_31 ⟨(Nat.le_of_ble_eq_true rfl), (by decide)⟩ dX2_takeFrom_65 ?_
  refine ev_aload_n (pc := 68) (i := 1) 1 dX2_takeFrom_68 rfl rfl ?_
  refine ev_getR (pc := 69) (t := (b1 + 5)) 5 ag_C2 (ag_Pk hb1).1 (ag_Pk hb1).2 (Nat.le_of_ble_eq_true rfl) (ag_Pt5 hb1) rfl ag_fl_X2_28 dX2_takeFrom_69 ?_
  refine ev_iconst (pc := 72) (v := 0) dX2_takeFrom_72 (by decide) ?_
  refine ev_aload_n (pc := 73) (i := 0) 0 dX2_takeFrom_73 rfl rfl ?_
  refine ev_getR (pc := 74) (t := (b + 5)) 5 ag_C2 (ag_Pk hb).1 (ag_Pk hb).2 (Nat.le_of_ble_eq_true rfl) (ag_Pt5 hb) rfl ag_fl_X2_28 dX2_takeFrom_74 ?_
  refine ev_iconst (pc := 77) (v := 0) dX2_takeFrom_77 (by decide) ?_
  refine ev_bipush (pc := 78) (v := 13) dX2_takeFrom_78 (by decide) ?_
  refine ev_copy (pc := 80) (ag_Pa5 hb1).1 (ag_Pa5 hb1).2 (ag_Pa5 hb).1 (ag_Pa5 hb).2 ag_ml_X2_31 ⟨(Nat.le_of_ble_eq_true rfl), (by decide)⟩ dX2_takeFrom_80 ?_
  exact ev_ret (fun r h => by cases h; rfl) rfl dX2_takeFrom_83
-- J7_fill_53178
def mJ7_fill_53178 : Md := (RJ7, cJ7_fill_53178, 4, none)
theorem ms_J7_fill_53178 : ag_Ms yJ7_fill_53178 mJ7_fill_53178 2 := ⟨ag_co_J7_fill_53178, ag_st_J7_fill_53178, ag_ini_J7, by decide +kernel⟩
theorem dJ7_fill_53178_0 : decode mJ7_fill_53178.2.1 0 = .ok (.iconst 0, 1) := by decide +kernel
theorem dJ7_fill_53178_1 : decode mJ7_fill_53178.2.1 1 = .ok (.istore_n 2, 1) := by decide +kernel
theorem dJ7_fill_53178_2 : decode mJ7_fill_53178.2.1 2 = .ok (.aload_n 0, 1) := by decide +kernel
theorem dJ7_fill_53178_3 : decode mJ7_fill_53178.2.1 3 = .ok (.arraylength, 1) := by decide +kernel
theorem dJ7_fill_53178_4 : decode mJ7_fill_53178.2.1 4 = .ok (.istore_n 3, 1) := by decide +kernel
theorem dJ7_fill_53178_5 : decode mJ7_fill_53178.2.1 5 = .ok (.iload_n 2, 1) := by decide +kernel
theorem dJ7_fill_53178_6 : decode mJ7_fill_53178.2.1 6 = .ok (.iload_n 3, 1) := by decide +kernel
theorem dJ7_fill_53178_7 : decode mJ7_fill_53178.2.1 7 = .ok (.if_icmp .ge 13, 3) := by decide +kernel
theorem dJ7_fill_53178_10 : decode mJ7_fill_53178.2.1 10 = .ok (.aload_n 0, 1) := by decide +kernel
theorem dJ7_fill_53178_11 : decode mJ7_fill_53178.2.1 11 = .ok (.iload_n 2, 1) := by decide +kernel
theorem dJ7_fill_53178_12 : decode mJ7_fill_53178.2.1 12 = .ok (.iload_n 1, 1) := by decide +kernel
theorem dJ7_fill_53178_13 : decode mJ7_fill_53178.2.1 13 = .ok (.iastore, 1) := by decide +kernel
theorem dJ7_fill_53178_14 : decode mJ7_fill_53178.2.1 14 = .ok (.iinc 2 1, 3) := by decide +kernel
theorem dJ7_fill_53178_17 : decode mJ7_fill_53178.2.1 17 = .ok (.goto (-12), 3) := by decide +kernel
theorem dJ7_fill_53178_20 : decode mJ7_fill_53178.2.1 20 = .ok (.return_, 1) := by decide +kernel
def fn_J7_fill_53178_b5 (n : Nat) (a0 a0_n : Nat) (x1 : Int32)  : Nat → Int32 → Int32 → Sg → Option Sg
  | 0 => fun _ _ _ => none
  | i + 1 => fun v2 v3 σ =>
  (if v3 ≤ v2 then (some σ)
  else (if ag_ib v2 a0_n = true then ((fn_J7_fill_53178_b5 n a0 a0_n x1 i) (v2 + 1) v3 (ag_up σ a0 v2.toNatClampNeg x1)) else none))
theorem fn_J7_fill_53178_b5_s (n : Nat) (a0 a0_n : Nat) (x1 : Int32)  (i : Nat) (v2 : Int32) (v3 : Int32) (σ : Sg) : fn_J7_fill_53178_b5 n a0 a0_n x1 (i + 1) v2 v3 σ =
  (if v3 ≤ v2 then (some σ)
  else (if ag_ib v2 a0_n = true then ((fn_J7_fill_53178_b5 n a0 a0_n x1 i) (v2 + 1) v3 (ag_up σ a0 v2.toNatClampNeg x1)) else none)) := rfl
set_option maxRecDepth 20000 in
set_option maxHeartbeats 4000000 in
theorem ev_J7_fill_53178_b5 (n : Nat) (a0 a0_n : Nat) (ha0 : ag_kd a0 = (8, a0_n) ∧ a0 < 77) (x1 : Int32)  : ∀ (i : Nat) (v2 : Int32) (v3 : Int32) (σ : Sg), Ev mJ7_fill_53178 0 0 jV 5 [(0, .ref a0), (1, .int x1), (2, .int v2), (3, .int v3)] [] σ (fn_J7_fill_53178_b5 n a0 a0_n x1 i v2 v3 σ) := by
  intro i
  induction i with
  | zero =>
    intro v2 v3 σ
    exact ev_none
  | succ i ih =>
    intro v2 v3 σ
    rw [fn_J7_fill_53178_b5_s]
    refine ev_iload_n (pc := 5) (i := 2) 2 dJ7_fill_53178_5 rfl rfl ?_
    refine ev_iload_n (pc := 6) (i := 3) 3 dJ7_fill_53178_6 rfl rfl ?_
    refine ev_icmp_ge (pc := 7) (tgt := 20) dJ7_fill_53178_7 rfl ?_ ?_
    · exact ev_ret (fun r h => by cases h; rfl) rfl dJ7_fill_53178_20
    · refine ev_aload_n (pc := 10) (i := 0) 0 dJ7_fill_53178_10 rfl rfl ?_
      refine ev_iload_n (pc := 11) (i := 2) 2 dJ7_fill_53178_11 rfl rfl ?_
      refine ev_iload_n (pc := 12) (i := 1) 1 dJ7_fill_53178_12 rfl rfl ?_
      refine ev_iast (pc := 13) ha0.1 ha0.2 dJ7_fill_53178_13 ?_
      refine ev_iinc (pc := 14) (v := (v2 + 1)) (lv' := [(2, .int (v2 + 1)), (0, .ref a0), (1, .int x1), (3, .int v3)]) 2 dJ7_fill_53178_14 rfl rfl (Nat.le_of_ble_eq_true rfl) rfl ?_
      refine ev_goto (pc := 17) (tgt := 5) dJ7_fill_53178_17 rfl ?_
      refine ev_sub [1, 2, 0, 3] rfl ?_
      exact ih (v2 + 1) v3 (ag_up σ a0 v2.toNatClampNeg x1)
def fn_J7_fill_53178 (n : Nat) (a0 a0_n : Nat) (x1 : Int32) (σ : Sg) : Option Sg :=
  (fn_J7_fill_53178_b5 n a0 a0_n x1 n 0 (Int32.ofNat a0_n) σ)
set_option maxRecDepth 20000 in
set_option maxHeartbeats 4000000 in
theorem im_J7_fill_53178 (n : Nat) (a0 a0_n : Nat) (ha0 : ag_kd a0 = (8, a0_n) ∧ a0 < 77) (x1 : Int32) (σ : Sg) : Im yJ7_fill_53178 mJ7_fill_53178 0 0 jV [.ref a0, .int x1] σ (fn_J7_fill_53178 n a0 a0_n x1 σ) := by
  refine Im.of (by decide +kernel) rfl (Nat.le_of_ble_eq_true rfl) ?_
  show Ev mJ7_fill_53178 0 0 jV 0 [(0, .ref a0), (1, .int x1)] [] σ (fn_J7_fill_53178 n a0 a0_n x1 σ)
  unfold fn_J7_fill_53178
  refine ev_iconst (pc := 0) (v := 0) dJ7_fill_53178_0 (by decide) ?_
  refine ev_istore_n (pc := 1) (i := 2) (lv' := [(2, .int 0), (0, .ref a0), (1, .int x1)]) dJ7_fill_53178_1 rfl (Nat.le_of_ble_eq_true rfl) rfl ?_
  refine ev_aload_n (pc := 2) (i := 0) 1 dJ7_fill_53178_2 rfl rfl ?_
  refine ev_alen (pc := 3) (v := (Int32.ofNat a0_n)) ha0.1 ha0.2 rfl dJ7_fill_53178_3 ?_
  refine ev_istore_n (pc := 4) (i := 3) (lv' := [(3, .int (Int32.ofNat a0_n)), (2, .int 0), (0, .ref a0), (1, .int x1)]) dJ7_fill_53178_4 rfl (Nat.le_of_ble_eq_true rfl) rfl ?_
  refine ev_sub [2, 3, 1, 0] rfl ?_
  exact ev_J7_fill_53178_b5 n a0 a0_n ha0 x1 n 0 (Int32.ofNat a0_n) σ
-- X3_begin
def mX3_begin : Md := (RX3, cX3_begin, 3, none)
theorem mv_X3_begin : ag_Mv yX3_begin mX3_begin 2 := ⟨ag_co_X3_begin, ag_im_X3_begin, ag_se_X3_begin, ag_ini_X3, by decide +kernel⟩
theorem dX3_begin_0 : decode mX3_begin.2.1 0 = .ok (.aload_n 0, 1) := by decide +kernel
theorem dX3_begin_1 : decode mX3_begin.2.1 1 = .ok (.iconst 0, 1) := by decide +kernel
theorem dX3_begin_2 : decode mX3_begin.2.1 2 = .ok (.putfield 9, 3) := by decide +kernel
theorem dX3_begin_5 : decode mX3_begin.2.1 5 = .ok (.aload_n 0, 1) := by decide +kernel
theorem dX3_begin_6 : decode mX3_begin.2.1 6 = .ok (.iload_n 1, 1) := by decide +kernel
theorem dX3_begin_7 : decode mX3_begin.2.1 7 = .ok (.putfield 15, 3) := by decide +kernel
theorem dX3_begin_10 : decode mX3_begin.2.1 10 = .ok (.aload_n 0, 1) := by decide +kernel
theorem dX3_begin_11 : decode mX3_begin.2.1 11 = .ok (.iload_n 2, 1) := by decide +kernel
theorem dX3_begin_12 : decode mX3_begin.2.1 12 = .ok (.putfield 19, 3) := by decide +kernel
theorem dX3_begin_15 : decode mX3_begin.2.1 15 = .ok (.aload_n 0, 1) := by decide +kernel
theorem dX3_begin_16 : decode mX3_begin.2.1 16 = .ok (.getfield 22, 3) := by decide +kernel
theorem dX3_begin_19 : decode mX3_begin.2.1 19 = .ok (.iconst 0, 1) := by decide +kernel
theorem dX3_begin_20 : decode mX3_begin.2.1 20 = .ok (.invokestatic 26, 3) := by decide +kernel
theorem dX3_begin_23 : decode mX3_begin.2.1 23 = .ok (.return_, 1) := by decide +kernel
def fn_X3_begin (n : Nat) (b : Nat) (x1 : Int32) (x2 : Int32) (σ : Sg) : Option Sg :=
  (Option.bind (fn_J7_fill_53178 n (b + 1) 48 0 (ag_up (ag_up (ag_up σ b 0 0) b 1 x1) b 2 x2)) fun q2 =>
  (some q2))
set_option maxRecDepth 20000 in
set_option maxHeartbeats 4000000 in
theorem im_X3_begin (n : Nat) (b : Nat) (hb : ag_R b) (x1 : Int32) (x2 : Int32) (σ : Sg) : Im yX3_begin mX3_begin 1 23 jV [.ref b, .int x1, .int x2] σ (fn_X3_begin n b x1 x2 σ) := by
  refine Im.of (by decide +kernel) rfl (Nat.le_of_ble_eq_true rfl) ?_
  show Ev mX3_begin 1 23 jV 0 [(0, .ref b), (1, .int x1), (2, .int x2)] [] σ (fn_X3_begin n b x1 x2 σ)
  unfold fn_X3_begin
  refine ev_aload_n (pc := 0) (i := 0) 0 dX3_begin_0 rfl rfl ?_
  refine ev_iconst (pc := 1) (v := 0) dX3_begin_1 (by decide) ?_
  refine ev_put (pc := 2) 0 ag_C3 (ag_Rk hb).1 (ag_Rk hb).2 (Nat.le_of_ble_eq_true rfl) (ag_Rt0 hb) rfl ag_fl_X3_9 rfl rfl rfl dX3_begin_2 ?_
  refine ev_aload_n (pc := 5) (i := 0) 0 dX3_begin_5 rfl rfl ?_
  refine ev_iload_n (pc := 6) (i := 1) 1 dX3_begin_6 rfl rfl ?_
  refine ev_put (pc := 7) 1 ag_C3 (ag_Rk hb).1 (ag_Rk hb).2 (Nat.le_of_ble_eq_true rfl) (ag_Rt1 hb) rfl ag_fl_X3_15 rfl rfl rfl dX3_begin_7 ?_
  refine ev_aload_n (pc := 10) (i := 0) 0 dX3_begin_10 rfl rfl ?_
  refine ev_iload_n (pc := 11) (i := 2) 2 dX3_begin_11 rfl rfl ?_
  refine ev_put (pc := 12) 2 ag_C3 (ag_Rk hb).1 (ag_Rk hb).2 (Nat.le_of_ble_eq_true rfl) (ag_Rt2 hb) rfl ag_fl_X3_19 rfl rfl rfl dX3_begin_12 ?_
  refine ev_aload_n (pc := 15) (i := 0) 0 dX3_begin_15 rfl rfl ?_
  refine ev_getR (pc := 16) (t := (b + 1)) 3 ag_C3 (ag_Rk hb).1 (ag_Rk hb).2 (Nat.le_of_ble_eq_true rfl) (ag_Rt3 hb) rfl ag_fl_X3_22 dX3_begin_16 ?_
  refine ev_iconst (pc := 19) (v := 0) dX3_begin_19 (by decide) ?_
  refine ev_sV (pc := 20) (as := [.ref (b + 1), .int 0]) (rest := []) ⟨26, ms_J7_fill_53178, ag_ml_X3_26, rfl, (Nat.le_of_ble_eq_true rfl), ⟨(Nat.le_of_ble_eq_true rfl), (Nat.le_of_ble_eq_true rfl)⟩, dX3_begin_20⟩ (im_J7_fill_53178 n (b + 1) 48 ⟨(ag_Ra1 hb).1, (ag_Ra1 hb).2⟩ 0 (ag_up (ag_up (ag_up σ b 0 0) b 1 x1) b 2 x2)) (fun q2 => ?_)
  exact ev_ret (fun r h => by cases h; rfl) rfl dX3_begin_23
-- X6_isBelow
def mX6_isBelow : Md := (RX6, cX6_isBelow, 2, some .boolean)
theorem ms_X6_isBelow : ag_Ms yX6_isBelow mX6_isBelow 2 := ⟨ag_co_X6_isBelow, ag_st_X6_isBelow, ag_ini_X6, by decide +kernel⟩
theorem dX6_isBelow_0 : decode mX6_isBelow.2.1 0 = .ok (.iload_n 0, 1) := by decide +kernel
theorem dX6_isBelow_1 : decode mX6_isBelow.2.1 1 = .ok (.ifCond .lt 12, 3) := by decide +kernel
theorem dX6_isBelow_4 : decode mX6_isBelow.2.1 4 = .ok (.iload_n 0, 1) := by decide +kernel
theorem dX6_isBelow_5 : decode mX6_isBelow.2.1 5 = .ok (.iload_n 1, 1) := by decide +kernel
theorem dX6_isBelow_6 : decode mX6_isBelow.2.1 6 = .ok (.if_icmp .ge 7, 3) := by decide +kernel
theorem dX6_isBelow_9 : decode mX6_isBelow.2.1 9 = .ok (.iconst 1, 1) := by decide +kernel
theorem dX6_isBelow_10 : decode mX6_isBelow.2.1 10 = .ok (.goto 4, 3) := by decide +kernel
theorem dX6_isBelow_13 : decode mX6_isBelow.2.1 13 = .ok (.iconst 0, 1) := by decide +kernel
theorem dX6_isBelow_14 : decode mX6_isBelow.2.1 14 = .ok (.ireturn, 1) := by decide +kernel
def fn_X6_isBelow (x0 : Int32) (x1 : Int32) (σ : Sg) : Option Int32 :=
  (if x0 < 0 then (some 0)
  else (if x1 ≤ x0 then (some 0)
  else (some 1)))
set_option maxRecDepth 20000 in
set_option maxHeartbeats 4000000 in
theorem im_X6_isBelow (x0 : Int32) (x1 : Int32) (σ : Sg) : Im yX6_isBelow mX6_isBelow 0 0 (jI σ) [.int x0, .int x1] σ (fn_X6_isBelow x0 x1 σ) := by
  refine Im.of (by decide +kernel) rfl (Nat.le_of_ble_eq_true rfl) ?_
  show Ev mX6_isBelow 0 0 (jI σ) 0 [(0, .int x0), (1, .int x1)] [] σ (fn_X6_isBelow x0 x1 σ)
  unfold fn_X6_isBelow
  refine ev_iload_n (pc := 0) (i := 0) 0 dX6_isBelow_0 rfl rfl ?_
  refine ev_if_lt (pc := 1) (tgt := 13) dX6_isBelow_1 rfl ?_ ?_
  · refine ev_iconst (pc := 13) (v := 0) dX6_isBelow_13 (by decide) ?_
    exact ev_iret (ty := .boolean) (fun r h => by cases h; rfl) rfl rfl dX6_isBelow_14
  · refine ev_iload_n (pc := 4) (i := 0) 0 dX6_isBelow_4 rfl rfl ?_
    refine ev_iload_n (pc := 5) (i := 1) 1 dX6_isBelow_5 rfl rfl ?_
    refine ev_icmp_ge (pc := 6) (tgt := 13) dX6_isBelow_6 rfl ?_ ?_
    · refine ev_iconst (pc := 13) (v := 0) dX6_isBelow_13 (by decide) ?_
      exact ev_iret (ty := .boolean) (fun r h => by cases h; rfl) rfl rfl dX6_isBelow_14
    · refine ev_iconst (pc := 9) (v := 1) dX6_isBelow_9 (by decide) ?_
      refine ev_goto (pc := 10) (tgt := 14) dX6_isBelow_10 rfl ?_
      exact ev_iret (ty := .boolean) (fun r h => by cases h; rfl) rfl rfl dX6_isBelow_14
-- X3_findingAt
def mX3_findingAt : Md := (RX3, cX3_findingAt, 3, some .int)
theorem mv_X3_findingAt : ag_Mv yX3_findingAt mX3_findingAt 2 := ⟨ag_co_X3_findingAt, ag_im_X3_findingAt, ag_se_X3_findingAt, ag_ini_X3, by decide +kernel⟩
theorem dX3_findingAt_0 : decode mX3_findingAt.2.1 0 = .ok (.aload_n 0, 1) := by decide +kernel
theorem dX3_findingAt_1 : decode mX3_findingAt.2.1 1 = .ok (.getfield 9, 3) := by decide +kernel
theorem dX3_findingAt_4 : decode mX3_findingAt.2.1 4 = .ok (.ifCond .eq 5, 3) := by decide +kernel
theorem dX3_findingAt_7 : decode mX3_findingAt.2.1 7 = .ok (.iconst 1, 1) := by decide +kernel
theorem dX3_findingAt_8 : decode mX3_findingAt.2.1 8 = .ok (.ireturn, 1) := by decide +kernel
theorem dX3_findingAt_9 : decode mX3_findingAt.2.1 9 = .ok (.iload_n 1, 1) := by decide +kernel
theorem dX3_findingAt_10 : decode mX3_findingAt.2.1 10 = .ok (.aload_n 0, 1) := by decide +kernel
theorem dX3_findingAt_11 : decode mX3_findingAt.2.1 11 = .ok (.getfield 15, 3) := by decide +kernel
theorem dX3_findingAt_14 : decode mX3_findingAt.2.1 14 = .ok (.if_icmp .eq 5, 3) := by decide +kernel
theorem dX3_findingAt_17 : decode mX3_findingAt.2.1 17 = .ok (.iconst 3, 1) := by decide +kernel
theorem dX3_findingAt_18 : decode mX3_findingAt.2.1 18 = .ok (.ireturn, 1) := by decide +kernel
theorem dX3_findingAt_19 : decode mX3_findingAt.2.1 19 = .ok (.iload_n 2, 1) := by decide +kernel
theorem dX3_findingAt_20 : decode mX3_findingAt.2.1 20 = .ok (.aload_n 0, 1) := by decide +kernel
theorem dX3_findingAt_21 : decode mX3_findingAt.2.1 21 = .ok (.getfield 19, 3) := by decide +kernel
theorem dX3_findingAt_24 : decode mX3_findingAt.2.1 24 = .ok (.invokestatic 32, 3) := by decide +kernel
theorem dX3_findingAt_27 : decode mX3_findingAt.2.1 27 = .ok (.ifCond .eq 7, 3) := by decide +kernel
theorem dX3_findingAt_30 : decode mX3_findingAt.2.1 30 = .ok (.iconst 0, 1) := by decide +kernel
theorem dX3_findingAt_31 : decode mX3_findingAt.2.1 31 = .ok (.goto 4, 3) := by decide +kernel
theorem dX3_findingAt_34 : decode mX3_findingAt.2.1 34 = .ok (.iconst 2, 1) := by decide +kernel
theorem dX3_findingAt_35 : decode mX3_findingAt.2.1 35 = .ok (.ireturn, 1) := by decide +kernel
def fn_X3_findingAt (b : Nat) (x1 : Int32) (x2 : Int32) (σ : Sg) : Option Int32 :=
  (if (σ b 0) = 0 then (if x1 = (σ b 1) then (Option.bind (fn_X6_isBelow x2 (σ b 2) σ) fun q3 =>
  (if q3 = 0 then (some 2)
  else (some 0)))
  else (some 3))
  else (some 1))
set_option maxRecDepth 20000 in
set_option maxHeartbeats 4000000 in
theorem im_X3_findingAt (b : Nat) (hb : ag_R b) (x1 : Int32) (x2 : Int32) (σ : Sg) : Im yX3_findingAt mX3_findingAt 1 21 (jI σ) [.ref b, .int x1, .int x2] σ (fn_X3_findingAt b x1 x2 σ) := by
  refine Im.of (by decide +kernel) rfl (Nat.le_of_ble_eq_true rfl) ?_
  show Ev mX3_findingAt 1 21 (jI σ) 0 [(0, .ref b), (1, .int x1), (2, .int x2)] [] σ (fn_X3_findingAt b x1 x2 σ)
  unfold fn_X3_findingAt
  refine ev_aload_n (pc := 0) (i := 0) 0 dX3_findingAt_0 rfl rfl ?_
  refine ev_getI (pc := 1) 0 ag_C3 (ag_Rk hb).1 (ag_Rk hb).2 (Nat.le_of_ble_eq_true rfl) (ag_Rt0 hb) rfl ag_fl_X3_9 dX3_findingAt_1 ?_
  refine ev_if_eq (pc := 4) (tgt := 9) dX3_findingAt_4 rfl ?_ ?_
  · refine ev_iload_n (pc := 9) (i := 1) 1 dX3_findingAt_9 rfl rfl ?_
    refine ev_aload_n (pc := 10) (i := 0) 0 dX3_findingAt_10 rfl rfl ?_
    refine ev_getI (pc := 11) 1 ag_C3 (ag_Rk hb).1 (ag_Rk hb).2 (Nat.le_of_ble_eq_true rfl) (ag_Rt1 hb) rfl ag_fl_X3_15 dX3_findingAt_11 ?_
    refine ev_icmp_eq (pc := 14) (tgt := 19) dX3_findingAt_14 rfl ?_ ?_
    · refine ev_iload_n (pc := 19) (i := 2) 2 dX3_findingAt_19 rfl rfl ?_
      refine ev_aload_n (pc := 20) (i := 0) 0 dX3_findingAt_20 rfl rfl ?_
      refine ev_getI (pc := 21) 2 ag_C3 (ag_Rk hb).1 (ag_Rk hb).2 (Nat.le_of_ble_eq_true rfl) (ag_Rt2 hb) rfl ag_fl_X3_19 dX3_findingAt_21 ?_
      refine ev_nI (pc := 24) (as := [.int x2, .int (σ b 2)]) (rest := []) rfl ms_X6_isBelow rfl (Nat.le_of_ble_eq_true rfl) ⟨(Nat.le_of_ble_eq_true rfl), (Nat.le_of_ble_eq_true rfl)⟩ dX3_findingAt_24 (im_X6_isBelow x2 (σ b 2) σ) (fun q3 => ?_)
      refine ev_if_eq (pc := 27) (tgt := 34) dX3_findingAt_27 rfl ?_ ?_
      · refine ev_iconst (pc := 34) (v := 2) dX3_findingAt_34 (by decide) ?_
        exact ev_iret (ty := .int) (fun r h => by cases h; rfl) rfl rfl dX3_findingAt_35
      · refine ev_iconst (pc := 30) (v := 0) dX3_findingAt_30 (by decide) ?_
        refine ev_goto (pc := 31) (tgt := 35) dX3_findingAt_31 rfl ?_
        exact ev_iret (ty := .int) (fun r h => by cases h; rfl) rfl rfl dX3_findingAt_35
    · refine ev_iconst (pc := 17) (v := 3) dX3_findingAt_17 (by decide) ?_
      exact ev_iret (ty := .int) (fun r h => by cases h; rfl) rfl rfl dX3_findingAt_18
  · refine ev_iconst (pc := 7) (v := 1) dX3_findingAt_7 (by decide) ?_
    exact ev_iret (ty := .int) (fun r h => by cases h; rfl) rfl rfl dX3_findingAt_8
-- X3_hasStretch
def mX3_hasStretch : Md := (RX3, cX3_hasStretch, 3, some .boolean)
theorem mv_X3_hasStretch : ag_Mv yX3_hasStretch mX3_hasStretch 2 := ⟨ag_co_X3_hasStretch, ag_im_X3_hasStretch, ag_se_X3_hasStretch, ag_ini_X3, by decide +kernel⟩
theorem dX3_hasStretch_0 : decode mX3_hasStretch.2.1 0 = .ok (.iload_n 1, 1) := by decide +kernel
theorem dX3_hasStretch_1 : decode mX3_hasStretch.2.1 1 = .ok (.ifCond .lt 29, 3) := by decide +kernel
theorem dX3_hasStretch_4 : decode mX3_hasStretch.2.1 4 = .ok (.iload_n 2, 1) := by decide +kernel
theorem dX3_hasStretch_5 : decode mX3_hasStretch.2.1 5 = .ok (.ifCond .lt 25, 3) := by decide +kernel
theorem dX3_hasStretch_8 : decode mX3_hasStretch.2.1 8 = .ok (.iload_n 1, 1) := by decide +kernel
theorem dX3_hasStretch_9 : decode mX3_hasStretch.2.1 9 = .ok (.aload_n 0, 1) := by decide +kernel
theorem dX3_hasStretch_10 : decode mX3_hasStretch.2.1 10 = .ok (.getfield 19, 3) := by decide +kernel
theorem dX3_hasStretch_13 : decode mX3_hasStretch.2.1 13 = .ok (.if_icmp .gt 17, 3) := by decide +kernel
theorem dX3_hasStretch_16 : decode mX3_hasStretch.2.1 16 = .ok (.iload_n 2, 1) := by decide +kernel
theorem dX3_hasStretch_17 : decode mX3_hasStretch.2.1 17 = .ok (.aload_n 0, 1) := by decide +kernel
theorem dX3_hasStretch_18 : decode mX3_hasStretch.2.1 18 = .ok (.getfield 19, 3) := by decide +kernel
theorem dX3_hasStretch_21 : decode mX3_hasStretch.2.1 21 = .ok (.iload_n 1, 1) := by decide +kernel
theorem dX3_hasStretch_22 : decode mX3_hasStretch.2.1 22 = .ok (.isub, 1) := by decide +kernel
theorem dX3_hasStretch_23 : decode mX3_hasStretch.2.1 23 = .ok (.if_icmp .gt 7, 3) := by decide +kernel
theorem dX3_hasStretch_26 : decode mX3_hasStretch.2.1 26 = .ok (.iconst 1, 1) := by decide +kernel
theorem dX3_hasStretch_27 : decode mX3_hasStretch.2.1 27 = .ok (.goto 4, 3) := by decide +kernel
theorem dX3_hasStretch_30 : decode mX3_hasStretch.2.1 30 = .ok (.iconst 0, 1) := by decide +kernel
theorem dX3_hasStretch_31 : decode mX3_hasStretch.2.1 31 = .ok (.ireturn, 1) := by decide +kernel
def fn_X3_hasStretch (b : Nat) (x1 : Int32) (x2 : Int32) (σ : Sg) : Option Int32 :=
  (if x1 < 0 then (some 0)
  else (if x2 < 0 then (some 0)
  else (if (σ b 2) < x1 then (some 0)
  else (if ((σ b 2) - x1) < x2 then (some 0)
  else (some 1)))))
set_option maxRecDepth 20000 in
set_option maxHeartbeats 4000000 in
theorem im_X3_hasStretch (b : Nat) (hb : ag_R b) (x1 : Int32) (x2 : Int32) (σ : Sg) : Im yX3_hasStretch mX3_hasStretch 0 0 (jI σ) [.ref b, .int x1, .int x2] σ (fn_X3_hasStretch b x1 x2 σ) := by
  refine Im.of (by decide +kernel) rfl (Nat.le_of_ble_eq_true rfl) ?_
  show Ev mX3_hasStretch 0 0 (jI σ) 0 [(0, .ref b), (1, .int x1), (2, .int x2)] [] σ (fn_X3_hasStretch b x1 x2 σ)
  unfold fn_X3_hasStretch
  refine ev_iload_n (pc := 0) (i := 1) 1 dX3_hasStretch_0 rfl rfl ?_
  refine ev_if_lt (pc := 1) (tgt := 30) dX3_hasStretch_1 rfl ?_ ?_
  · refine ev_iconst (pc := 30) (v := 0) dX3_hasStretch_30 (by decide) ?_
    exact ev_iret (ty := .boolean) (fun r h => by cases h; rfl) rfl rfl dX3_hasStretch_31
  · refine ev_iload_n (pc := 4) (i := 2) 2 dX3_hasStretch_4 rfl rfl ?_
    refine ev_if_lt (pc := 5) (tgt := 30) dX3_hasStretch_5 rfl ?_ ?_
    · refine ev_iconst (pc := 30) (v := 0) dX3_hasStretch_30 (by decide) ?_
      exact ev_iret (ty := .boolean) (fun r h => by cases h; rfl) rfl rfl dX3_hasStretch_31
    · refine ev_iload_n (pc := 8) (i := 1) 1 dX3_hasStretch_8 rfl rfl ?_
      refine ev_aload_n (pc := 9) (i := 0) 0 dX3_hasStretch_9 rfl rfl ?_
      refine ev_getI (pc := 10) 2 ag_C3 (ag_Rk hb).1 (ag_Rk hb).2 (Nat.le_of_ble_eq_true rfl) (ag_Rt2 hb) rfl ag_fl_X3_19 dX3_hasStretch_10 ?_
      refine ev_icmp_gt (pc := 13) (tgt := 30) dX3_hasStretch_13 rfl ?_ ?_
      · refine ev_iconst (pc := 30) (v := 0) dX3_hasStretch_30 (by decide) ?_
        exact ev_iret (ty := .boolean) (fun r h => by cases h; rfl) rfl rfl dX3_hasStretch_31
      · refine ev_iload_n (pc := 16) (i := 2) 2 dX3_hasStretch_16 rfl rfl ?_
        refine ev_aload_n (pc := 17) (i := 0) 0 dX3_hasStretch_17 rfl rfl ?_
        refine ev_getI (pc := 18) 2 ag_C3 (ag_Rk hb).1 (ag_Rk hb).2 (Nat.le_of_ble_eq_true rfl) (ag_Rt2 hb) rfl ag_fl_X3_19 dX3_hasStretch_18 ?_
        refine ev_iload_n (pc := 21) (i := 1) 1 dX3_hasStretch_21 rfl rfl ?_
        refine ev_isub (pc := 22) dX3_hasStretch_22 ?_
        refine ev_icmp_gt (pc := 23) (tgt := 30) dX3_hasStretch_23 rfl ?_ ?_
        · refine ev_iconst (pc := 30) (v := 0) dX3_hasStretch_30 (by decide) ?_
          exact ev_iret (ty := .boolean) (fun r h => by cases h; rfl) rfl rfl dX3_hasStretch_31
        · refine ev_iconst (pc := 26) (v := 1) dX3_hasStretch_26 (by decide) ?_
          refine ev_goto (pc := 27) (tgt := 31) dX3_hasStretch_27 rfl ?_
          exact ev_iret (ty := .boolean) (fun r h => by cases h; rfl) rfl rfl dX3_hasStretch_31
-- X3_setItem
def mX3_setItem : Md := (RX3, cX3_setItem, 3, none)
theorem mv_X3_setItem : ag_Mv yX3_setItem mX3_setItem 2 := ⟨ag_co_X3_setItem, ag_im_X3_setItem, ag_se_X3_setItem, ag_ini_X3, by decide +kernel⟩
theorem dX3_setItem_0 : decode mX3_setItem.2.1 0 = .ok (.iload_n 1, 1) := by decide +kernel
theorem dX3_setItem_1 : decode mX3_setItem.2.1 1 = .ok (.aload_n 0, 1) := by decide +kernel
theorem dX3_setItem_2 : decode mX3_setItem.2.1 2 = .ok (.getfield 19, 3) := by decide +kernel
theorem dX3_setItem_5 : decode mX3_setItem.2.1 5 = .ok (.invokestatic 32, 3) := by decide +kernel
theorem dX3_setItem_8 : decode mX3_setItem.2.1 8 = .ok (.ifCond .ne 4, 3) := by decide +kernel
theorem dX3_setItem_11 : decode mX3_setItem.2.1 11 = .ok (.return_, 1) := by decide +kernel
theorem dX3_setItem_12 : decode mX3_setItem.2.1 12 = .ok (.aload_n 0, 1) := by decide +kernel
theorem dX3_setItem_13 : decode mX3_setItem.2.1 13 = .ok (.getfield 22, 3) := by decide +kernel
theorem dX3_setItem_16 : decode mX3_setItem.2.1 16 = .ok (.iload_n 1, 1) := by decide +kernel
theorem dX3_setItem_17 : decode mX3_setItem.2.1 17 = .ok (.aload_n 0, 1) := by decide +kernel
theorem dX3_setItem_18 : decode mX3_setItem.2.1 18 = .ok (.getfield 15, 3) := by decide +kernel
theorem dX3_setItem_21 : decode mX3_setItem.2.1 21 = .ok (.ifCond .ne 8, 3) := by decide +kernel
theorem dX3_setItem_24 : decode mX3_setItem.2.1 24 = .ok (.iload_n 2, 1) := by decide +kernel
theorem dX3_setItem_25 : decode mX3_setItem.2.1 25 = .ok (.i2b, 1) := by decide +kernel
theorem dX3_setItem_26 : decode mX3_setItem.2.1 26 = .ok (.goto 17, 3) := by decide +kernel
theorem dX3_setItem_29 : decode mX3_setItem.2.1 29 = .ok (.aload_n 0, 1) := by decide +kernel
theorem dX3_setItem_30 : decode mX3_setItem.2.1 30 = .ok (.getfield 15, 3) := by decide +kernel
theorem dX3_setItem_33 : decode mX3_setItem.2.1 33 = .ok (.iconst 1, 1) := by decide +kernel
theorem dX3_setItem_34 : decode mX3_setItem.2.1 34 = .ok (.if_icmp .ne 8, 3) := by decide +kernel
theorem dX3_setItem_37 : decode mX3_setItem.2.1 37 = .ok (.iload_n 2, 1) := by decide +kernel
theorem dX3_setItem_38 : decode mX3_setItem.2.1 38 = .ok (.i2s, 1) := by decide +kernel
theorem dX3_setItem_39 : decode mX3_setItem.2.1 39 = .ok (.goto 4, 3) := by decide +kernel
theorem dX3_setItem_42 : decode mX3_setItem.2.1 42 = .ok (.iload_n 2, 1) := by decide +kernel
theorem dX3_setItem_43 : decode mX3_setItem.2.1 43 = .ok (.iastore, 1) := by decide +kernel
theorem dX3_setItem_44 : decode mX3_setItem.2.1 44 = .ok (.return_, 1) := by decide +kernel
def fn_X3_setItem_b43 (b : Nat) (x1 : Int32) (x2 : Int32)  (s1 : Int32) (s2 : Int32) (σ : Sg) : Option Sg :=
  (if ag_ib s1 48 = true then (some (ag_up σ (b + 1) s1.toNatClampNeg s2)) else none)
set_option maxRecDepth 20000 in
set_option maxHeartbeats 4000000 in
theorem ev_X3_setItem_b43 (b : Nat) (hb : ag_R b) (x1 : Int32) (x2 : Int32)  (s1 : Int32) (s2 : Int32) (σ : Sg) : Ev mX3_setItem 1 21 jV 43 [(0, .ref b), (1, .int x1), (2, .int x2)] [.int s2, .int s1, .ref (b + 1)] σ (fn_X3_setItem_b43 b x1 x2 s1 s2 σ) := by
  unfold fn_X3_setItem_b43
  refine ev_iast (pc := 43) (ag_Ra1 hb).1 (ag_Ra1 hb).2 dX3_setItem_43 ?_
  exact ev_ret (fun r h => by cases h; rfl) rfl dX3_setItem_44
def fn_X3_setItem (b : Nat) (x1 : Int32) (x2 : Int32) (σ : Sg) : Option Sg :=
  (Option.bind (fn_X6_isBelow x1 (σ b 2) σ) fun q4 =>
  (if q4 = 0 then (some σ)
  else (if (σ b 1) = 0 then (fn_X3_setItem_b43 b x1 x2 x1 x2.toInt8.toInt32 σ)
  else (if (σ b 1) = 1 then (fn_X3_setItem_b43 b x1 x2 x1 x2.toInt16.toInt32 σ)
  else (fn_X3_setItem_b43 b x1 x2 x1 x2 σ)))))
set_option maxRecDepth 20000 in
set_option maxHeartbeats 4000000 in
theorem im_X3_setItem (b : Nat) (hb : ag_R b) (x1 : Int32) (x2 : Int32) (σ : Sg) : Im yX3_setItem mX3_setItem 1 21 jV [.ref b, .int x1, .int x2] σ (fn_X3_setItem b x1 x2 σ) := by
  refine Im.of (by decide +kernel) rfl (Nat.le_of_ble_eq_true rfl) ?_
  show Ev mX3_setItem 1 21 jV 0 [(0, .ref b), (1, .int x1), (2, .int x2)] [] σ (fn_X3_setItem b x1 x2 σ)
  unfold fn_X3_setItem
  refine ev_iload_n (pc := 0) (i := 1) 1 dX3_setItem_0 rfl rfl ?_
  refine ev_aload_n (pc := 1) (i := 0) 0 dX3_setItem_1 rfl rfl ?_
  refine ev_getI (pc := 2) 2 ag_C3 (ag_Rk hb).1 (ag_Rk hb).2 (Nat.le_of_ble_eq_true rfl) (ag_Rt2 hb) rfl ag_fl_X3_19 dX3_setItem_2 ?_
  refine ev_nI (pc := 5) (as := [.int x1, .int (σ b 2)]) (rest := []) rfl ms_X6_isBelow rfl (Nat.le_of_ble_eq_true rfl) ⟨(Nat.le_of_ble_eq_true rfl), (Nat.le_of_ble_eq_true rfl)⟩ dX3_setItem_5 (im_X6_isBelow x1 (σ b 2) σ) (fun q4 => ?_)
  refine ev_if_ne (pc := 8) (tgt := 12) dX3_setItem_8 rfl ?_ ?_
  · exact ev_ret (fun r h => by cases h; rfl) rfl dX3_setItem_11
  · refine ev_aload_n (pc := 12) (i := 0) 0 dX3_setItem_12 rfl rfl ?_
    refine ev_getR (pc := 13) (t := (b + 1)) 3 ag_C3 (ag_Rk hb).1 (ag_Rk hb).2 (Nat.le_of_ble_eq_true rfl) (ag_Rt3 hb) rfl ag_fl_X3_22 dX3_setItem_13 ?_
    refine ev_iload_n (pc := 16) (i := 1) 1 dX3_setItem_16 rfl rfl ?_
    refine ev_aload_n (pc := 17) (i := 0) 0 dX3_setItem_17 rfl rfl ?_
    refine ev_getI (pc := 18) 1 ag_C3 (ag_Rk hb).1 (ag_Rk hb).2 (Nat.le_of_ble_eq_true rfl) (ag_Rt1 hb) rfl ag_fl_X3_15 dX3_setItem_18 ?_
    refine ev_if_ne (pc := 21) (tgt := 29) dX3_setItem_21 rfl ?_ ?_
    · refine ev_iload_n (pc := 24) (i := 2) 2 dX3_setItem_24 rfl rfl ?_
      refine ev_i2b (pc := 25) dX3_setItem_25 ?_
      refine ev_goto (pc := 26) (tgt := 43) dX3_setItem_26 rfl ?_
      exact ev_X3_setItem_b43 b hb x1 x2 x1 x2.toInt8.toInt32 σ
    · refine ev_aload_n (pc := 29) (i := 0) 0 dX3_setItem_29 rfl rfl ?_
      refine ev_getI (pc := 30) 1 ag_C3 (ag_Rk hb).1 (ag_Rk hb).2 (Nat.le_of_ble_eq_true rfl) (ag_Rt1 hb) rfl ag_fl_X3_15 dX3_setItem_30 ?_
      refine ev_iconst (pc := 33) (v := 1) dX3_setItem_33 (by decide) ?_
      refine ev_icmp_ne (pc := 34) (tgt := 42) dX3_setItem_34 rfl ?_ ?_
      · refine ev_iload_n (pc := 37) (i := 2) 2 dX3_setItem_37 rfl rfl ?_
        refine ev_i2s (pc := 38) dX3_setItem_38 ?_
        refine ev_goto (pc := 39) (tgt := 43) dX3_setItem_39 rfl ?_
        exact ev_X3_setItem_b43 b hb x1 x2 x1 x2.toInt16.toInt32 σ
      · refine ev_iload_n (pc := 42) (i := 2) 2 dX3_setItem_42 rfl rfl ?_
        exact ev_X3_setItem_b43 b hb x1 x2 x1 x2 σ
-- X4_isFigure
def mX4_isFigure : Md := (RX4, cX4_isFigure, 1, some .boolean)
theorem ms_X4_isFigure : ag_Ms yX4_isFigure mX4_isFigure 1 := ⟨ag_co_X4_isFigure, ag_st_X4_isFigure, ag_ini_X4, by decide +kernel⟩
theorem dX4_isFigure_0 : decode mX4_isFigure.2.1 0 = .ok (.iload_n 0, 1) := by decide +kernel
theorem dX4_isFigure_1 : decode mX4_isFigure.2.1 1 = .ok (.bipush 48, 2) := by decide +kernel
theorem dX4_isFigure_3 : decode mX4_isFigure.2.1 3 = .ok (.if_icmp .lt 13, 3) := by decide +kernel
theorem dX4_isFigure_6 : decode mX4_isFigure.2.1 6 = .ok (.iload_n 0, 1) := by decide +kernel
theorem dX4_isFigure_7 : decode mX4_isFigure.2.1 7 = .ok (.bipush 57, 2) := by decide +kernel
theorem dX4_isFigure_9 : decode mX4_isFigure.2.1 9 = .ok (.if_icmp .gt 7, 3) := by decide +kernel
theorem dX4_isFigure_12 : decode mX4_isFigure.2.1 12 = .ok (.iconst 1, 1) := by decide +kernel
theorem dX4_isFigure_13 : decode mX4_isFigure.2.1 13 = .ok (.goto 4, 3) := by decide +kernel
theorem dX4_isFigure_16 : decode mX4_isFigure.2.1 16 = .ok (.iconst 0, 1) := by decide +kernel
theorem dX4_isFigure_17 : decode mX4_isFigure.2.1 17 = .ok (.ireturn, 1) := by decide +kernel
def fn_X4_isFigure (x0 : Int32) (σ : Sg) : Option Int32 :=
  (if x0 < 48 then (some 0)
  else (if 57 < x0 then (some 0)
  else (some 1)))
set_option maxRecDepth 20000 in
set_option maxHeartbeats 4000000 in
theorem im_X4_isFigure (x0 : Int32) (σ : Sg) : Im yX4_isFigure mX4_isFigure 0 0 (jI σ) [.int x0] σ (fn_X4_isFigure x0 σ) := by
  refine Im.of (by decide +kernel) rfl (Nat.le_of_ble_eq_true rfl) ?_
  show Ev mX4_isFigure 0 0 (jI σ) 0 [(0, .int x0)] [] σ (fn_X4_isFigure x0 σ)
  unfold fn_X4_isFigure
  refine ev_iload_n (pc := 0) (i := 0) 0 dX4_isFigure_0 rfl rfl ?_
  refine ev_bipush (pc := 1) (v := 48) dX4_isFigure_1 (by decide) ?_
  refine ev_icmp_lt (pc := 3) (tgt := 16) dX4_isFigure_3 rfl ?_ ?_
  · refine ev_iconst (pc := 16) (v := 0) dX4_isFigure_16 (by decide) ?_
    exact ev_iret (ty := .boolean) (fun r h => by cases h; rfl) rfl rfl dX4_isFigure_17
  · refine ev_iload_n (pc := 6) (i := 0) 0 dX4_isFigure_6 rfl rfl ?_
    refine ev_bipush (pc := 7) (v := 57) dX4_isFigure_7 (by decide) ?_
    refine ev_icmp_gt (pc := 9) (tgt := 16) dX4_isFigure_9 rfl ?_ ?_
    · refine ev_iconst (pc := 16) (v := 0) dX4_isFigure_16 (by decide) ?_
      exact ev_iret (ty := .boolean) (fun r h => by cases h; rfl) rfl rfl dX4_isFigure_17
    · refine ev_iconst (pc := 12) (v := 1) dX4_isFigure_12 (by decide) ?_
      refine ev_goto (pc := 13) (tgt := 17) dX4_isFigure_13 rfl ?_
      exact ev_iret (ty := .boolean) (fun r h => by cases h; rfl) rfl rfl dX4_isFigure_17
-- X4_goesOn
def mX4_goesOn : Md := (RX4, cX4_goesOn, 3, some .boolean)
theorem mv_X4_goesOn : ag_Mv yX4_goesOn mX4_goesOn 1 := ⟨ag_co_X4_goesOn, ag_im_X4_goesOn, ag_se_X4_goesOn, ag_ini_X4, by decide +kernel⟩
theorem dX4_goesOn_0 : decode mX4_goesOn.2.1 0 = .ok (.aload_n 0, 1) := by decide +kernel
theorem dX4_goesOn_1 : decode mX4_goesOn.2.1 1 = .ok (.getfield 11, 3) := by decide +kernel
theorem dX4_goesOn_4 : decode mX4_goesOn.2.1 4 = .ok (.iload_n 1, 1) := by decide +kernel
theorem dX4_goesOn_5 : decode mX4_goesOn.2.1 5 = .ok (.iaload, 1) := by decide +kernel
theorem dX4_goesOn_6 : decode mX4_goesOn.2.1 6 = .ok (.istore_n 2, 1) := by decide +kernel
theorem dX4_goesOn_7 : decode mX4_goesOn.2.1 7 = .ok (.iload_n 1, 1) := by decide +kernel
theorem dX4_goesOn_8 : decode mX4_goesOn.2.1 8 = .ok (.bipush 6, 2) := by decide +kernel
theorem dX4_goesOn_10 : decode mX4_goesOn.2.1 10 = .ok (.irem, 1) := by decide +kernel
theorem dX4_goesOn_11 : decode mX4_goesOn.2.1 11 = .ok (.tableswitch 93 3 5 #[25, 57, 81], 25) := by decide +kernel
theorem dX4_goesOn_36 : decode mX4_goesOn.2.1 36 = .ok (.iload_n 2, 1) := by decide +kernel
theorem dX4_goesOn_37 : decode mX4_goesOn.2.1 37 = .ok (.invokestatic 23, 3) := by decide +kernel
theorem dX4_goesOn_40 : decode mX4_goesOn.2.1 40 = .ok (.ifCond .eq 26, 3) := by decide +kernel
theorem dX4_goesOn_43 : decode mX4_goesOn.2.1 43 = .ok (.iload_n 2, 1) := by decide +kernel
theorem dX4_goesOn_44 : decode mX4_goesOn.2.1 44 = .ok (.bipush 48, 2) := by decide +kernel
theorem dX4_goesOn_46 : decode mX4_goesOn.2.1 46 = .ok (.if_icmp .ne 16, 3) := by decide +kernel
theorem dX4_goesOn_49 : decode mX4_goesOn.2.1 49 = .ok (.aload_n 0, 1) := by decide +kernel
theorem dX4_goesOn_50 : decode mX4_goesOn.2.1 50 = .ok (.getfield 11, 3) := by decide +kernel
theorem dX4_goesOn_53 : decode mX4_goesOn.2.1 53 = .ok (.iload_n 1, 1) := by decide +kernel
theorem dX4_goesOn_54 : decode mX4_goesOn.2.1 54 = .ok (.iconst 1, 1) := by decide +kernel
theorem dX4_goesOn_55 : decode mX4_goesOn.2.1 55 = .ok (.isub, 1) := by decide +kernel
theorem dX4_goesOn_56 : decode mX4_goesOn.2.1 56 = .ok (.iaload, 1) := by decide +kernel
theorem dX4_goesOn_57 : decode mX4_goesOn.2.1 57 = .ok (.bipush 48, 2) := by decide +kernel
theorem dX4_goesOn_59 : decode mX4_goesOn.2.1 59 = .ok (.if_icmp .eq 7, 3) := by decide +kernel
theorem dX4_goesOn_62 : decode mX4_goesOn.2.1 62 = .ok (.iconst 1, 1) := by decide +kernel
theorem dX4_goesOn_63 : decode mX4_goesOn.2.1 63 = .ok (.goto 4, 3) := by decide +kernel
theorem dX4_goesOn_66 : decode mX4_goesOn.2.1 66 = .ok (.iconst 0, 1) := by decide +kernel
theorem dX4_goesOn_67 : decode mX4_goesOn.2.1 67 = .ok (.ireturn, 1) := by decide +kernel
theorem dX4_goesOn_68 : decode mX4_goesOn.2.1 68 = .ok (.iload_n 2, 1) := by decide +kernel
theorem dX4_goesOn_69 : decode mX4_goesOn.2.1 69 = .ok (.bipush 111, 2) := by decide +kernel
theorem dX4_goesOn_71 : decode mX4_goesOn.2.1 71 = .ok (.if_icmp .eq 15, 3) := by decide +kernel
theorem dX4_goesOn_74 : decode mX4_goesOn.2.1 74 = .ok (.iload_n 2, 1) := by decide +kernel
theorem dX4_goesOn_75 : decode mX4_goesOn.2.1 75 = .ok (.bipush 101, 2) := by decide +kernel
theorem dX4_goesOn_77 : decode mX4_goesOn.2.1 77 = .ok (.if_icmp .eq 9, 3) := by decide +kernel
theorem dX4_goesOn_80 : decode mX4_goesOn.2.1 80 = .ok (.iload_n 2, 1) := by decide +kernel
theorem dX4_goesOn_81 : decode mX4_goesOn.2.1 81 = .ok (.bipush 102, 2) := by decide +kernel
theorem dX4_goesOn_83 : decode mX4_goesOn.2.1 83 = .ok (.if_icmp .ne 7, 3) := by decide +kernel
theorem dX4_goesOn_86 : decode mX4_goesOn.2.1 86 = .ok (.iconst 1, 1) := by decide +kernel
theorem dX4_goesOn_87 : decode mX4_goesOn.2.1 87 = .ok (.goto 4, 3) := by decide +kernel
theorem dX4_goesOn_90 : decode mX4_goesOn.2.1 90 = .ok (.iconst 0, 1) := by decide +kernel
theorem dX4_goesOn_91 : decode mX4_goesOn.2.1 91 = .ok (.ireturn, 1) := by decide +kernel
theorem dX4_goesOn_92 : decode mX4_goesOn.2.1 92 = .ok (.iload_n 2, 1) := by decide +kernel
theorem dX4_goesOn_93 : decode mX4_goesOn.2.1 93 = .ok (.bipush 59, 2) := by decide +kernel
theorem dX4_goesOn_95 : decode mX4_goesOn.2.1 95 = .ok (.if_icmp .ne 7, 3) := by decide +kernel
theorem dX4_goesOn_98 : decode mX4_goesOn.2.1 98 = .ok (.iconst 1, 1) := by decide +kernel
theorem dX4_goesOn_99 : decode mX4_goesOn.2.1 99 = .ok (.goto 4, 3) := by decide +kernel
theorem dX4_goesOn_102 : decode mX4_goesOn.2.1 102 = .ok (.iconst 0, 1) := by decide +kernel
theorem dX4_goesOn_103 : decode mX4_goesOn.2.1 103 = .ok (.ireturn, 1) := by decide +kernel
theorem dX4_goesOn_104 : decode mX4_goesOn.2.1 104 = .ok (.iload_n 2, 1) := by decide +kernel
theorem dX4_goesOn_105 : decode mX4_goesOn.2.1 105 = .ok (.invokestatic 23, 3) := by decide +kernel
theorem dX4_goesOn_108 : decode mX4_goesOn.2.1 108 = .ok (.ireturn, 1) := by decide +kernel
def fn_X4_goesOn_b86 (x1 : Int32) (σ : Sg)   : Option Int32 :=
  (some 1)
set_option maxRecDepth 20000 in
set_option maxHeartbeats 4000000 in
theorem ev_X4_goesOn_b86 (x1 : Int32) (σ : Sg)   : Ev mX4_goesOn 1 20 (jI σ) 86 [(0, .ref 1), (1, .int x1)] [] σ (fn_X4_goesOn_b86 x1 σ ) := by
  unfold fn_X4_goesOn_b86
  refine ev_iconst (pc := 86) (v := 1) dX4_goesOn_86 (by decide) ?_
  refine ev_goto (pc := 87) (tgt := 91) dX4_goesOn_87 rfl ?_
  exact ev_iret (ty := .boolean) (fun r h => by cases h; rfl) rfl rfl dX4_goesOn_91
def fn_X4_goesOn_b62 (x1 : Int32) (σ : Sg)   : Option Int32 :=
  (some 1)
set_option maxRecDepth 20000 in
set_option maxHeartbeats 4000000 in
theorem ev_X4_goesOn_b62 (x1 : Int32) (σ : Sg)   : Ev mX4_goesOn 1 20 (jI σ) 62 [(0, .ref 1), (1, .int x1)] [] σ (fn_X4_goesOn_b62 x1 σ ) := by
  unfold fn_X4_goesOn_b62
  refine ev_iconst (pc := 62) (v := 1) dX4_goesOn_62 (by decide) ?_
  refine ev_goto (pc := 63) (tgt := 67) dX4_goesOn_63 rfl ?_
  exact ev_iret (ty := .boolean) (fun r h => by cases h; rfl) rfl rfl dX4_goesOn_67
def fn_X4_goesOn (x1 : Int32) (σ : Sg) : Option Int32 :=
  (if ag_ib x1 59 = true then (if (x1 - x1 / 6 * 6) = 3 then (Option.bind (fn_X4_isFigure (σ 2 x1.toNatClampNeg) σ) fun q5 =>
  (if q5 = 0 then (some 0)
  else (if (σ 2 x1.toNatClampNeg) = 48 then (if ag_ib (x1 - 1) 59 = true then (if (σ 2 (x1 - 1).toNatClampNeg) = 48 then (some 0)
  else (fn_X4_goesOn_b62 x1 σ )) else none)
  else (fn_X4_goesOn_b62 x1 σ ))))
  else (if (x1 - x1 / 6 * 6) = 4 then (if (σ 2 x1.toNatClampNeg) = 111 then (fn_X4_goesOn_b86 x1 σ )
  else (if (σ 2 x1.toNatClampNeg) = 101 then (fn_X4_goesOn_b86 x1 σ )
  else (if (σ 2 x1.toNatClampNeg) = 102 then (fn_X4_goesOn_b86 x1 σ )
  else (some 0))))
  else (if (x1 - x1 / 6 * 6) = 5 then (if (σ 2 x1.toNatClampNeg) = 59 then (some 1)
  else (some 0))
  else (Option.bind (fn_X4_isFigure (σ 2 x1.toNatClampNeg) σ) fun q6 =>
  (if ag_bl q6 = true then (some q6) else none))))) else none)
set_option maxRecDepth 20000 in
set_option maxHeartbeats 4000000 in
theorem im_X4_goesOn (x1 : Int32) (σ : Sg) : Im yX4_goesOn mX4_goesOn 1 20 (jI σ) [.ref 1, .int x1] σ (fn_X4_goesOn x1 σ) := by
  refine Im.of (by decide +kernel) rfl (Nat.le_of_ble_eq_true rfl) ?_
  show Ev mX4_goesOn 1 20 (jI σ) 0 [(0, .ref 1), (1, .int x1)] [] σ (fn_X4_goesOn x1 σ)
  unfold fn_X4_goesOn
  refine ev_aload_n (pc := 0) (i := 0) 0 dX4_goesOn_0 rfl rfl ?_
  refine ev_getR (pc := 1) (t := 2) 0 ag_C4 (rfl) (by decide) (Nat.le_of_ble_eq_true rfl) rfl rfl ag_fl_X4_11 dX4_goesOn_1 ?_
  refine ev_iload_n (pc := 4) (i := 1) 1 dX4_goesOn_4 rfl rfl ?_
  refine ev_iald (pc := 5) (rfl) (by decide) dX4_goesOn_5 ?_
  refine ev_istore_n (pc := 6) (i := 2) (lv' := [(2, .int (σ 2 x1.toNatClampNeg)), (0, .ref 1), (1, .int x1)]) dX4_goesOn_6 rfl (Nat.le_of_ble_eq_true rfl) rfl ?_
  refine ev_iload_n (pc := 7) (i := 1) 2 dX4_goesOn_7 rfl rfl ?_
  refine ev_bipush (pc := 8) (v := 6) dX4_goesOn_8 (by decide) ?_
  refine ev_irem (pc := 10) dX4_goesOn_10 (by decide) ?_
  generalize hsw11 : (x1 - x1 / 6 * 6) = sw11
  refine ev_ite (fun hc0 => ?_) (fun hc0 => ?_)
  · rw [hc0]
    refine ev_tin (pc := 11) (tgt := 36) dX4_goesOn_11 (by decide) (by decide) rfl rfl ?_
    refine ev_iload_n (pc := 36) (i := 2) 0 dX4_goesOn_36 rfl rfl ?_
    refine ev_sI (pc := 37) (as := [.int (σ 2 x1.toNatClampNeg)]) (rest := []) ⟨23, ms_X4_isFigure, ag_ml_X4_23, rfl, (Nat.le_of_ble_eq_true rfl), ⟨(Nat.le_of_ble_eq_true rfl), (Nat.le_of_ble_eq_true rfl)⟩, dX4_goesOn_37⟩ (im_X4_isFigure (σ 2 x1.toNatClampNeg) σ) (fun q5 => ?_)
    refine ev_if_eq (pc := 40) (tgt := 66) dX4_goesOn_40 rfl ?_ ?_
    · refine ev_iconst (pc := 66) (v := 0) dX4_goesOn_66 (by decide) ?_
      exact ev_iret (ty := .boolean) (fun r h => by cases h; rfl) rfl rfl dX4_goesOn_67
    · refine ev_iload_n (pc := 43) (i := 2) 0 dX4_goesOn_43 rfl rfl ?_
      refine ev_bipush (pc := 44) (v := 48) dX4_goesOn_44 (by decide) ?_
      refine ev_icmp_ne (pc := 46) (tgt := 62) dX4_goesOn_46 rfl ?_ ?_
      · refine ev_aload_n (pc := 49) (i := 0) 1 dX4_goesOn_49 rfl rfl ?_
        refine ev_getR (pc := 50) (t := 2) 0 ag_C4 (rfl) (by decide) (Nat.le_of_ble_eq_true rfl) rfl rfl ag_fl_X4_11 dX4_goesOn_50 ?_
        refine ev_iload_n (pc := 53) (i := 1) 2 dX4_goesOn_53 rfl rfl ?_
        refine ev_iconst (pc := 54) (v := 1) dX4_goesOn_54 (by decide) ?_
        refine ev_isub (pc := 55) dX4_goesOn_55 ?_
        refine ev_iald (pc := 56) (rfl) (by decide) dX4_goesOn_56 ?_
        refine ev_bipush (pc := 57) (v := 48) dX4_goesOn_57 (by decide) ?_
        refine ev_icmp_eq (pc := 59) (tgt := 66) dX4_goesOn_59 rfl ?_ ?_
        · refine ev_iconst (pc := 66) (v := 0) dX4_goesOn_66 (by decide) ?_
          exact ev_iret (ty := .boolean) (fun r h => by cases h; rfl) rfl rfl dX4_goesOn_67
        · refine ev_sub [1, 2] rfl ?_
          exact ev_X4_goesOn_b62 x1 σ 
      · refine ev_sub [1, 2] rfl ?_
        exact ev_X4_goesOn_b62 x1 σ 
  · skip
    refine ev_ite (fun hc1 => ?_) (fun hc1 => ?_)
    · rw [hc1]
      refine ev_tin (pc := 11) (tgt := 68) dX4_goesOn_11 (by decide) (by decide) rfl rfl ?_
      refine ev_iload_n (pc := 68) (i := 2) 0 dX4_goesOn_68 rfl rfl ?_
      refine ev_bipush (pc := 69) (v := 111) dX4_goesOn_69 (by decide) ?_
      refine ev_icmp_eq (pc := 71) (tgt := 86) dX4_goesOn_71 rfl ?_ ?_
      · refine ev_sub [1, 2] rfl ?_
        exact ev_X4_goesOn_b86 x1 σ 
      · refine ev_iload_n (pc := 74) (i := 2) 0 dX4_goesOn_74 rfl rfl ?_
        refine ev_bipush (pc := 75) (v := 101) dX4_goesOn_75 (by decide) ?_
        refine ev_icmp_eq (pc := 77) (tgt := 86) dX4_goesOn_77 rfl ?_ ?_
        · refine ev_sub [1, 2] rfl ?_
          exact ev_X4_goesOn_b86 x1 σ 
        · refine ev_iload_n (pc := 80) (i := 2) 0 dX4_goesOn_80 rfl rfl ?_
          refine ev_bipush (pc := 81) (v := 102) dX4_goesOn_81 (by decide) ?_
          refine ev_icmp_ne (pc := 83) (tgt := 90) dX4_goesOn_83 rfl ?_ ?_
          · refine ev_sub [1, 2] rfl ?_
            exact ev_X4_goesOn_b86 x1 σ 
          · refine ev_iconst (pc := 90) (v := 0) dX4_goesOn_90 (by decide) ?_
            exact ev_iret (ty := .boolean) (fun r h => by cases h; rfl) rfl rfl dX4_goesOn_91
    · skip
      refine ev_ite (fun hc2 => ?_) (fun hc2 => ?_)
      · rw [hc2]
        refine ev_tin (pc := 11) (tgt := 92) dX4_goesOn_11 (by decide) (by decide) rfl rfl ?_
        refine ev_iload_n (pc := 92) (i := 2) 0 dX4_goesOn_92 rfl rfl ?_
        refine ev_bipush (pc := 93) (v := 59) dX4_goesOn_93 (by decide) ?_
        refine ev_icmp_ne (pc := 95) (tgt := 102) dX4_goesOn_95 rfl ?_ ?_
        · refine ev_iconst (pc := 98) (v := 1) dX4_goesOn_98 (by decide) ?_
          refine ev_goto (pc := 99) (tgt := 103) dX4_goesOn_99 rfl ?_
          exact ev_iret (ty := .boolean) (fun r h => by cases h; rfl) rfl rfl dX4_goesOn_103
        · refine ev_iconst (pc := 102) (v := 0) dX4_goesOn_102 (by decide) ?_
          exact ev_iret (ty := .boolean) (fun r h => by cases h; rfl) rfl rfl dX4_goesOn_103
      · have hn0 := lv_neT (a := 3) hc0 rfl
        have hn1 := lv_neT (a := 4) hc1 rfl
        have hn2 := lv_neT (a := 5) hc2 rfl
        refine ev_tout (pc := 11) (tgt := 104) dX4_goesOn_11 (by omega) rfl ?_
        refine ev_iload_n (pc := 104) (i := 2) 0 dX4_goesOn_104 rfl rfl ?_
        refine ev_sI (pc := 105) (as := [.int (σ 2 x1.toNatClampNeg)]) (rest := []) ⟨23, ms_X4_isFigure, ag_ml_X4_23, rfl, (Nat.le_of_ble_eq_true rfl), ⟨(Nat.le_of_ble_eq_true rfl), (Nat.le_of_ble_eq_true rfl)⟩, dX4_goesOn_105⟩ (im_X4_isFigure (σ 2 x1.toNatClampNeg) σ) (fun q6 => ?_)
        exact ev_zret (fun r h => by cases h; rfl) rfl dX4_goesOn_108
-- X4_firstFault
def mX4_firstFault : Md := (RX4, cX4_firstFault, 2, some .int)
theorem mv_X4_firstFault : ag_Mv yX4_firstFault mX4_firstFault 0 := ⟨ag_co_X4_firstFault, ag_im_X4_firstFault, ag_se_X4_firstFault, ag_ini_X4, by decide +kernel⟩
theorem dX4_firstFault_0 : decode mX4_firstFault.2.1 0 = .ok (.iconst 0, 1) := by decide +kernel
theorem dX4_firstFault_1 : decode mX4_firstFault.2.1 1 = .ok (.istore_n 1, 1) := by decide +kernel
theorem dX4_firstFault_2 : decode mX4_firstFault.2.1 2 = .ok (.iload_n 1, 1) := by decide +kernel
theorem dX4_firstFault_3 : decode mX4_firstFault.2.1 3 = .ok (.aload_n 0, 1) := by decide +kernel
theorem dX4_firstFault_4 : decode mX4_firstFault.2.1 4 = .ok (.getfield 15, 3) := by decide +kernel
theorem dX4_firstFault_7 : decode mX4_firstFault.2.1 7 = .ok (.if_icmp .ge 19, 3) := by decide +kernel
theorem dX4_firstFault_10 : decode mX4_firstFault.2.1 10 = .ok (.aload_n 0, 1) := by decide +kernel
theorem dX4_firstFault_11 : decode mX4_firstFault.2.1 11 = .ok (.iload_n 1, 1) := by decide +kernel
theorem dX4_firstFault_12 : decode mX4_firstFault.2.1 12 = .ok (.invokevirtual 19, 3) := by decide +kernel
theorem dX4_firstFault_15 : decode mX4_firstFault.2.1 15 = .ok (.ifCond .ne 5, 3) := by decide +kernel
theorem dX4_firstFault_18 : decode mX4_firstFault.2.1 18 = .ok (.iload_n 1, 1) := by decide +kernel
theorem dX4_firstFault_19 : decode mX4_firstFault.2.1 19 = .ok (.ireturn, 1) := by decide +kernel
theorem dX4_firstFault_20 : decode mX4_firstFault.2.1 20 = .ok (.iinc 1 1, 3) := by decide +kernel
theorem dX4_firstFault_23 : decode mX4_firstFault.2.1 23 = .ok (.goto (-21), 3) := by decide +kernel
theorem dX4_firstFault_26 : decode mX4_firstFault.2.1 26 = .ok (.aload_n 0, 1) := by decide +kernel
theorem dX4_firstFault_27 : decode mX4_firstFault.2.1 27 = .ok (.getfield 15, 3) := by decide +kernel
theorem dX4_firstFault_30 : decode mX4_firstFault.2.1 30 = .ok (.ifCond .eq 14, 3) := by decide +kernel
theorem dX4_firstFault_33 : decode mX4_firstFault.2.1 33 = .ok (.aload_n 0, 1) := by decide +kernel
theorem dX4_firstFault_34 : decode mX4_firstFault.2.1 34 = .ok (.getfield 15, 3) := by decide +kernel
theorem dX4_firstFault_37 : decode mX4_firstFault.2.1 37 = .ok (.bipush 6, 2) := by decide +kernel
theorem dX4_firstFault_39 : decode mX4_firstFault.2.1 39 = .ok (.irem, 1) := by decide +kernel
theorem dX4_firstFault_40 : decode mX4_firstFault.2.1 40 = .ok (.iconst 5, 1) := by decide +kernel
theorem dX4_firstFault_41 : decode mX4_firstFault.2.1 41 = .ok (.if_icmp .ne 7, 3) := by decide +kernel
theorem dX4_firstFault_44 : decode mX4_firstFault.2.1 44 = .ok (.iconst (-1), 1) := by decide +kernel
theorem dX4_firstFault_45 : decode mX4_firstFault.2.1 45 = .ok (.goto 7, 3) := by decide +kernel
theorem dX4_firstFault_48 : decode mX4_firstFault.2.1 48 = .ok (.aload_n 0, 1) := by decide +kernel
theorem dX4_firstFault_49 : decode mX4_firstFault.2.1 49 = .ok (.getfield 15, 3) := by decide +kernel
theorem dX4_firstFault_52 : decode mX4_firstFault.2.1 52 = .ok (.ireturn, 1) := by decide +kernel
def fn_X4_firstFault_b44 (n : Nat)  (σ : Sg)   : Option Int32 :=
  (some (-1))
set_option maxRecDepth 20000 in
set_option maxHeartbeats 4000000 in
theorem ev_X4_firstFault_b44 (n : Nat)  (σ : Sg)   : Ev mX4_firstFault 2 42 (jI σ) 44 [(0, .ref 1)] [] σ (fn_X4_firstFault_b44 n σ ) := by
  unfold fn_X4_firstFault_b44
  refine ev_iconst (pc := 44) (v := (-1)) dX4_firstFault_44 (by decide) ?_
  refine ev_goto (pc := 45) (tgt := 52) dX4_firstFault_45 rfl ?_
  exact ev_iret (ty := .int) (fun r h => by cases h; rfl) rfl rfl dX4_firstFault_52
def fn_X4_firstFault_b2 (n : Nat)  (σ : Sg)  : Nat → Int32 → Option Int32
  | 0 => fun _ => none
  | i + 1 => fun v1 =>
  (if (σ 1 1) ≤ v1 then (if (σ 1 1) = 0 then (fn_X4_firstFault_b44 n σ )
  else (if ((σ 1 1) - (σ 1 1) / 6 * 6) = 5 then (fn_X4_firstFault_b44 n σ )
  else (some (σ 1 1))))
  else (Option.bind (fn_X4_goesOn v1 σ) fun q7 =>
  (if q7 = 0 then (some v1)
  else ((fn_X4_firstFault_b2 n σ i) (v1 + 1)))))
theorem fn_X4_firstFault_b2_s (n : Nat)  (σ : Sg)  (i : Nat) (v1 : Int32) : fn_X4_firstFault_b2 n σ (i + 1) v1 =
  (if (σ 1 1) ≤ v1 then (if (σ 1 1) = 0 then (fn_X4_firstFault_b44 n σ )
  else (if ((σ 1 1) - (σ 1 1) / 6 * 6) = 5 then (fn_X4_firstFault_b44 n σ )
  else (some (σ 1 1))))
  else (Option.bind (fn_X4_goesOn v1 σ) fun q7 =>
  (if q7 = 0 then (some v1)
  else ((fn_X4_firstFault_b2 n σ i) (v1 + 1))))) := rfl
set_option maxRecDepth 20000 in
set_option maxHeartbeats 4000000 in
theorem ev_X4_firstFault_b2 (n : Nat)  (σ : Sg)  : ∀ (i : Nat) (v1 : Int32), Ev mX4_firstFault 2 42 (jI σ) 2 [(0, .ref 1), (1, .int v1)] [] σ (fn_X4_firstFault_b2 n σ i v1) := by
  intro i
  induction i with
  | zero =>
    intro v1
    exact ev_none
  | succ i ih =>
    intro v1
    rw [fn_X4_firstFault_b2_s]
    refine ev_iload_n (pc := 2) (i := 1) 1 dX4_firstFault_2 rfl rfl ?_
    refine ev_aload_n (pc := 3) (i := 0) 0 dX4_firstFault_3 rfl rfl ?_
    refine ev_getI (pc := 4) 1 ag_C4 (rfl) (by decide) (Nat.le_of_ble_eq_true rfl) rfl rfl ag_fl_X4_15 dX4_firstFault_4 ?_
    refine ev_icmp_ge (pc := 7) (tgt := 26) dX4_firstFault_7 rfl ?_ ?_
    · refine ev_aload_n (pc := 26) (i := 0) 0 dX4_firstFault_26 rfl rfl ?_
      refine ev_getI (pc := 27) 1 ag_C4 (rfl) (by decide) (Nat.le_of_ble_eq_true rfl) rfl rfl ag_fl_X4_15 dX4_firstFault_27 ?_
      refine ev_if_eq (pc := 30) (tgt := 44) dX4_firstFault_30 rfl ?_ ?_
      · refine ev_sub [0] rfl ?_
        exact ev_X4_firstFault_b44 n σ 
      · refine ev_aload_n (pc := 33) (i := 0) 0 dX4_firstFault_33 rfl rfl ?_
        refine ev_getI (pc := 34) 1 ag_C4 (rfl) (by decide) (Nat.le_of_ble_eq_true rfl) rfl rfl ag_fl_X4_15 dX4_firstFault_34 ?_
        refine ev_bipush (pc := 37) (v := 6) dX4_firstFault_37 (by decide) ?_
        refine ev_irem (pc := 39) dX4_firstFault_39 (by decide) ?_
        refine ev_iconst (pc := 40) (v := 5) dX4_firstFault_40 (by decide) ?_
        refine ev_icmp_ne (pc := 41) (tgt := 48) dX4_firstFault_41 rfl ?_ ?_
        · refine ev_sub [0] rfl ?_
          exact ev_X4_firstFault_b44 n σ 
        · refine ev_aload_n (pc := 48) (i := 0) 0 dX4_firstFault_48 rfl rfl ?_
          refine ev_getI (pc := 49) 1 ag_C4 (rfl) (by decide) (Nat.le_of_ble_eq_true rfl) rfl rfl ag_fl_X4_15 dX4_firstFault_49 ?_
          exact ev_iret (ty := .int) (fun r h => by cases h; rfl) rfl rfl dX4_firstFault_52
    · refine ev_aload_n (pc := 10) (i := 0) 0 dX4_firstFault_10 rfl rfl ?_
      refine ev_iload_n (pc := 11) (i := 1) 1 dX4_firstFault_11 rfl rfl ?_
      refine ev_vI (pc := 12) (as := [.int v1]) (rest := []) ⟨4, 19, 2, TX4, tyX4, ag_C4, ⟨(rfl), (by decide)⟩, mv_X4_goesOn, ag_ml_X4_19, rfl, (Nat.le_of_ble_eq_true rfl), ⟨(Nat.le_of_ble_eq_true rfl), (Nat.le_of_ble_eq_true rfl)⟩, dX4_firstFault_12⟩ (im_X4_goesOn v1 σ) (fun q7 => ?_)
      refine ev_if_ne (pc := 15) (tgt := 20) dX4_firstFault_15 rfl ?_ ?_
      · refine ev_iload_n (pc := 18) (i := 1) 1 dX4_firstFault_18 rfl rfl ?_
        exact ev_iret (ty := .int) (fun r h => by cases h; rfl) rfl rfl dX4_firstFault_19
      · refine ev_iinc (pc := 20) (v := (v1 + 1)) (lv' := [(1, .int (v1 + 1)), (0, .ref 1)]) 1 dX4_firstFault_20 rfl rfl (Nat.le_of_ble_eq_true rfl) rfl ?_
        refine ev_goto (pc := 23) (tgt := 2) dX4_firstFault_23 rfl ?_
        refine ev_sub [1, 0] rfl ?_
        exact ih (v1 + 1)
def fn_X4_firstFault (n : Nat)  (σ : Sg) : Option Int32 :=
  (fn_X4_firstFault_b2 n σ n 0)
set_option maxRecDepth 20000 in
set_option maxHeartbeats 4000000 in
theorem im_X4_firstFault (n : Nat)  (σ : Sg) : Im yX4_firstFault mX4_firstFault 2 42 (jI σ) [.ref 1] σ (fn_X4_firstFault n  σ) := by
  refine Im.of (by decide +kernel) rfl (Nat.le_of_ble_eq_true rfl) ?_
  show Ev mX4_firstFault 2 42 (jI σ) 0 [(0, .ref 1)] [] σ (fn_X4_firstFault n  σ)
  unfold fn_X4_firstFault
  refine ev_iconst (pc := 0) (v := 0) dX4_firstFault_0 (by decide) ?_
  refine ev_istore_n (pc := 1) (i := 1) (lv' := [(1, .int 0), (0, .ref 1)]) dX4_firstFault_1 rfl (Nat.le_of_ble_eq_true rfl) rfl ?_
  refine ev_sub [1, 0] rfl ?_
  exact ev_X4_firstFault_b2 n σ n 0
-- X4_twoFigures
def mX4_twoFigures : Md := (RX4, cX4_twoFigures, 2, some .int)
theorem mv_X4_twoFigures : ag_Mv yX4_twoFigures mX4_twoFigures 1 := ⟨ag_co_X4_twoFigures, ag_im_X4_twoFigures, ag_se_X4_twoFigures, ag_ini_X4, by decide +kernel⟩
theorem dX4_twoFigures_0 : decode mX4_twoFigures.2.1 0 = .ok (.aload_n 0, 1) := by decide +kernel
theorem dX4_twoFigures_1 : decode mX4_twoFigures.2.1 1 = .ok (.getfield 11, 3) := by decide +kernel
theorem dX4_twoFigures_4 : decode mX4_twoFigures.2.1 4 = .ok (.iload_n 1, 1) := by decide +kernel
theorem dX4_twoFigures_5 : decode mX4_twoFigures.2.1 5 = .ok (.iaload, 1) := by decide +kernel
theorem dX4_twoFigures_6 : decode mX4_twoFigures.2.1 6 = .ok (.bipush 48, 2) := by decide +kernel
theorem dX4_twoFigures_8 : decode mX4_twoFigures.2.1 8 = .ok (.isub, 1) := by decide +kernel
theorem dX4_twoFigures_9 : decode mX4_twoFigures.2.1 9 = .ok (.bipush 10, 2) := by decide +kernel
theorem dX4_twoFigures_11 : decode mX4_twoFigures.2.1 11 = .ok (.imul, 1) := by decide +kernel
theorem dX4_twoFigures_12 : decode mX4_twoFigures.2.1 12 = .ok (.aload_n 0, 1) := by decide +kernel
theorem dX4_twoFigures_13 : decode mX4_twoFigures.2.1 13 = .ok (.getfield 11, 3) := by decide +kernel
theorem dX4_twoFigures_16 : decode mX4_twoFigures.2.1 16 = .ok (.iload_n 1, 1) := by decide +kernel
theorem dX4_twoFigures_17 : decode mX4_twoFigures.2.1 17 = .ok (.iconst 1, 1) := by decide +kernel
theorem dX4_twoFigures_18 : decode mX4_twoFigures.2.1 18 = .ok (.iadd, 1) := by decide +kernel
theorem dX4_twoFigures_19 : decode mX4_twoFigures.2.1 19 = .ok (.iaload, 1) := by decide +kernel
theorem dX4_twoFigures_20 : decode mX4_twoFigures.2.1 20 = .ok (.iadd, 1) := by decide +kernel
theorem dX4_twoFigures_21 : decode mX4_twoFigures.2.1 21 = .ok (.bipush 48, 2) := by decide +kernel
theorem dX4_twoFigures_23 : decode mX4_twoFigures.2.1 23 = .ok (.isub, 1) := by decide +kernel
theorem dX4_twoFigures_24 : decode mX4_twoFigures.2.1 24 = .ok (.ireturn, 1) := by decide +kernel
def fn_X4_twoFigures (x1 : Int32) (σ : Sg) : Option Int32 :=
  (if ag_ib x1 59 = true then (if ag_ib (x1 + 1) 59 = true then (some (((((σ 2 x1.toNatClampNeg) - 48) * 10) + (σ 2 (x1 + 1).toNatClampNeg)) - 48)) else none) else none)
set_option maxRecDepth 20000 in
set_option maxHeartbeats 4000000 in
theorem im_X4_twoFigures (x1 : Int32) (σ : Sg) : Im yX4_twoFigures mX4_twoFigures 0 0 (jI σ) [.ref 1, .int x1] σ (fn_X4_twoFigures x1 σ) := by
  refine Im.of (by decide +kernel) rfl (Nat.le_of_ble_eq_true rfl) ?_
  show Ev mX4_twoFigures 0 0 (jI σ) 0 [(0, .ref 1), (1, .int x1)] [] σ (fn_X4_twoFigures x1 σ)
  unfold fn_X4_twoFigures
  refine ev_aload_n (pc := 0) (i := 0) 0 dX4_twoFigures_0 rfl rfl ?_
  refine ev_getR (pc := 1) (t := 2) 0 ag_C4 (rfl) (by decide) (Nat.le_of_ble_eq_true rfl) rfl rfl ag_fl_X4_11 dX4_twoFigures_1 ?_
  refine ev_iload_n (pc := 4) (i := 1) 1 dX4_twoFigures_4 rfl rfl ?_
  refine ev_iald (pc := 5) (rfl) (by decide) dX4_twoFigures_5 ?_
  refine ev_bipush (pc := 6) (v := 48) dX4_twoFigures_6 (by decide) ?_
  refine ev_isub (pc := 8) dX4_twoFigures_8 ?_
  refine ev_bipush (pc := 9) (v := 10) dX4_twoFigures_9 (by decide) ?_
  refine ev_imul (pc := 11) dX4_twoFigures_11 ?_
  refine ev_aload_n (pc := 12) (i := 0) 0 dX4_twoFigures_12 rfl rfl ?_
  refine ev_getR (pc := 13) (t := 2) 0 ag_C4 (rfl) (by decide) (Nat.le_of_ble_eq_true rfl) rfl rfl ag_fl_X4_11 dX4_twoFigures_13 ?_
  refine ev_iload_n (pc := 16) (i := 1) 1 dX4_twoFigures_16 rfl rfl ?_
  refine ev_iconst (pc := 17) (v := 1) dX4_twoFigures_17 (by decide) ?_
  refine ev_iadd (pc := 18) dX4_twoFigures_18 ?_
  refine ev_iald (pc := 19) (rfl) (by decide) dX4_twoFigures_19 ?_
  refine ev_iadd (pc := 20) dX4_twoFigures_20 ?_
  refine ev_bipush (pc := 21) (v := 48) dX4_twoFigures_21 (by decide) ?_
  refine ev_isub (pc := 23) dX4_twoFigures_23 ?_
  exact ev_iret (ty := .int) (fun r h => by cases h; rfl) rfl rfl dX4_twoFigures_24
-- X4_tellPeople
def mX4_tellPeople : Md := (RX4, cX4_tellPeople, 5, none)
theorem mv_X4_tellPeople : ag_Mv yX4_tellPeople mX4_tellPeople 1 := ⟨ag_co_X4_tellPeople, ag_im_X4_tellPeople, ag_se_X4_tellPeople, ag_ini_X4, by decide +kernel⟩
theorem dX4_tellPeople_0 : decode mX4_tellPeople.2.1 0 = .ok (.aload_n 1, 1) := by decide +kernel
theorem dX4_tellPeople_1 : decode mX4_tellPeople.2.1 1 = .ok (.aload_n 0, 1) := by decide +kernel
theorem dX4_tellPeople_2 : decode mX4_tellPeople.2.1 2 = .ok (.invokevirtual 26, 3) := by decide +kernel
theorem dX4_tellPeople_5 : decode mX4_tellPeople.2.1 5 = .ok (.iconst (-1), 1) := by decide +kernel
theorem dX4_tellPeople_6 : decode mX4_tellPeople.2.1 6 = .ok (.if_icmp .ne 15, 3) := by decide +kernel
theorem dX4_tellPeople_9 : decode mX4_tellPeople.2.1 9 = .ok (.aload_n 0, 1) := by decide +kernel
theorem dX4_tellPeople_10 : decode mX4_tellPeople.2.1 10 = .ok (.getfield 15, 3) := by decide +kernel
theorem dX4_tellPeople_13 : decode mX4_tellPeople.2.1 13 = .ok (.iconst 1, 1) := by decide +kernel
theorem dX4_tellPeople_14 : decode mX4_tellPeople.2.1 14 = .ok (.iadd, 1) := by decide +kernel
theorem dX4_tellPeople_15 : decode mX4_tellPeople.2.1 15 = .ok (.bipush 6, 2) := by decide +kernel
theorem dX4_tellPeople_17 : decode mX4_tellPeople.2.1 17 = .ok (.idiv, 1) := by decide +kernel
theorem dX4_tellPeople_18 : decode mX4_tellPeople.2.1 18 = .ok (.goto 4, 3) := by decide +kernel
theorem dX4_tellPeople_21 : decode mX4_tellPeople.2.1 21 = .ok (.iconst 0, 1) := by decide +kernel
theorem dX4_tellPeople_22 : decode mX4_tellPeople.2.1 22 = .ok (.putfield 30, 3) := by decide +kernel
theorem dX4_tellPeople_25 : decode mX4_tellPeople.2.1 25 = .ok (.iconst 0, 1) := by decide +kernel
theorem dX4_tellPeople_26 : decode mX4_tellPeople.2.1 26 = .ok (.istore_n 2, 1) := by decide +kernel
theorem dX4_tellPeople_27 : decode mX4_tellPeople.2.1 27 = .ok (.iload_n 2, 1) := by decide +kernel
theorem dX4_tellPeople_28 : decode mX4_tellPeople.2.1 28 = .ok (.aload_n 1, 1) := by decide +kernel
theorem dX4_tellPeople_29 : decode mX4_tellPeople.2.1 29 = .ok (.getfield 30, 3) := by decide +kernel
theorem dX4_tellPeople_32 : decode mX4_tellPeople.2.1 32 = .ok (.if_icmp .ge 95, 3) := by decide +kernel
theorem dX4_tellPeople_35 : decode mX4_tellPeople.2.1 35 = .ok (.iload_n 2, 1) := by decide +kernel
theorem dX4_tellPeople_36 : decode mX4_tellPeople.2.1 36 = .ok (.bipush 6, 2) := by decide +kernel
theorem dX4_tellPeople_38 : decode mX4_tellPeople.2.1 38 = .ok (.imul, 1) := by decide +kernel
theorem dX4_tellPeople_39 : decode mX4_tellPeople.2.1 39 = .ok (.istore_n 3, 1) := by decide +kernel
theorem dX4_tellPeople_40 : decode mX4_tellPeople.2.1 40 = .ok (.aload_n 0, 1) := by decide +kernel
theorem dX4_tellPeople_41 : decode mX4_tellPeople.2.1 41 = .ok (.getfield 11, 3) := by decide +kernel
theorem dX4_tellPeople_44 : decode mX4_tellPeople.2.1 44 = .ok (.iload_n 3, 1) := by decide +kernel
theorem dX4_tellPeople_45 : decode mX4_tellPeople.2.1 45 = .ok (.iconst 4, 1) := by decide +kernel
theorem dX4_tellPeople_46 : decode mX4_tellPeople.2.1 46 = .ok (.iadd, 1) := by decide +kernel
theorem dX4_tellPeople_47 : decode mX4_tellPeople.2.1 47 = .ok (.iaload, 1) := by decide +kernel
theorem dX4_tellPeople_48 : decode mX4_tellPeople.2.1 48 = .ok (.istore 4, 2) := by decide +kernel
theorem dX4_tellPeople_50 : decode mX4_tellPeople.2.1 50 = .ok (.aload_n 1, 1) := by decide +kernel
theorem dX4_tellPeople_51 : decode mX4_tellPeople.2.1 51 = .ok (.getfield 35, 3) := by decide +kernel
theorem dX4_tellPeople_54 : decode mX4_tellPeople.2.1 54 = .ok (.iload_n 2, 1) := by decide +kernel
theorem dX4_tellPeople_55 : decode mX4_tellPeople.2.1 55 = .ok (.aload_n 0, 1) := by decide +kernel
theorem dX4_tellPeople_56 : decode mX4_tellPeople.2.1 56 = .ok (.iload_n 3, 1) := by decide +kernel
theorem dX4_tellPeople_57 : decode mX4_tellPeople.2.1 57 = .ok (.invokevirtual 38, 3) := by decide +kernel
theorem dX4_tellPeople_60 : decode mX4_tellPeople.2.1 60 = .ok (.iastore, 1) := by decide +kernel
theorem dX4_tellPeople_61 : decode mX4_tellPeople.2.1 61 = .ok (.aload_n 1, 1) := by decide +kernel
theorem dX4_tellPeople_62 : decode mX4_tellPeople.2.1 62 = .ok (.getfield 42, 3) := by decide +kernel
theorem dX4_tellPeople_65 : decode mX4_tellPeople.2.1 65 = .ok (.iload_n 2, 1) := by decide +kernel
theorem dX4_tellPeople_66 : decode mX4_tellPeople.2.1 66 = .ok (.aload_n 0, 1) := by decide +kernel
theorem dX4_tellPeople_67 : decode mX4_tellPeople.2.1 67 = .ok (.iload_n 3, 1) := by decide +kernel
theorem dX4_tellPeople_68 : decode mX4_tellPeople.2.1 68 = .ok (.iconst 2, 1) := by decide +kernel
theorem dX4_tellPeople_69 : decode mX4_tellPeople.2.1 69 = .ok (.iadd, 1) := by decide +kernel
theorem dX4_tellPeople_70 : decode mX4_tellPeople.2.1 70 = .ok (.invokevirtual 38, 3) := by decide +kernel
theorem dX4_tellPeople_73 : decode mX4_tellPeople.2.1 73 = .ok (.iastore, 1) := by decide +kernel
theorem dX4_tellPeople_74 : decode mX4_tellPeople.2.1 74 = .ok (.aload_n 1, 1) := by decide +kernel
theorem dX4_tellPeople_75 : decode mX4_tellPeople.2.1 75 = .ok (.getfield 45, 3) := by decide +kernel
theorem dX4_tellPeople_78 : decode mX4_tellPeople.2.1 78 = .ok (.iload_n 2, 1) := by decide +kernel
theorem dX4_tellPeople_79 : decode mX4_tellPeople.2.1 79 = .ok (.iload 4, 2) := by decide +kernel
theorem dX4_tellPeople_81 : decode mX4_tellPeople.2.1 81 = .ok (.bipush 101, 2) := by decide +kernel
theorem dX4_tellPeople_83 : decode mX4_tellPeople.2.1 83 = .ok (.if_icmp .ne 7, 3) := by decide +kernel
theorem dX4_tellPeople_86 : decode mX4_tellPeople.2.1 86 = .ok (.iconst 1, 1) := by decide +kernel
theorem dX4_tellPeople_87 : decode mX4_tellPeople.2.1 87 = .ok (.goto 15, 3) := by decide +kernel
theorem dX4_tellPeople_90 : decode mX4_tellPeople.2.1 90 = .ok (.iload 4, 2) := by decide +kernel
theorem dX4_tellPeople_92 : decode mX4_tellPeople.2.1 92 = .ok (.bipush 102, 2) := by decide +kernel
theorem dX4_tellPeople_94 : decode mX4_tellPeople.2.1 94 = .ok (.if_icmp .ne 7, 3) := by decide +kernel
theorem dX4_tellPeople_97 : decode mX4_tellPeople.2.1 97 = .ok (.iconst 2, 1) := by decide +kernel
theorem dX4_tellPeople_98 : decode mX4_tellPeople.2.1 98 = .ok (.goto 4, 3) := by decide +kernel
theorem dX4_tellPeople_101 : decode mX4_tellPeople.2.1 101 = .ok (.iconst 0, 1) := by decide +kernel
theorem dX4_tellPeople_102 : decode mX4_tellPeople.2.1 102 = .ok (.iastore, 1) := by decide +kernel
theorem dX4_tellPeople_103 : decode mX4_tellPeople.2.1 103 = .ok (.aload_n 1, 1) := by decide +kernel
theorem dX4_tellPeople_104 : decode mX4_tellPeople.2.1 104 = .ok (.getfield 48, 3) := by decide +kernel
theorem dX4_tellPeople_107 : decode mX4_tellPeople.2.1 107 = .ok (.iload_n 2, 1) := by decide +kernel
theorem dX4_tellPeople_108 : decode mX4_tellPeople.2.1 108 = .ok (.iload 4, 2) := by decide +kernel
theorem dX4_tellPeople_110 : decode mX4_tellPeople.2.1 110 = .ok (.bipush 102, 2) := by decide +kernel
theorem dX4_tellPeople_112 : decode mX4_tellPeople.2.1 112 = .ok (.if_icmp .ne 7, 3) := by decide +kernel
theorem dX4_tellPeople_115 : decode mX4_tellPeople.2.1 115 = .ok (.iconst 5, 1) := by decide +kernel
theorem dX4_tellPeople_116 : decode mX4_tellPeople.2.1 116 = .ok (.goto 4, 3) := by decide +kernel
theorem dX4_tellPeople_119 : decode mX4_tellPeople.2.1 119 = .ok (.iconst 0, 1) := by decide +kernel
theorem dX4_tellPeople_120 : decode mX4_tellPeople.2.1 120 = .ok (.iastore, 1) := by decide +kernel
theorem dX4_tellPeople_121 : decode mX4_tellPeople.2.1 121 = .ok (.iinc 2 1, 3) := by decide +kernel
theorem dX4_tellPeople_124 : decode mX4_tellPeople.2.1 124 = .ok (.goto (-97), 3) := by decide +kernel
theorem dX4_tellPeople_127 : decode mX4_tellPeople.2.1 127 = .ok (.return_, 1) := by decide +kernel
def fn_X4_tellPeople_b120 (n : Nat) (b1 : Nat) (k27 : Int32 → Sg → Option Sg) (v2 : Int32) (s1 : Int32) (s2 : Int32) (σ : Sg) : Option Sg :=
  (if ag_ib s1 10 = true then (k27 (v2 + 1) (ag_up σ (b1 + 4) s1.toNatClampNeg s2)) else none)
set_option maxRecDepth 20000 in
set_option maxHeartbeats 4000000 in
theorem ev_X4_tellPeople_b120 (n : Nat) (b1 : Nat) (hb1 : ag_F b1) (k27 : Int32 → Sg → Option Sg) (hk27 : ∀ (v2 : Int32) (σ : Sg), Ev mX4_tellPeople 3 63 jV 27 [(0, .ref 1), (1, .ref b1), (2, .int v2)] [] σ (k27 v2 σ)) (v2 : Int32) (s1 : Int32) (s2 : Int32) (σ : Sg) : Ev mX4_tellPeople 3 63 jV 120 [(0, .ref 1), (1, .ref b1), (2, .int v2)] [.int s2, .int s1, .ref (b1 + 4)] σ (fn_X4_tellPeople_b120 n b1 k27 v2 s1 s2 σ) := by
  unfold fn_X4_tellPeople_b120
  refine ev_iast (pc := 120) (ag_Fa4 hb1).1 (ag_Fa4 hb1).2 dX4_tellPeople_120 ?_
  refine ev_iinc (pc := 121) (v := (v2 + 1)) (lv' := [(2, .int (v2 + 1)), (0, .ref 1), (1, .ref b1)]) 2 dX4_tellPeople_121 rfl rfl (Nat.le_of_ble_eq_true rfl) rfl ?_
  refine ev_goto (pc := 124) (tgt := 27) dX4_tellPeople_124 rfl ?_
  refine ev_sub [1, 2, 0] rfl ?_
  exact hk27 (v2 + 1) (ag_up σ (b1 + 4) s1.toNatClampNeg s2)
def fn_X4_tellPeople_b102 (n : Nat) (b1 : Nat) (k27 : Int32 → Sg → Option Sg) (v2 : Int32) (v4 : Int32) (s1 : Int32) (s2 : Int32) (σ : Sg) : Option Sg :=
  (if ag_ib s1 10 = true then (if v4 = 102 then (fn_X4_tellPeople_b120 n b1 k27 v2 v2 5 (ag_up σ (b1 + 3) s1.toNatClampNeg s2))
  else (fn_X4_tellPeople_b120 n b1 k27 v2 v2 0 (ag_up σ (b1 + 3) s1.toNatClampNeg s2))) else none)
set_option maxRecDepth 20000 in
set_option maxHeartbeats 4000000 in
theorem ev_X4_tellPeople_b102 (n : Nat) (b1 : Nat) (hb1 : ag_F b1) (k27 : Int32 → Sg → Option Sg) (hk27 : ∀ (v2 : Int32) (σ : Sg), Ev mX4_tellPeople 3 63 jV 27 [(0, .ref 1), (1, .ref b1), (2, .int v2)] [] σ (k27 v2 σ)) (v2 : Int32) (v4 : Int32) (s1 : Int32) (s2 : Int32) (σ : Sg) : Ev mX4_tellPeople 3 63 jV 102 [(0, .ref 1), (1, .ref b1), (2, .int v2), (4, .int v4)] [.int s2, .int s1, .ref (b1 + 3)] σ (fn_X4_tellPeople_b102 n b1 k27 v2 v4 s1 s2 σ) := by
  unfold fn_X4_tellPeople_b102
  refine ev_iast (pc := 102) (ag_Fa3 hb1).1 (ag_Fa3 hb1).2 dX4_tellPeople_102 ?_
  refine ev_aload_n (pc := 103) (i := 1) 1 dX4_tellPeople_103 rfl rfl ?_
  refine ev_getR (pc := 104) (t := (b1 + 4)) 4 ag_C1 (ag_Fk hb1).1 (ag_Fk hb1).2 (Nat.le_of_ble_eq_true rfl) (ag_Ft4 hb1) rfl ag_fl_X4_48 dX4_tellPeople_104 ?_
  refine ev_iload_n (pc := 107) (i := 2) 2 dX4_tellPeople_107 rfl rfl ?_
  refine ev_iload (pc := 108) 3 dX4_tellPeople_108 rfl ?_
  refine ev_bipush (pc := 110) (v := 102) dX4_tellPeople_110 (by decide) ?_
  refine ev_icmp_ne (pc := 112) (tgt := 119) dX4_tellPeople_112 rfl ?_ ?_
  · refine ev_iconst (pc := 115) (v := 5) dX4_tellPeople_115 (by decide) ?_
    refine ev_goto (pc := 116) (tgt := 120) dX4_tellPeople_116 rfl ?_
    refine ev_sub [0, 1, 2] rfl ?_
    exact ev_X4_tellPeople_b120 n b1 hb1 k27 hk27 v2 v2 5 (ag_up σ (b1 + 3) s1.toNatClampNeg s2)
  · refine ev_iconst (pc := 119) (v := 0) dX4_tellPeople_119 (by decide) ?_
    refine ev_sub [0, 1, 2] rfl ?_
    exact ev_X4_tellPeople_b120 n b1 hb1 k27 hk27 v2 v2 0 (ag_up σ (b1 + 3) s1.toNatClampNeg s2)
def fn_X4_tellPeople_b27 (n : Nat) (b1 : Nat)  : Nat → Int32 → Sg → Option Sg
  | 0 => fun _ _ => none
  | i + 1 => fun v2 σ =>
  (if (σ b1 0) ≤ v2 then (some σ)
  else (if ag_ib ((v2 * 6) + 4) 59 = true then (Option.bind (fn_X4_twoFigures (v2 * 6) σ) fun q8 =>
  (if ag_ib v2 10 = true then (Option.bind (fn_X4_twoFigures ((v2 * 6) + 2) (ag_up σ (b1 + 1) v2.toNatClampNeg q8)) fun q9 =>
  (if ag_ib v2 10 = true then (if (σ 2 ((v2 * 6) + 4).toNatClampNeg) = 101 then (fn_X4_tellPeople_b102 n b1 (fn_X4_tellPeople_b27 n b1 i) v2 (σ 2 ((v2 * 6) + 4).toNatClampNeg) v2 1 (ag_up (ag_up σ (b1 + 1) v2.toNatClampNeg q8) (b1 + 2) v2.toNatClampNeg q9))
  else (if (σ 2 ((v2 * 6) + 4).toNatClampNeg) = 102 then (fn_X4_tellPeople_b102 n b1 (fn_X4_tellPeople_b27 n b1 i) v2 (σ 2 ((v2 * 6) + 4).toNatClampNeg) v2 2 (ag_up (ag_up σ (b1 + 1) v2.toNatClampNeg q8) (b1 + 2) v2.toNatClampNeg q9))
  else (fn_X4_tellPeople_b102 n b1 (fn_X4_tellPeople_b27 n b1 i) v2 (σ 2 ((v2 * 6) + 4).toNatClampNeg) v2 0 (ag_up (ag_up σ (b1 + 1) v2.toNatClampNeg q8) (b1 + 2) v2.toNatClampNeg q9)))) else none)) else none)) else none))
theorem fn_X4_tellPeople_b27_s (n : Nat) (b1 : Nat)  (i : Nat) (v2 : Int32) (σ : Sg) : fn_X4_tellPeople_b27 n b1 (i + 1) v2 σ =
  (if (σ b1 0) ≤ v2 then (some σ)
  else (if ag_ib ((v2 * 6) + 4) 59 = true then (Option.bind (fn_X4_twoFigures (v2 * 6) σ) fun q8 =>
  (if ag_ib v2 10 = true then (Option.bind (fn_X4_twoFigures ((v2 * 6) + 2) (ag_up σ (b1 + 1) v2.toNatClampNeg q8)) fun q9 =>
  (if ag_ib v2 10 = true then (if (σ 2 ((v2 * 6) + 4).toNatClampNeg) = 101 then (fn_X4_tellPeople_b102 n b1 (fn_X4_tellPeople_b27 n b1 i) v2 (σ 2 ((v2 * 6) + 4).toNatClampNeg) v2 1 (ag_up (ag_up σ (b1 + 1) v2.toNatClampNeg q8) (b1 + 2) v2.toNatClampNeg q9))
  else (if (σ 2 ((v2 * 6) + 4).toNatClampNeg) = 102 then (fn_X4_tellPeople_b102 n b1 (fn_X4_tellPeople_b27 n b1 i) v2 (σ 2 ((v2 * 6) + 4).toNatClampNeg) v2 2 (ag_up (ag_up σ (b1 + 1) v2.toNatClampNeg q8) (b1 + 2) v2.toNatClampNeg q9))
  else (fn_X4_tellPeople_b102 n b1 (fn_X4_tellPeople_b27 n b1 i) v2 (σ 2 ((v2 * 6) + 4).toNatClampNeg) v2 0 (ag_up (ag_up σ (b1 + 1) v2.toNatClampNeg q8) (b1 + 2) v2.toNatClampNeg q9)))) else none)) else none)) else none)) := rfl
set_option maxRecDepth 20000 in
set_option maxHeartbeats 4000000 in
theorem ev_X4_tellPeople_b27 (n : Nat) (b1 : Nat) (hb1 : ag_F b1)  : ∀ (i : Nat) (v2 : Int32) (σ : Sg), Ev mX4_tellPeople 3 63 jV 27 [(0, .ref 1), (1, .ref b1), (2, .int v2)] [] σ (fn_X4_tellPeople_b27 n b1 i v2 σ) := by
  intro i
  induction i with
  | zero =>
    intro v2 σ
    exact ev_none
  | succ i ih =>
    intro v2 σ
    rw [fn_X4_tellPeople_b27_s]
    refine ev_iload_n (pc := 27) (i := 2) 2 dX4_tellPeople_27 rfl rfl ?_
    refine ev_aload_n (pc := 28) (i := 1) 1 dX4_tellPeople_28 rfl rfl ?_
    refine ev_getI (pc := 29) 0 ag_C1 (ag_Fk hb1).1 (ag_Fk hb1).2 (Nat.le_of_ble_eq_true rfl) (ag_Ft0 hb1) rfl ag_fl_X4_30 dX4_tellPeople_29 ?_
    refine ev_icmp_ge (pc := 32) (tgt := 127) dX4_tellPeople_32 rfl ?_ ?_
    · exact ev_ret (fun r h => by cases h; rfl) rfl dX4_tellPeople_127
    · refine ev_iload_n (pc := 35) (i := 2) 2 dX4_tellPeople_35 rfl rfl ?_
      refine ev_bipush (pc := 36) (v := 6) dX4_tellPeople_36 (by decide) ?_
      refine ev_imul (pc := 38) dX4_tellPeople_38 ?_
      refine ev_istore_n (pc := 39) (i := 3) (lv' := [(3, .int (v2 * 6)), (0, .ref 1), (1, .ref b1), (2, .int v2)]) dX4_tellPeople_39 rfl (Nat.le_of_ble_eq_true rfl) rfl ?_
      refine ev_aload_n (pc := 40) (i := 0) 1 dX4_tellPeople_40 rfl rfl ?_
      refine ev_getR (pc := 41) (t := 2) 0 ag_C4 (rfl) (by decide) (Nat.le_of_ble_eq_true rfl) rfl rfl ag_fl_X4_11 dX4_tellPeople_41 ?_
      refine ev_iload_n (pc := 44) (i := 3) 0 dX4_tellPeople_44 rfl rfl ?_
      refine ev_iconst (pc := 45) (v := 4) dX4_tellPeople_45 (by decide) ?_
      refine ev_iadd (pc := 46) dX4_tellPeople_46 ?_
      refine ev_iald (pc := 47) (rfl) (by decide) dX4_tellPeople_47 ?_
      refine ev_istore (pc := 48) (lv' := [(4, .int (σ 2 ((v2 * 6) + 4).toNatClampNeg)), (3, .int (v2 * 6)), (0, .ref 1), (1, .ref b1), (2, .int v2)]) dX4_tellPeople_48 (Nat.le_of_ble_eq_true rfl) rfl ?_
      refine ev_aload_n (pc := 50) (i := 1) 3 dX4_tellPeople_50 rfl rfl ?_
      refine ev_getR (pc := 51) (t := (b1 + 1)) 1 ag_C1 (ag_Fk hb1).1 (ag_Fk hb1).2 (Nat.le_of_ble_eq_true rfl) (ag_Ft1 hb1) rfl ag_fl_X4_35 dX4_tellPeople_51 ?_
      refine ev_iload_n (pc := 54) (i := 2) 4 dX4_tellPeople_54 rfl rfl ?_
      refine ev_aload_n (pc := 55) (i := 0) 2 dX4_tellPeople_55 rfl rfl ?_
      refine ev_iload_n (pc := 56) (i := 3) 1 dX4_tellPeople_56 rfl rfl ?_
      refine ev_vI (pc := 57) (as := [.int (v2 * 6)]) (rest := [.int v2, .ref (b1 + 1)]) ⟨4, 38, 2, TX4, tyX4, ag_C4, ⟨(rfl), (by decide)⟩, mv_X4_twoFigures, ag_ml_X4_38, rfl, (Nat.le_of_ble_eq_true rfl), ⟨(Nat.le_of_ble_eq_true rfl), (Nat.le_of_ble_eq_true rfl)⟩, dX4_tellPeople_57⟩ (im_X4_twoFigures (v2 * 6) σ) (fun q8 => ?_)
      refine ev_iast (pc := 60) (ag_Fa1 hb1).1 (ag_Fa1 hb1).2 dX4_tellPeople_60 ?_
      refine ev_aload_n (pc := 61) (i := 1) 3 dX4_tellPeople_61 rfl rfl ?_
      refine ev_getR (pc := 62) (t := (b1 + 2)) 2 ag_C1 (ag_Fk hb1).1 (ag_Fk hb1).2 (Nat.le_of_ble_eq_true rfl) (ag_Ft2 hb1) rfl ag_fl_X4_42 dX4_tellPeople_62 ?_
      refine ev_iload_n (pc := 65) (i := 2) 4 dX4_tellPeople_65 rfl rfl ?_
      refine ev_aload_n (pc := 66) (i := 0) 2 dX4_tellPeople_66 rfl rfl ?_
      refine ev_iload_n (pc := 67) (i := 3) 1 dX4_tellPeople_67 rfl rfl ?_
      refine ev_iconst (pc := 68) (v := 2) dX4_tellPeople_68 (by decide) ?_
      refine ev_iadd (pc := 69) dX4_tellPeople_69 ?_
      refine ev_vI (pc := 70) (as := [.int ((v2 * 6) + 2)]) (rest := [.int v2, .ref (b1 + 2)]) ⟨4, 38, 2, TX4, tyX4, ag_C4, ⟨(rfl), (by decide)⟩, mv_X4_twoFigures, ag_ml_X4_38, rfl, (Nat.le_of_ble_eq_true rfl), ⟨(Nat.le_of_ble_eq_true rfl), (Nat.le_of_ble_eq_true rfl)⟩, dX4_tellPeople_70⟩ (im_X4_twoFigures ((v2 * 6) + 2) (ag_up σ (b1 + 1) v2.toNatClampNeg q8)) (fun q9 => ?_)
      refine ev_iast (pc := 73) (ag_Fa2 hb1).1 (ag_Fa2 hb1).2 dX4_tellPeople_73 ?_
      refine ev_aload_n (pc := 74) (i := 1) 3 dX4_tellPeople_74 rfl rfl ?_
      refine ev_getR (pc := 75) (t := (b1 + 3)) 3 ag_C1 (ag_Fk hb1).1 (ag_Fk hb1).2 (Nat.le_of_ble_eq_true rfl) (ag_Ft3 hb1) rfl ag_fl_X4_45 dX4_tellPeople_75 ?_
      refine ev_iload_n (pc := 78) (i := 2) 4 dX4_tellPeople_78 rfl rfl ?_
      refine ev_iload (pc := 79) 0 dX4_tellPeople_79 rfl ?_
      refine ev_bipush (pc := 81) (v := 101) dX4_tellPeople_81 (by decide) ?_
      refine ev_icmp_ne (pc := 83) (tgt := 90) dX4_tellPeople_83 rfl ?_ ?_
      · refine ev_iconst (pc := 86) (v := 1) dX4_tellPeople_86 (by decide) ?_
        refine ev_goto (pc := 87) (tgt := 102) dX4_tellPeople_87 rfl ?_
        refine ev_sub [2, 3, 4, 0] rfl ?_
        exact ev_X4_tellPeople_b102 n b1 hb1 (fn_X4_tellPeople_b27 n b1 i) ih v2 (σ 2 ((v2 * 6) + 4).toNatClampNeg) v2 1 (ag_up (ag_up σ (b1 + 1) v2.toNatClampNeg q8) (b1 + 2) v2.toNatClampNeg q9)
      · refine ev_iload (pc := 90) 0 dX4_tellPeople_90 rfl ?_
        refine ev_bipush (pc := 92) (v := 102) dX4_tellPeople_92 (by decide) ?_
        refine ev_icmp_ne (pc := 94) (tgt := 101) dX4_tellPeople_94 rfl ?_ ?_
        · refine ev_iconst (pc := 97) (v := 2) dX4_tellPeople_97 (by decide) ?_
          refine ev_goto (pc := 98) (tgt := 102) dX4_tellPeople_98 rfl ?_
          refine ev_sub [2, 3, 4, 0] rfl ?_
          exact ev_X4_tellPeople_b102 n b1 hb1 (fn_X4_tellPeople_b27 n b1 i) ih v2 (σ 2 ((v2 * 6) + 4).toNatClampNeg) v2 2 (ag_up (ag_up σ (b1 + 1) v2.toNatClampNeg q8) (b1 + 2) v2.toNatClampNeg q9)
        · refine ev_iconst (pc := 101) (v := 0) dX4_tellPeople_101 (by decide) ?_
          refine ev_sub [2, 3, 4, 0] rfl ?_
          exact ev_X4_tellPeople_b102 n b1 hb1 (fn_X4_tellPeople_b27 n b1 i) ih v2 (σ 2 ((v2 * 6) + 4).toNatClampNeg) v2 0 (ag_up (ag_up σ (b1 + 1) v2.toNatClampNeg q8) (b1 + 2) v2.toNatClampNeg q9)
def fn_X4_tellPeople_b22 (n : Nat) (b1 : Nat)  (s1 : Int32) (σ : Sg) : Option Sg :=
  (fn_X4_tellPeople_b27 n b1 n 0 (ag_up σ b1 0 s1))
set_option maxRecDepth 20000 in
set_option maxHeartbeats 4000000 in
theorem ev_X4_tellPeople_b22 (n : Nat) (b1 : Nat) (hb1 : ag_F b1)  (s1 : Int32) (σ : Sg) : Ev mX4_tellPeople 3 63 jV 22 [(0, .ref 1), (1, .ref b1)] [.int s1, .ref b1] σ (fn_X4_tellPeople_b22 n b1 s1 σ) := by
  unfold fn_X4_tellPeople_b22
  refine ev_put (pc := 22) 0 ag_C1 (ag_Fk hb1).1 (ag_Fk hb1).2 (Nat.le_of_ble_eq_true rfl) (ag_Ft0 hb1) rfl ag_fl_X4_30 rfl rfl rfl dX4_tellPeople_22 ?_
  refine ev_iconst (pc := 25) (v := 0) dX4_tellPeople_25 (by decide) ?_
  refine ev_istore_n (pc := 26) (i := 2) (lv' := [(2, .int 0), (0, .ref 1), (1, .ref b1)]) dX4_tellPeople_26 rfl (Nat.le_of_ble_eq_true rfl) rfl ?_
  refine ev_sub [1, 2, 0] rfl ?_
  exact ev_X4_tellPeople_b27 n b1 hb1 n 0 (ag_up σ b1 0 s1)
def fn_X4_tellPeople (n : Nat) (b1 : Nat) (σ : Sg) : Option Sg :=
  (Option.bind (fn_X4_firstFault n σ) fun q10 =>
  (if q10 = (-1) then (fn_X4_tellPeople_b22 n b1 (((σ 1 1) + 1) / 6) σ)
  else (fn_X4_tellPeople_b22 n b1 0 σ)))
set_option maxRecDepth 20000 in
set_option maxHeartbeats 4000000 in
theorem im_X4_tellPeople (n : Nat) (b1 : Nat) (hb1 : ag_F b1) (σ : Sg) : Im yX4_tellPeople mX4_tellPeople 3 63 jV [.ref 1, .ref b1] σ (fn_X4_tellPeople n b1 σ) := by
  refine Im.of (by decide +kernel) rfl (Nat.le_of_ble_eq_true rfl) ?_
  show Ev mX4_tellPeople 3 63 jV 0 [(0, .ref 1), (1, .ref b1)] [] σ (fn_X4_tellPeople n b1 σ)
  unfold fn_X4_tellPeople
  refine ev_aload_n (pc := 0) (i := 1) 1 dX4_tellPeople_0 rfl rfl ?_
  refine ev_aload_n (pc := 1) (i := 0) 0 dX4_tellPeople_1 rfl rfl ?_
  refine ev_vI (pc := 2) (as := []) (rest := [.ref b1]) ⟨4, 26, 2, TX4, tyX4, ag_C4, ⟨(rfl), (by decide)⟩, mv_X4_firstFault, ag_ml_X4_26, rfl, (Nat.le_of_ble_eq_true rfl), ⟨(Nat.le_of_ble_eq_true rfl), (Nat.le_of_ble_eq_true rfl)⟩, dX4_tellPeople_2⟩ (im_X4_firstFault n σ) (fun q10 => ?_)
  refine ev_iconst (pc := 5) (v := (-1)) dX4_tellPeople_5 (by decide) ?_
  refine ev_icmp_ne (pc := 6) (tgt := 21) dX4_tellPeople_6 rfl ?_ ?_
  · refine ev_aload_n (pc := 9) (i := 0) 0 dX4_tellPeople_9 rfl rfl ?_
    refine ev_getI (pc := 10) 1 ag_C4 (rfl) (by decide) (Nat.le_of_ble_eq_true rfl) rfl rfl ag_fl_X4_15 dX4_tellPeople_10 ?_
    refine ev_iconst (pc := 13) (v := 1) dX4_tellPeople_13 (by decide) ?_
    refine ev_iadd (pc := 14) dX4_tellPeople_14 ?_
    refine ev_bipush (pc := 15) (v := 6) dX4_tellPeople_15 (by decide) ?_
    refine ev_idiv (pc := 17) dX4_tellPeople_17 (by decide) ?_
    refine ev_goto (pc := 18) (tgt := 22) dX4_tellPeople_18 rfl ?_
    exact ev_X4_tellPeople_b22 n b1 hb1 (((σ 1 1) + 1) / 6) σ
  · refine ev_iconst (pc := 21) (v := 0) dX4_tellPeople_21 (by decide) ?_
    exact ev_X4_tellPeople_b22 n b1 hb1 0 σ
end
section
-- by program (wip/whole/emit.py): each method as a function, and its walk
-- X5_learningYear
def mX5_learningYear : Md := (RX5, cX5_learningYear, 3, some .int)
theorem mv_X5_learningYear : ag_Mv yX5_learningYear mX5_learningYear 2 := ⟨ag_co_X5_learningYear, ag_im_X5_learningYear, ag_se_X5_learningYear, ag_ini_X5, by decide +kernel⟩
theorem dX5_learningYear_0 : decode mX5_learningYear.2.1 0 = .ok (.aload_n 0, 1) := by decide +kernel
theorem dX5_learningYear_1 : decode mX5_learningYear.2.1 1 = .ok (.getfield 42, 3) := by decide +kernel
theorem dX5_learningYear_4 : decode mX5_learningYear.2.1 4 = .ok (.iload_n 1, 1) := by decide +kernel
theorem dX5_learningYear_5 : decode mX5_learningYear.2.1 5 = .ok (.iaload, 1) := by decide +kernel
theorem dX5_learningYear_6 : decode mX5_learningYear.2.1 6 = .ok (.iload_n 2, 1) := by decide +kernel
theorem dX5_learningYear_7 : decode mX5_learningYear.2.1 7 = .ok (.ishr, 1) := by decide +kernel
theorem dX5_learningYear_8 : decode mX5_learningYear.2.1 8 = .ok (.iconst 1, 1) := by decide +kernel
theorem dX5_learningYear_9 : decode mX5_learningYear.2.1 9 = .ok (.iand, 1) := by decide +kernel
theorem dX5_learningYear_10 : decode mX5_learningYear.2.1 10 = .ok (.ifCond .ne 5, 3) := by decide +kernel
theorem dX5_learningYear_13 : decode mX5_learningYear.2.1 13 = .ok (.iconst (-1), 1) := by decide +kernel
theorem dX5_learningYear_14 : decode mX5_learningYear.2.1 14 = .ok (.ireturn, 1) := by decide +kernel
theorem dX5_learningYear_15 : decode mX5_learningYear.2.1 15 = .ok (.aload_n 0, 1) := by decide +kernel
theorem dX5_learningYear_16 : decode mX5_learningYear.2.1 16 = .ok (.getfield 12, 3) := by decide +kernel
theorem dX5_learningYear_19 : decode mX5_learningYear.2.1 19 = .ok (.getfield 58, 3) := by decide +kernel
theorem dX5_learningYear_22 : decode mX5_learningYear.2.1 22 = .ok (.iload_n 1, 1) := by decide +kernel
theorem dX5_learningYear_23 : decode mX5_learningYear.2.1 23 = .ok (.iaload, 1) := by decide +kernel
theorem dX5_learningYear_24 : decode mX5_learningYear.2.1 24 = .ok (.iload_n 2, 1) := by decide +kernel
theorem dX5_learningYear_25 : decode mX5_learningYear.2.1 25 = .ok (.ishr, 1) := by decide +kernel
theorem dX5_learningYear_26 : decode mX5_learningYear.2.1 26 = .ok (.iconst 1, 1) := by decide +kernel
theorem dX5_learningYear_27 : decode mX5_learningYear.2.1 27 = .ok (.iand, 1) := by decide +kernel
theorem dX5_learningYear_28 : decode mX5_learningYear.2.1 28 = .ok (.iconst 1, 1) := by decide +kernel
theorem dX5_learningYear_29 : decode mX5_learningYear.2.1 29 = .ok (.if_icmp .ne 7, 3) := by decide +kernel
theorem dX5_learningYear_32 : decode mX5_learningYear.2.1 32 = .ok (.iconst 0, 1) := by decide +kernel
theorem dX5_learningYear_33 : decode mX5_learningYear.2.1 33 = .ok (.goto 14, 3) := by decide +kernel
theorem dX5_learningYear_36 : decode mX5_learningYear.2.1 36 = .ok (.aload_n 0, 1) := by decide +kernel
theorem dX5_learningYear_37 : decode mX5_learningYear.2.1 37 = .ok (.getfield 45, 3) := by decide +kernel
theorem dX5_learningYear_40 : decode mX5_learningYear.2.1 40 = .ok (.iload_n 1, 1) := by decide +kernel
theorem dX5_learningYear_41 : decode mX5_learningYear.2.1 41 = .ok (.bipush 8, 2) := by decide +kernel
theorem dX5_learningYear_43 : decode mX5_learningYear.2.1 43 = .ok (.imul, 1) := by decide +kernel
theorem dX5_learningYear_44 : decode mX5_learningYear.2.1 44 = .ok (.iload_n 2, 1) := by decide +kernel
theorem dX5_learningYear_45 : decode mX5_learningYear.2.1 45 = .ok (.iadd, 1) := by decide +kernel
theorem dX5_learningYear_46 : decode mX5_learningYear.2.1 46 = .ok (.iaload, 1) := by decide +kernel
theorem dX5_learningYear_47 : decode mX5_learningYear.2.1 47 = .ok (.ireturn, 1) := by decide +kernel
def fn_X5_learningYear (b : Nat) (x1 : Int32) (x2 : Int32) (σ : Sg) : Option Int32 :=
  (if ag_ib x1 10 = true then (if (((σ (b + 15) x1.toNatClampNeg) >>> (x2 &&& 31)) &&& 1) = 0 then (some (-1))
  else (if ag_ib x1 10 = true then (if (((σ (b + 6) x1.toNatClampNeg) >>> (x2 &&& 31)) &&& 1) = 1 then (some 0)
  else (if ag_ib ((x1 * 8) + x2) 80 = true then (some (σ (b + 16) ((x1 * 8) + x2).toNatClampNeg)) else none)) else none)) else none)
set_option maxRecDepth 20000 in
set_option maxHeartbeats 4000000 in
theorem im_X5_learningYear (b : Nat) (hb : ag_Y b) (x1 : Int32) (x2 : Int32) (σ : Sg) : Im yX5_learningYear mX5_learningYear 0 0 (jI σ) [.ref b, .int x1, .int x2] σ (fn_X5_learningYear b x1 x2 σ) := by
  refine Im.of (by decide +kernel) rfl (Nat.le_of_ble_eq_true rfl) ?_
  show Ev mX5_learningYear 0 0 (jI σ) 0 [(0, .ref b), (1, .int x1), (2, .int x2)] [] σ (fn_X5_learningYear b x1 x2 σ)
  unfold fn_X5_learningYear
  refine ev_aload_n (pc := 0) (i := 0) 0 dX5_learningYear_0 rfl rfl ?_
  refine ev_getR (pc := 1) (t := (b + 15)) 7 ag_C5 (ag_Yk hb).1 (ag_Yk hb).2 (Nat.le_of_ble_eq_true rfl) (ag_Yt7 hb) rfl ag_fl_X5_42 dX5_learningYear_1 ?_
  refine ev_iload_n (pc := 4) (i := 1) 1 dX5_learningYear_4 rfl rfl ?_
  refine ev_iald (pc := 5) (ag_Ya15 hb).1 (ag_Ya15 hb).2 dX5_learningYear_5 ?_
  refine ev_iload_n (pc := 6) (i := 2) 2 dX5_learningYear_6 rfl rfl ?_
  refine ev_ishr (pc := 7) dX5_learningYear_7 ?_
  refine ev_iconst (pc := 8) (v := 1) dX5_learningYear_8 (by decide) ?_
  refine ev_iand (pc := 9) dX5_learningYear_9 ?_
  refine ev_if_ne (pc := 10) (tgt := 15) dX5_learningYear_10 rfl ?_ ?_
  · refine ev_iconst (pc := 13) (v := (-1)) dX5_learningYear_13 (by decide) ?_
    exact ev_iret (ty := .int) (fun r h => by cases h; rfl) rfl rfl dX5_learningYear_14
  · refine ev_aload_n (pc := 15) (i := 0) 0 dX5_learningYear_15 rfl rfl ?_
    refine ev_getR (pc := 16) (t := (b + 1)) 0 ag_C5 (ag_Yk hb).1 (ag_Yk hb).2 (Nat.le_of_ble_eq_true rfl) (ag_Yt0 hb) rfl ag_fl_X5_12 dX5_learningYear_16 ?_
    refine ev_getR (pc := 19) (t := (b + 6)) 5 ag_C1 (ag_Fk (ag_YF hb)).1 (ag_Fk (ag_YF hb)).2 (Nat.le_of_ble_eq_true rfl) (ag_Ft5 (ag_YF hb)) rfl ag_fl_X5_58 dX5_learningYear_19 ?_
    refine ev_iload_n (pc := 22) (i := 1) 1 dX5_learningYear_22 rfl rfl ?_
    refine ev_iald (pc := 23) (ag_Fa5 (ag_YF hb)).1 (ag_Fa5 (ag_YF hb)).2 dX5_learningYear_23 ?_
    refine ev_iload_n (pc := 24) (i := 2) 2 dX5_learningYear_24 rfl rfl ?_
    refine ev_ishr (pc := 25) dX5_learningYear_25 ?_
    refine ev_iconst (pc := 26) (v := 1) dX5_learningYear_26 (by decide) ?_
    refine ev_iand (pc := 27) dX5_learningYear_27 ?_
    refine ev_iconst (pc := 28) (v := 1) dX5_learningYear_28 (by decide) ?_
    refine ev_icmp_ne (pc := 29) (tgt := 36) dX5_learningYear_29 rfl ?_ ?_
    · refine ev_iconst (pc := 32) (v := 0) dX5_learningYear_32 (by decide) ?_
      refine ev_goto (pc := 33) (tgt := 47) dX5_learningYear_33 rfl ?_
      exact ev_iret (ty := .int) (fun r h => by cases h; rfl) rfl rfl dX5_learningYear_47
    · refine ev_aload_n (pc := 36) (i := 0) 0 dX5_learningYear_36 rfl rfl ?_
      refine ev_getR (pc := 37) (t := (b + 16)) 8 ag_C5 (ag_Yk hb).1 (ag_Yk hb).2 (Nat.le_of_ble_eq_true rfl) (ag_Yt8 hb) rfl ag_fl_X5_45 dX5_learningYear_37 ?_
      refine ev_iload_n (pc := 40) (i := 1) 1 dX5_learningYear_40 rfl rfl ?_
      refine ev_bipush (pc := 41) (v := 8) dX5_learningYear_41 (by decide) ?_
      refine ev_imul (pc := 43) dX5_learningYear_43 ?_
      refine ev_iload_n (pc := 44) (i := 2) 2 dX5_learningYear_44 rfl rfl ?_
      refine ev_iadd (pc := 45) dX5_learningYear_45 ?_
      refine ev_iald (pc := 46) (ag_Ya16 hb).1 (ag_Ya16 hb).2 dX5_learningYear_46 ?_
      exact ev_iret (ty := .int) (fun r h => by cases h; rfl) rfl rfl dX5_learningYear_47
-- X5_knew
def mX5_knew : Md := (RX5, cX5_knew, 5, some .boolean)
theorem mv_X5_knew : ag_Mv yX5_knew mX5_knew 3 := ⟨ag_co_X5_knew, ag_im_X5_knew, ag_se_X5_knew, ag_ini_X5, by decide +kernel⟩
theorem dX5_knew_0 : decode mX5_knew.2.1 0 = .ok (.aload_n 0, 1) := by decide +kernel
theorem dX5_knew_1 : decode mX5_knew.2.1 1 = .ok (.getfield 12, 3) := by decide +kernel
theorem dX5_knew_4 : decode mX5_knew.2.1 4 = .ok (.iload_n 1, 1) := by decide +kernel
theorem dX5_knew_5 : decode mX5_knew.2.1 5 = .ok (.invokevirtual 130, 3) := by decide +kernel
theorem dX5_knew_8 : decode mX5_knew.2.1 8 = .ok (.ifCond .ne 5, 3) := by decide +kernel
theorem dX5_knew_11 : decode mX5_knew.2.1 11 = .ok (.iconst 0, 1) := by decide +kernel
theorem dX5_knew_12 : decode mX5_knew.2.1 12 = .ok (.ireturn, 1) := by decide +kernel
theorem dX5_knew_13 : decode mX5_knew.2.1 13 = .ok (.aload_n 0, 1) := by decide +kernel
theorem dX5_knew_14 : decode mX5_knew.2.1 14 = .ok (.iload_n 1, 1) := by decide +kernel
theorem dX5_knew_15 : decode mX5_knew.2.1 15 = .ok (.iload_n 2, 1) := by decide +kernel
theorem dX5_knew_16 : decode mX5_knew.2.1 16 = .ok (.invokevirtual 157, 3) := by decide +kernel
theorem dX5_knew_19 : decode mX5_knew.2.1 19 = .ok (.istore 4, 2) := by decide +kernel
theorem dX5_knew_21 : decode mX5_knew.2.1 21 = .ok (.iload 4, 2) := by decide +kernel
theorem dX5_knew_23 : decode mX5_knew.2.1 23 = .ok (.iconst (-1), 1) := by decide +kernel
theorem dX5_knew_24 : decode mX5_knew.2.1 24 = .ok (.if_icmp .eq 13, 3) := by decide +kernel
theorem dX5_knew_27 : decode mX5_knew.2.1 27 = .ok (.iload 4, 2) := by decide +kernel
theorem dX5_knew_29 : decode mX5_knew.2.1 29 = .ok (.iload_n 3, 1) := by decide +kernel
theorem dX5_knew_30 : decode mX5_knew.2.1 30 = .ok (.if_icmp .gt 7, 3) := by decide +kernel
theorem dX5_knew_33 : decode mX5_knew.2.1 33 = .ok (.iconst 1, 1) := by decide +kernel
theorem dX5_knew_34 : decode mX5_knew.2.1 34 = .ok (.goto 4, 3) := by decide +kernel
theorem dX5_knew_37 : decode mX5_knew.2.1 37 = .ok (.iconst 0, 1) := by decide +kernel
theorem dX5_knew_38 : decode mX5_knew.2.1 38 = .ok (.ireturn, 1) := by decide +kernel
def fn_X5_knew (b : Nat) (x1 : Int32) (x2 : Int32) (x3 : Int32) (σ : Sg) : Option Int32 :=
  (Option.bind (fn_X1_isThere (b + 1) x1 σ) fun q1 =>
  (if q1 = 0 then (some 0)
  else (Option.bind (fn_X5_learningYear b x1 x2 σ) fun q2 =>
  (if q2 = (-1) then (some 0)
  else (if x3 < q2 then (some 0)
  else (some 1))))))
set_option maxRecDepth 20000 in
set_option maxHeartbeats 4000000 in
theorem im_X5_knew (b : Nat) (hb : ag_Y b) (x1 : Int32) (x2 : Int32) (x3 : Int32) (σ : Sg) : Im yX5_knew mX5_knew 1 22 (jI σ) [.ref b, .int x1, .int x2, .int x3] σ (fn_X5_knew b x1 x2 x3 σ) := by
  refine Im.of (by decide +kernel) rfl (Nat.le_of_ble_eq_true rfl) ?_
  show Ev mX5_knew 1 22 (jI σ) 0 [(0, .ref b), (1, .int x1), (2, .int x2), (3, .int x3)] [] σ (fn_X5_knew b x1 x2 x3 σ)
  unfold fn_X5_knew
  refine ev_aload_n (pc := 0) (i := 0) 0 dX5_knew_0 rfl rfl ?_
  refine ev_getR (pc := 1) (t := (b + 1)) 0 ag_C5 (ag_Yk hb).1 (ag_Yk hb).2 (Nat.le_of_ble_eq_true rfl) (ag_Yt0 hb) rfl ag_fl_X5_12 dX5_knew_1 ?_
  refine ev_iload_n (pc := 4) (i := 1) 1 dX5_knew_4 rfl rfl ?_
  refine ev_vI (pc := 5) (as := [.int x1]) (rest := []) ⟨1, 130, 6, TX1, tyX1, ag_C1, ⟨(ag_Fk (ag_YF hb)).1, (ag_Fk (ag_YF hb)).2⟩, mv_X1_isThere, ag_ml_X5_130, rfl, (Nat.le_of_ble_eq_true rfl), ⟨(Nat.le_of_ble_eq_true rfl), (Nat.le_of_ble_eq_true rfl)⟩, dX5_knew_5⟩ (im_X1_isThere (b + 1) (ag_YF hb) x1 σ) (fun q1 => ?_)
  refine ev_if_ne (pc := 8) (tgt := 13) dX5_knew_8 rfl ?_ ?_
  · refine ev_iconst (pc := 11) (v := 0) dX5_knew_11 (by decide) ?_
    exact ev_iret (ty := .boolean) (fun r h => by cases h; rfl) rfl rfl dX5_knew_12
  · refine ev_aload_n (pc := 13) (i := 0) 0 dX5_knew_13 rfl rfl ?_
    refine ev_iload_n (pc := 14) (i := 1) 1 dX5_knew_14 rfl rfl ?_
    refine ev_iload_n (pc := 15) (i := 2) 2 dX5_knew_15 rfl rfl ?_
    refine ev_vI (pc := 16) (as := [.int x1, .int x2]) (rest := []) ⟨5, 157, 10, TX5, tyX5, ag_C5, ⟨(ag_Yk hb).1, (ag_Yk hb).2⟩, mv_X5_learningYear, ag_ml_X5_157, rfl, (Nat.le_of_ble_eq_true rfl), ⟨(Nat.le_of_ble_eq_true rfl), (Nat.le_of_ble_eq_true rfl)⟩, dX5_knew_16⟩ (im_X5_learningYear b hb x1 x2 σ) (fun q2 => ?_)
    refine ev_istore (pc := 19) (lv' := [(4, .int q2), (0, .ref b), (1, .int x1), (2, .int x2), (3, .int x3)]) dX5_knew_19 (Nat.le_of_ble_eq_true rfl) rfl ?_
    refine ev_iload (pc := 21) 0 dX5_knew_21 rfl ?_
    refine ev_iconst (pc := 23) (v := (-1)) dX5_knew_23 (by decide) ?_
    refine ev_icmp_eq (pc := 24) (tgt := 37) dX5_knew_24 rfl ?_ ?_
    · refine ev_iconst (pc := 37) (v := 0) dX5_knew_37 (by decide) ?_
      exact ev_iret (ty := .boolean) (fun r h => by cases h; rfl) rfl rfl dX5_knew_38
    · refine ev_iload (pc := 27) 0 dX5_knew_27 rfl ?_
      refine ev_iload_n (pc := 29) (i := 3) 4 dX5_knew_29 rfl rfl ?_
      refine ev_icmp_gt (pc := 30) (tgt := 37) dX5_knew_30 rfl ?_ ?_
      · refine ev_iconst (pc := 37) (v := 0) dX5_knew_37 (by decide) ?_
        exact ev_iret (ty := .boolean) (fun r h => by cases h; rfl) rfl rfl dX5_knew_38
      · refine ev_iconst (pc := 33) (v := 1) dX5_knew_33 (by decide) ?_
        refine ev_goto (pc := 34) (tgt := 38) dX5_knew_34 rfl ?_
        exact ev_iret (ty := .boolean) (fun r h => by cases h; rfl) rfl rfl dX5_knew_38
-- X0_cameOutIn
def mX0_cameOutIn : Md := (RX0, cX0_cameOutIn, 3, some .boolean)
theorem mv_X0_cameOutIn : ag_Mv yX0_cameOutIn mX0_cameOutIn 1 := ⟨ag_co_X0_cameOutIn, ag_im_X0_cameOutIn, ag_se_X0_cameOutIn, ag_ini_X0, by decide +kernel⟩
theorem dX0_cameOutIn_0 : decode mX0_cameOutIn.2.1 0 = .ok (.iconst 0, 1) := by decide +kernel
theorem dX0_cameOutIn_1 : decode mX0_cameOutIn.2.1 1 = .ok (.istore_n 2, 1) := by decide +kernel
theorem dX0_cameOutIn_2 : decode mX0_cameOutIn.2.1 2 = .ok (.iload_n 2, 1) := by decide +kernel
theorem dX0_cameOutIn_3 : decode mX0_cameOutIn.2.1 3 = .ok (.aload_n 0, 1) := by decide +kernel
theorem dX0_cameOutIn_4 : decode mX0_cameOutIn.2.1 4 = .ok (.getfield 9, 3) := by decide +kernel
theorem dX0_cameOutIn_7 : decode mX0_cameOutIn.2.1 7 = .ok (.if_icmp .ge 51, 3) := by decide +kernel
theorem dX0_cameOutIn_10 : decode mX0_cameOutIn.2.1 10 = .ok (.aload_n 1, 1) := by decide +kernel
theorem dX0_cameOutIn_11 : decode mX0_cameOutIn.2.1 11 = .ok (.aload_n 0, 1) := by decide +kernel
theorem dX0_cameOutIn_12 : decode mX0_cameOutIn.2.1 12 = .ok (.getfield 19, 3) := by decide +kernel
theorem dX0_cameOutIn_15 : decode mX0_cameOutIn.2.1 15 = .ok (.iload_n 2, 1) := by decide +kernel
theorem dX0_cameOutIn_16 : decode mX0_cameOutIn.2.1 16 = .ok (.iaload, 1) := by decide +kernel
theorem dX0_cameOutIn_17 : decode mX0_cameOutIn.2.1 17 = .ok (.aload_n 0, 1) := by decide +kernel
theorem dX0_cameOutIn_18 : decode mX0_cameOutIn.2.1 18 = .ok (.getfield 22, 3) := by decide +kernel
theorem dX0_cameOutIn_21 : decode mX0_cameOutIn.2.1 21 = .ok (.iload_n 2, 1) := by decide +kernel
theorem dX0_cameOutIn_22 : decode mX0_cameOutIn.2.1 22 = .ok (.iaload, 1) := by decide +kernel
theorem dX0_cameOutIn_23 : decode mX0_cameOutIn.2.1 23 = .ok (.aload_n 0, 1) := by decide +kernel
theorem dX0_cameOutIn_24 : decode mX0_cameOutIn.2.1 24 = .ok (.getfield 15, 3) := by decide +kernel
theorem dX0_cameOutIn_27 : decode mX0_cameOutIn.2.1 27 = .ok (.iload_n 2, 1) := by decide +kernel
theorem dX0_cameOutIn_28 : decode mX0_cameOutIn.2.1 28 = .ok (.iaload, 1) := by decide +kernel
theorem dX0_cameOutIn_29 : decode mX0_cameOutIn.2.1 29 = .ok (.invokevirtual 28, 3) := by decide +kernel
theorem dX0_cameOutIn_32 : decode mX0_cameOutIn.2.1 32 = .ok (.aload_n 0, 1) := by decide +kernel
theorem dX0_cameOutIn_33 : decode mX0_cameOutIn.2.1 33 = .ok (.getfield 25, 3) := by decide +kernel
theorem dX0_cameOutIn_36 : decode mX0_cameOutIn.2.1 36 = .ok (.iload_n 2, 1) := by decide +kernel
theorem dX0_cameOutIn_37 : decode mX0_cameOutIn.2.1 37 = .ok (.iaload, 1) := by decide +kernel
theorem dX0_cameOutIn_38 : decode mX0_cameOutIn.2.1 38 = .ok (.iconst 1, 1) := by decide +kernel
theorem dX0_cameOutIn_39 : decode mX0_cameOutIn.2.1 39 = .ok (.if_icmp .ne 7, 3) := by decide +kernel
theorem dX0_cameOutIn_42 : decode mX0_cameOutIn.2.1 42 = .ok (.iconst 1, 1) := by decide +kernel
theorem dX0_cameOutIn_43 : decode mX0_cameOutIn.2.1 43 = .ok (.goto 4, 3) := by decide +kernel
theorem dX0_cameOutIn_46 : decode mX0_cameOutIn.2.1 46 = .ok (.iconst 0, 1) := by decide +kernel
theorem dX0_cameOutIn_47 : decode mX0_cameOutIn.2.1 47 = .ok (.if_icmp .eq 5, 3) := by decide +kernel
theorem dX0_cameOutIn_50 : decode mX0_cameOutIn.2.1 50 = .ok (.iconst 0, 1) := by decide +kernel
theorem dX0_cameOutIn_51 : decode mX0_cameOutIn.2.1 51 = .ok (.ireturn, 1) := by decide +kernel
theorem dX0_cameOutIn_52 : decode mX0_cameOutIn.2.1 52 = .ok (.iinc 2 1, 3) := by decide +kernel
theorem dX0_cameOutIn_55 : decode mX0_cameOutIn.2.1 55 = .ok (.goto (-53), 3) := by decide +kernel
theorem dX0_cameOutIn_58 : decode mX0_cameOutIn.2.1 58 = .ok (.iconst 1, 1) := by decide +kernel
theorem dX0_cameOutIn_59 : decode mX0_cameOutIn.2.1 59 = .ok (.ireturn, 1) := by decide +kernel
def fn_X0_cameOutIn_b47 (n : Nat) (b1 : Nat) (σ : Sg) (k2 : Int32 → Option Int32) (v2 : Int32) (s0 : Int32) (s1 : Int32) : Option Int32 :=
  (if s0 = s1 then (k2 (v2 + 1))
  else (some 0))
set_option maxRecDepth 20000 in
set_option maxHeartbeats 4000000 in
theorem ev_X0_cameOutIn_b47 (n : Nat) (b1 : Nat) (hb1 : ag_Y b1) (σ : Sg) (k2 : Int32 → Option Int32) (hk2 : ∀ (v2 : Int32), Ev mX0_cameOutIn 2 46 (jI σ) 2 [(0, .ref 39), (1, .ref b1), (2, .int v2)] [] σ (k2 v2)) (v2 : Int32) (s0 : Int32) (s1 : Int32) : Ev mX0_cameOutIn 2 46 (jI σ) 47 [(0, .ref 39), (1, .ref b1), (2, .int v2)] [.int s1, .int s0] σ (fn_X0_cameOutIn_b47 n b1 σ k2 v2 s0 s1) := by
  unfold fn_X0_cameOutIn_b47
  refine ev_icmp_eq (pc := 47) (tgt := 52) dX0_cameOutIn_47 rfl ?_ ?_
  · refine ev_iinc (pc := 52) (v := (v2 + 1)) (lv' := [(2, .int (v2 + 1)), (0, .ref 39), (1, .ref b1)]) 2 dX0_cameOutIn_52 rfl rfl (Nat.le_of_ble_eq_true rfl) rfl ?_
    refine ev_goto (pc := 55) (tgt := 2) dX0_cameOutIn_55 rfl ?_
    refine ev_sub [1, 2, 0] rfl ?_
    exact hk2 (v2 + 1)
  · refine ev_iconst (pc := 50) (v := 0) dX0_cameOutIn_50 (by decide) ?_
    exact ev_iret (ty := .boolean) (fun r h => by cases h; rfl) rfl rfl dX0_cameOutIn_51
def fn_X0_cameOutIn_b2 (n : Nat) (b1 : Nat) (σ : Sg)  : Nat → Int32 → Option Int32
  | 0 => fun _ => none
  | i + 1 => fun v2 =>
  (if (σ 39 0) ≤ v2 then (some 1)
  else (if ag_ib v2 8 = true then (if ag_ib v2 8 = true then (if ag_ib v2 8 = true then (Option.bind (fn_X5_knew b1 (σ 41 v2.toNatClampNeg) (σ 42 v2.toNatClampNeg) (σ 40 v2.toNatClampNeg) σ) fun q3 =>
  (if ag_ib v2 8 = true then (if (σ 43 v2.toNatClampNeg) = 1 then (fn_X0_cameOutIn_b47 n b1 σ (fn_X0_cameOutIn_b2 n b1 σ i) v2 q3 1)
  else (fn_X0_cameOutIn_b47 n b1 σ (fn_X0_cameOutIn_b2 n b1 σ i) v2 q3 0)) else none)) else none) else none) else none))
theorem fn_X0_cameOutIn_b2_s (n : Nat) (b1 : Nat) (σ : Sg)  (i : Nat) (v2 : Int32) : fn_X0_cameOutIn_b2 n b1 σ (i + 1) v2 =
  (if (σ 39 0) ≤ v2 then (some 1)
  else (if ag_ib v2 8 = true then (if ag_ib v2 8 = true then (if ag_ib v2 8 = true then (Option.bind (fn_X5_knew b1 (σ 41 v2.toNatClampNeg) (σ 42 v2.toNatClampNeg) (σ 40 v2.toNatClampNeg) σ) fun q3 =>
  (if ag_ib v2 8 = true then (if (σ 43 v2.toNatClampNeg) = 1 then (fn_X0_cameOutIn_b47 n b1 σ (fn_X0_cameOutIn_b2 n b1 σ i) v2 q3 1)
  else (fn_X0_cameOutIn_b47 n b1 σ (fn_X0_cameOutIn_b2 n b1 σ i) v2 q3 0)) else none)) else none) else none) else none)) := rfl
set_option maxRecDepth 20000 in
set_option maxHeartbeats 4000000 in
theorem ev_X0_cameOutIn_b2 (n : Nat) (b1 : Nat) (hb1 : ag_Y b1) (σ : Sg)  : ∀ (i : Nat) (v2 : Int32), Ev mX0_cameOutIn 2 46 (jI σ) 2 [(0, .ref 39), (1, .ref b1), (2, .int v2)] [] σ (fn_X0_cameOutIn_b2 n b1 σ i v2) := by
  intro i
  induction i with
  | zero =>
    intro v2
    exact ev_none
  | succ i ih =>
    intro v2
    rw [fn_X0_cameOutIn_b2_s]
    refine ev_iload_n (pc := 2) (i := 2) 2 dX0_cameOutIn_2 rfl rfl ?_
    refine ev_aload_n (pc := 3) (i := 0) 0 dX0_cameOutIn_3 rfl rfl ?_
    refine ev_getI (pc := 4) 0 ag_C0 (rfl) (by decide) (Nat.le_of_ble_eq_true rfl) rfl rfl ag_fl_X0_9 dX0_cameOutIn_4 ?_
    refine ev_icmp_ge (pc := 7) (tgt := 58) dX0_cameOutIn_7 rfl ?_ ?_
    · refine ev_iconst (pc := 58) (v := 1) dX0_cameOutIn_58 (by decide) ?_
      exact ev_iret (ty := .boolean) (fun r h => by cases h; rfl) rfl rfl dX0_cameOutIn_59
    · refine ev_aload_n (pc := 10) (i := 1) 1 dX0_cameOutIn_10 rfl rfl ?_
      refine ev_aload_n (pc := 11) (i := 0) 0 dX0_cameOutIn_11 rfl rfl ?_
      refine ev_getR (pc := 12) (t := 41) 2 ag_C0 (rfl) (by decide) (Nat.le_of_ble_eq_true rfl) rfl rfl ag_fl_X0_19 dX0_cameOutIn_12 ?_
      refine ev_iload_n (pc := 15) (i := 2) 2 dX0_cameOutIn_15 rfl rfl ?_
      refine ev_iald (pc := 16) (rfl) (by decide) dX0_cameOutIn_16 ?_
      refine ev_aload_n (pc := 17) (i := 0) 0 dX0_cameOutIn_17 rfl rfl ?_
      refine ev_getR (pc := 18) (t := 42) 3 ag_C0 (rfl) (by decide) (Nat.le_of_ble_eq_true rfl) rfl rfl ag_fl_X0_22 dX0_cameOutIn_18 ?_
      refine ev_iload_n (pc := 21) (i := 2) 2 dX0_cameOutIn_21 rfl rfl ?_
      refine ev_iald (pc := 22) (rfl) (by decide) dX0_cameOutIn_22 ?_
      refine ev_aload_n (pc := 23) (i := 0) 0 dX0_cameOutIn_23 rfl rfl ?_
      refine ev_getR (pc := 24) (t := 40) 1 ag_C0 (rfl) (by decide) (Nat.le_of_ble_eq_true rfl) rfl rfl ag_fl_X0_15 dX0_cameOutIn_24 ?_
      refine ev_iload_n (pc := 27) (i := 2) 2 dX0_cameOutIn_27 rfl rfl ?_
      refine ev_iald (pc := 28) (rfl) (by decide) dX0_cameOutIn_28 ?_
      refine ev_vI (pc := 29) (as := [.int (σ 41 v2.toNatClampNeg), .int (σ 42 v2.toNatClampNeg), .int (σ 40 v2.toNatClampNeg)]) (rest := []) ⟨5, 28, 10, TX5, tyX5, ag_C5, ⟨(ag_Yk hb1).1, (ag_Yk hb1).2⟩, mv_X5_knew, ag_ml_X0_28, rfl, (Nat.le_of_ble_eq_true rfl), ⟨(Nat.le_of_ble_eq_true rfl), (Nat.le_of_ble_eq_true rfl)⟩, dX0_cameOutIn_29⟩ (im_X5_knew b1 hb1 (σ 41 v2.toNatClampNeg) (σ 42 v2.toNatClampNeg) (σ 40 v2.toNatClampNeg) σ) (fun q3 => ?_)
      refine ev_aload_n (pc := 32) (i := 0) 0 dX0_cameOutIn_32 rfl rfl ?_
      refine ev_getR (pc := 33) (t := 43) 4 ag_C0 (rfl) (by decide) (Nat.le_of_ble_eq_true rfl) rfl rfl ag_fl_X0_25 dX0_cameOutIn_33 ?_
      refine ev_iload_n (pc := 36) (i := 2) 2 dX0_cameOutIn_36 rfl rfl ?_
      refine ev_iald (pc := 37) (rfl) (by decide) dX0_cameOutIn_37 ?_
      refine ev_iconst (pc := 38) (v := 1) dX0_cameOutIn_38 (by decide) ?_
      refine ev_icmp_ne (pc := 39) (tgt := 46) dX0_cameOutIn_39 rfl ?_ ?_
      · refine ev_iconst (pc := 42) (v := 1) dX0_cameOutIn_42 (by decide) ?_
        refine ev_goto (pc := 43) (tgt := 47) dX0_cameOutIn_43 rfl ?_
        exact ev_X0_cameOutIn_b47 n b1 hb1 σ (fn_X0_cameOutIn_b2 n b1 σ i) ih v2 q3 1
      · refine ev_iconst (pc := 46) (v := 0) dX0_cameOutIn_46 (by decide) ?_
        exact ev_X0_cameOutIn_b47 n b1 hb1 σ (fn_X0_cameOutIn_b2 n b1 σ i) ih v2 q3 0
def fn_X0_cameOutIn (n : Nat) (b1 : Nat) (σ : Sg) : Option Int32 :=
  (fn_X0_cameOutIn_b2 n b1 σ n 0)
set_option maxRecDepth 20000 in
set_option maxHeartbeats 4000000 in
theorem im_X0_cameOutIn (n : Nat) (b1 : Nat) (hb1 : ag_Y b1) (σ : Sg) : Im yX0_cameOutIn mX0_cameOutIn 2 46 (jI σ) [.ref 39, .ref b1] σ (fn_X0_cameOutIn n b1 σ) := by
  refine Im.of (by decide +kernel) rfl (Nat.le_of_ble_eq_true rfl) ?_
  show Ev mX0_cameOutIn 2 46 (jI σ) 0 [(0, .ref 39), (1, .ref b1)] [] σ (fn_X0_cameOutIn n b1 σ)
  unfold fn_X0_cameOutIn
  refine ev_iconst (pc := 0) (v := 0) dX0_cameOutIn_0 (by decide) ?_
  refine ev_istore_n (pc := 1) (i := 2) (lv' := [(2, .int 0), (0, .ref 39), (1, .ref b1)]) dX0_cameOutIn_1 rfl (Nat.le_of_ble_eq_true rfl) rfl ?_
  refine ev_sub [1, 2, 0] rfl ?_
  exact ev_X0_cameOutIn_b2 n b1 hb1 σ n 0
-- X5_takeFrom
def mX5_takeFrom : Md := (RX5, cX5_takeFrom, 2, none)
theorem mv_X5_takeFrom : ag_Mv yX5_takeFrom mX5_takeFrom 1 := ⟨ag_co_X5_takeFrom, ag_im_X5_takeFrom, ag_se_X5_takeFrom, ag_ini_X5, by decide +kernel⟩
theorem dX5_takeFrom_0 : decode mX5_takeFrom.2.1 0 = .ok (.aload_n 0, 1) := by decide +kernel
theorem dX5_takeFrom_1 : decode mX5_takeFrom.2.1 1 = .ok (.getfield 12, 3) := by decide +kernel
theorem dX5_takeFrom_4 : decode mX5_takeFrom.2.1 4 = .ok (.aload_n 1, 1) := by decide +kernel
theorem dX5_takeFrom_5 : decode mX5_takeFrom.2.1 5 = .ok (.getfield 12, 3) := by decide +kernel
theorem dX5_takeFrom_8 : decode mX5_takeFrom.2.1 8 = .ok (.invokevirtual 51, 3) := by decide +kernel
theorem dX5_takeFrom_11 : decode mX5_takeFrom.2.1 11 = .ok (.aload_n 0, 1) := by decide +kernel
theorem dX5_takeFrom_12 : decode mX5_takeFrom.2.1 12 = .ok (.getfield 21, 3) := by decide +kernel
theorem dX5_takeFrom_15 : decode mX5_takeFrom.2.1 15 = .ok (.aload_n 1, 1) := by decide +kernel
theorem dX5_takeFrom_16 : decode mX5_takeFrom.2.1 16 = .ok (.getfield 21, 3) := by decide +kernel
theorem dX5_takeFrom_19 : decode mX5_takeFrom.2.1 19 = .ok (.invokevirtual 55, 3) := by decide +kernel
theorem dX5_takeFrom_22 : decode mX5_takeFrom.2.1 22 = .ok (.aload_n 0, 1) := by decide +kernel
theorem dX5_takeFrom_23 : decode mX5_takeFrom.2.1 23 = .ok (.aload_n 1, 1) := by decide +kernel
theorem dX5_takeFrom_24 : decode mX5_takeFrom.2.1 24 = .ok (.getfield 25, 3) := by decide +kernel
theorem dX5_takeFrom_27 : decode mX5_takeFrom.2.1 27 = .ok (.putfield 25, 3) := by decide +kernel
theorem dX5_takeFrom_30 : decode mX5_takeFrom.2.1 30 = .ok (.return_, 1) := by decide +kernel
def fn_X5_takeFrom (b : Nat) (b1 : Nat) (σ : Sg) : Option Sg :=
  (Option.bind (fn_X1_takeFrom (b + 1) (b1 + 1) σ) fun q4 =>
  (Option.bind (fn_X2_takeFrom (b + 7) (b1 + 7) q4) fun q5 =>
  (some (ag_up q5 b 2 (q5 b1 2)))))
set_option maxRecDepth 20000 in
set_option maxHeartbeats 4000000 in
theorem im_X5_takeFrom (b : Nat) (hb : ag_Y b) (b1 : Nat) (hb1 : ag_Y b1) (σ : Sg) : Im yX5_takeFrom mX5_takeFrom 2 81 jV [.ref b, .ref b1] σ (fn_X5_takeFrom b b1 σ) := by
  refine Im.of (by decide +kernel) rfl (Nat.le_of_ble_eq_true rfl) ?_
  show Ev mX5_takeFrom 2 81 jV 0 [(0, .ref b), (1, .ref b1)] [] σ (fn_X5_takeFrom b b1 σ)
  unfold fn_X5_takeFrom
  refine ev_aload_n (pc := 0) (i := 0) 0 dX5_takeFrom_0 rfl rfl ?_
  refine ev_getR (pc := 1) (t := (b + 1)) 0 ag_C5 (ag_Yk hb).1 (ag_Yk hb).2 (Nat.le_of_ble_eq_true rfl) (ag_Yt0 hb) rfl ag_fl_X5_12 dX5_takeFrom_1 ?_
  refine ev_aload_n (pc := 4) (i := 1) 1 dX5_takeFrom_4 rfl rfl ?_
  refine ev_getR (pc := 5) (t := (b1 + 1)) 0 ag_C5 (ag_Yk hb1).1 (ag_Yk hb1).2 (Nat.le_of_ble_eq_true rfl) (ag_Yt0 hb1) rfl ag_fl_X5_12 dX5_takeFrom_5 ?_
  refine ev_vV (pc := 8) (as := [.ref (b1 + 1)]) (rest := []) ⟨1, 51, 6, TX1, tyX1, ag_C1, ⟨(ag_Fk (ag_YF hb)).1, (ag_Fk (ag_YF hb)).2⟩, mv_X1_takeFrom, ag_ml_X5_51, rfl, (Nat.le_of_ble_eq_true rfl), ⟨(Nat.le_of_ble_eq_true rfl), (Nat.le_of_ble_eq_true rfl)⟩, dX5_takeFrom_8⟩ (im_X1_takeFrom (b + 1) (ag_YF hb) (b1 + 1) (ag_YF hb1) σ) (fun q4 => ?_)
  refine ev_aload_n (pc := 11) (i := 0) 0 dX5_takeFrom_11 rfl rfl ?_
  refine ev_getR (pc := 12) (t := (b + 7)) 1 ag_C5 (ag_Yk hb).1 (ag_Yk hb).2 (Nat.le_of_ble_eq_true rfl) (ag_Yt1 hb) rfl ag_fl_X5_21 dX5_takeFrom_12 ?_
  refine ev_aload_n (pc := 15) (i := 1) 1 dX5_takeFrom_15 rfl rfl ?_
  refine ev_getR (pc := 16) (t := (b1 + 7)) 1 ag_C5 (ag_Yk hb1).1 (ag_Yk hb1).2 (Nat.le_of_ble_eq_true rfl) (ag_Yt1 hb1) rfl ag_fl_X5_21 dX5_takeFrom_16 ?_
  refine ev_vV (pc := 19) (as := [.ref (b1 + 7)]) (rest := []) ⟨2, 55, 6, TX2, tyX2, ag_C2, ⟨(ag_Pk (ag_YP hb)).1, (ag_Pk (ag_YP hb)).2⟩, mv_X2_takeFrom, ag_ml_X5_55, rfl, (Nat.le_of_ble_eq_true rfl), ⟨(Nat.le_of_ble_eq_true rfl), (Nat.le_of_ble_eq_true rfl)⟩, dX5_takeFrom_19⟩ (im_X2_takeFrom (b + 7) (ag_YP hb) (b1 + 7) (ag_YP hb1) q4) (fun q5 => ?_)
  refine ev_aload_n (pc := 22) (i := 0) 0 dX5_takeFrom_22 rfl rfl ?_
  refine ev_aload_n (pc := 23) (i := 1) 1 dX5_takeFrom_23 rfl rfl ?_
  refine ev_getI (pc := 24) 2 ag_C5 (ag_Yk hb1).1 (ag_Yk hb1).2 (Nat.le_of_ble_eq_true rfl) (ag_Yt2 hb1) rfl ag_fl_X5_25 dX5_takeFrom_24 ?_
  refine ev_put (pc := 27) 2 ag_C5 (ag_Yk hb).1 (ag_Yk hb).2 (Nat.le_of_ble_eq_true rfl) (ag_Yt2 hb) rfl ag_fl_X5_25 rfl rfl rfl dX5_takeFrom_27 ?_
  exact ev_ret (fun r h => by cases h; rfl) rfl dX5_takeFrom_30
-- X5_dueYear
def mX5_dueYear : Md := (RX5, cX5_dueYear, 7, some .int)
theorem mv_X5_dueYear : ag_Mv yX5_dueYear mX5_dueYear 1 := ⟨ag_co_X5_dueYear, ag_im_X5_dueYear, ag_se_X5_dueYear, ag_ini_X5, by decide +kernel⟩
theorem dX5_dueYear_0 : decode mX5_dueYear.2.1 0 = .ok (.aload_n 0, 1) := by decide +kernel
theorem dX5_dueYear_1 : decode mX5_dueYear.2.1 1 = .ok (.getfield 21, 3) := by decide +kernel
theorem dX5_dueYear_4 : decode mX5_dueYear.2.1 4 = .ok (.getfield 81, 3) := by decide +kernel
theorem dX5_dueYear_7 : decode mX5_dueYear.2.1 7 = .ok (.iload_n 1, 1) := by decide +kernel
theorem dX5_dueYear_8 : decode mX5_dueYear.2.1 8 = .ok (.iaload, 1) := by decide +kernel
theorem dX5_dueYear_9 : decode mX5_dueYear.2.1 9 = .ok (.istore_n 2, 1) := by decide +kernel
theorem dX5_dueYear_10 : decode mX5_dueYear.2.1 10 = .ok (.aload_n 0, 1) := by decide +kernel
theorem dX5_dueYear_11 : decode mX5_dueYear.2.1 11 = .ok (.getfield 21, 3) := by decide +kernel
theorem dX5_dueYear_14 : decode mX5_dueYear.2.1 14 = .ok (.getfield 84, 3) := by decide +kernel
theorem dX5_dueYear_17 : decode mX5_dueYear.2.1 17 = .ok (.iload_n 1, 1) := by decide +kernel
theorem dX5_dueYear_18 : decode mX5_dueYear.2.1 18 = .ok (.iaload, 1) := by decide +kernel
theorem dX5_dueYear_19 : decode mX5_dueYear.2.1 19 = .ok (.istore_n 3, 1) := by decide +kernel
theorem dX5_dueYear_20 : decode mX5_dueYear.2.1 20 = .ok (.aload_n 0, 1) := by decide +kernel
theorem dX5_dueYear_21 : decode mX5_dueYear.2.1 21 = .ok (.getfield 21, 3) := by decide +kernel
theorem dX5_dueYear_24 : decode mX5_dueYear.2.1 24 = .ok (.getfield 101, 3) := by decide +kernel
theorem dX5_dueYear_27 : decode mX5_dueYear.2.1 27 = .ok (.iload_n 1, 1) := by decide +kernel
theorem dX5_dueYear_28 : decode mX5_dueYear.2.1 28 = .ok (.iaload, 1) := by decide +kernel
theorem dX5_dueYear_29 : decode mX5_dueYear.2.1 29 = .ok (.istore 4, 2) := by decide +kernel
theorem dX5_dueYear_31 : decode mX5_dueYear.2.1 31 = .ok (.aload_n 0, 1) := by decide +kernel
theorem dX5_dueYear_32 : decode mX5_dueYear.2.1 32 = .ok (.getfield 12, 3) := by decide +kernel
theorem dX5_dueYear_35 : decode mX5_dueYear.2.1 35 = .ok (.iload_n 3, 1) := by decide +kernel
theorem dX5_dueYear_36 : decode mX5_dueYear.2.1 36 = .ok (.iload_n 2, 1) := by decide +kernel
theorem dX5_dueYear_37 : decode mX5_dueYear.2.1 37 = .ok (.invokevirtual 87, 3) := by decide +kernel
theorem dX5_dueYear_40 : decode mX5_dueYear.2.1 40 = .ok (.ifCond .eq 15, 3) := by decide +kernel
theorem dX5_dueYear_43 : decode mX5_dueYear.2.1 43 = .ok (.aload_n 0, 1) := by decide +kernel
theorem dX5_dueYear_44 : decode mX5_dueYear.2.1 44 = .ok (.getfield 12, 3) := by decide +kernel
theorem dX5_dueYear_47 : decode mX5_dueYear.2.1 47 = .ok (.iload 4, 2) := by decide +kernel
theorem dX5_dueYear_49 : decode mX5_dueYear.2.1 49 = .ok (.invokevirtual 130, 3) := by decide +kernel
theorem dX5_dueYear_52 : decode mX5_dueYear.2.1 52 = .ok (.ifCond .ne 7, 3) := by decide +kernel
theorem dX5_dueYear_55 : decode mX5_dueYear.2.1 55 = .ok (.sipush 200, 3) := by decide +kernel
theorem dX5_dueYear_58 : decode mX5_dueYear.2.1 58 = .ok (.ireturn, 1) := by decide +kernel
theorem dX5_dueYear_59 : decode mX5_dueYear.2.1 59 = .ok (.iconst 0, 1) := by decide +kernel
theorem dX5_dueYear_60 : decode mX5_dueYear.2.1 60 = .ok (.aload_n 0, 1) := by decide +kernel
theorem dX5_dueYear_61 : decode mX5_dueYear.2.1 61 = .ok (.getfield 12, 3) := by decide +kernel
theorem dX5_dueYear_64 : decode mX5_dueYear.2.1 64 = .ok (.iload_n 3, 1) := by decide +kernel
theorem dX5_dueYear_65 : decode mX5_dueYear.2.1 65 = .ok (.iload_n 2, 1) := by decide +kernel
theorem dX5_dueYear_66 : decode mX5_dueYear.2.1 66 = .ok (.invokevirtual 133, 3) := by decide +kernel
theorem dX5_dueYear_69 : decode mX5_dueYear.2.1 69 = .ok (.aload_n 0, 1) := by decide +kernel
theorem dX5_dueYear_70 : decode mX5_dueYear.2.1 70 = .ok (.getfield 12, 3) := by decide +kernel
theorem dX5_dueYear_73 : decode mX5_dueYear.2.1 73 = .ok (.getfield 136, 3) := by decide +kernel
theorem dX5_dueYear_76 : decode mX5_dueYear.2.1 76 = .ok (.iload 4, 2) := by decide +kernel
theorem dX5_dueYear_78 : decode mX5_dueYear.2.1 78 = .ok (.iaload, 1) := by decide +kernel
theorem dX5_dueYear_79 : decode mX5_dueYear.2.1 79 = .ok (.isub, 1) := by decide +kernel
theorem dX5_dueYear_80 : decode mX5_dueYear.2.1 80 = .ok (.invokestatic 139, 3) := by decide +kernel
theorem dX5_dueYear_83 : decode mX5_dueYear.2.1 83 = .ok (.istore 5, 2) := by decide +kernel
theorem dX5_dueYear_85 : decode mX5_dueYear.2.1 85 = .ok (.iload_n 2, 1) := by decide +kernel
theorem dX5_dueYear_86 : decode mX5_dueYear.2.1 86 = .ok (.aload_n 0, 1) := by decide +kernel
theorem dX5_dueYear_87 : decode mX5_dueYear.2.1 87 = .ok (.getfield 12, 3) := by decide +kernel
theorem dX5_dueYear_90 : decode mX5_dueYear.2.1 90 = .ok (.getfield 142, 3) := by decide +kernel
theorem dX5_dueYear_93 : decode mX5_dueYear.2.1 93 = .ok (.iload 4, 2) := by decide +kernel
theorem dX5_dueYear_95 : decode mX5_dueYear.2.1 95 = .ok (.iaload, 1) := by decide +kernel
theorem dX5_dueYear_96 : decode mX5_dueYear.2.1 96 = .ok (.iload 5, 2) := by decide +kernel
theorem dX5_dueYear_98 : decode mX5_dueYear.2.1 98 = .ok (.iadd, 1) := by decide +kernel
theorem dX5_dueYear_99 : decode mX5_dueYear.2.1 99 = .ok (.invokestatic 139, 3) := by decide +kernel
theorem dX5_dueYear_102 : decode mX5_dueYear.2.1 102 = .ok (.istore 6, 2) := by decide +kernel
theorem dX5_dueYear_104 : decode mX5_dueYear.2.1 104 = .ok (.aload_n 0, 1) := by decide +kernel
theorem dX5_dueYear_105 : decode mX5_dueYear.2.1 105 = .ok (.getfield 12, 3) := by decide +kernel
theorem dX5_dueYear_108 : decode mX5_dueYear.2.1 108 = .ok (.iload 4, 2) := by decide +kernel
theorem dX5_dueYear_110 : decode mX5_dueYear.2.1 110 = .ok (.iload 6, 2) := by decide +kernel
theorem dX5_dueYear_112 : decode mX5_dueYear.2.1 112 = .ok (.invokevirtual 87, 3) := by decide +kernel
theorem dX5_dueYear_115 : decode mX5_dueYear.2.1 115 = .ok (.ifCond .eq 8, 3) := by decide +kernel
theorem dX5_dueYear_118 : decode mX5_dueYear.2.1 118 = .ok (.iload 6, 2) := by decide +kernel
theorem dX5_dueYear_120 : decode mX5_dueYear.2.1 120 = .ok (.goto 6, 3) := by decide +kernel
theorem dX5_dueYear_123 : decode mX5_dueYear.2.1 123 = .ok (.sipush 200, 3) := by decide +kernel
theorem dX5_dueYear_126 : decode mX5_dueYear.2.1 126 = .ok (.ireturn, 1) := by decide +kernel
def fn_X5_dueYear (b : Nat) (x1 : Int32) (σ : Sg) : Option Int32 :=
  (if ag_ib x1 13 = true then (if ag_ib x1 13 = true then (if ag_ib x1 13 = true then (Option.bind (fn_X1_lives (b + 1) (σ (b + 8) x1.toNatClampNeg) (σ (b + 10) x1.toNatClampNeg) σ) fun q6 =>
  (if q6 = 0 then (some 200)
  else (Option.bind (fn_X1_isThere (b + 1) (σ (b + 9) x1.toNatClampNeg) σ) fun q7 =>
  (if q7 = 0 then (some 200)
  else (Option.bind (fn_X1_toldAge (b + 1) (σ (b + 8) x1.toNatClampNeg) (σ (b + 10) x1.toNatClampNeg) σ) fun q8 =>
  (if ag_ib (σ (b + 9) x1.toNatClampNeg) 10 = true then (if ag_ib (σ (b + 9) x1.toNatClampNeg) 10 = true then (Option.bind (fn_X1_lives (b + 1) (σ (b + 9) x1.toNatClampNeg) (ag_max (σ (b + 10) x1.toNatClampNeg) ((σ (b + 2) (σ (b + 9) x1.toNatClampNeg).toNatClampNeg) + (ag_max 0 (q8 - (σ (b + 5) (σ (b + 9) x1.toNatClampNeg).toNatClampNeg))))) σ) fun q9 =>
  (if q9 = 0 then (some 200)
  else (some (ag_max (σ (b + 10) x1.toNatClampNeg) ((σ (b + 2) (σ (b + 9) x1.toNatClampNeg).toNatClampNeg) + (ag_max 0 (q8 - (σ (b + 5) (σ (b + 9) x1.toNatClampNeg).toNatClampNeg)))))))) else none) else none)))))) else none) else none) else none)
set_option maxRecDepth 20000 in
set_option maxHeartbeats 4000000 in
theorem im_X5_dueYear (b : Nat) (hb : ag_Y b) (x1 : Int32) (σ : Sg) : Im yX5_dueYear mX5_dueYear 1 22 (jI σ) [.ref b, .int x1] σ (fn_X5_dueYear b x1 σ) := by
  refine Im.of (by decide +kernel) rfl (Nat.le_of_ble_eq_true rfl) ?_
  show Ev mX5_dueYear 1 22 (jI σ) 0 [(0, .ref b), (1, .int x1)] [] σ (fn_X5_dueYear b x1 σ)
  unfold fn_X5_dueYear
  refine ev_aload_n (pc := 0) (i := 0) 0 dX5_dueYear_0 rfl rfl ?_
  refine ev_getR (pc := 1) (t := (b + 7)) 1 ag_C5 (ag_Yk hb).1 (ag_Yk hb).2 (Nat.le_of_ble_eq_true rfl) (ag_Yt1 hb) rfl ag_fl_X5_21 dX5_dueYear_1 ?_
  refine ev_getR (pc := 4) (t := (b + 10)) 3 ag_C2 (ag_Pk (ag_YP hb)).1 (ag_Pk (ag_YP hb)).2 (Nat.le_of_ble_eq_true rfl) (ag_Pt3 (ag_YP hb)) rfl ag_fl_X5_81 dX5_dueYear_4 ?_
  refine ev_iload_n (pc := 7) (i := 1) 1 dX5_dueYear_7 rfl rfl ?_
  refine ev_iald (pc := 8) (ag_Pa3 (ag_YP hb)).1 (ag_Pa3 (ag_YP hb)).2 dX5_dueYear_8 ?_
  refine ev_istore_n (pc := 9) (i := 2) (lv' := [(2, .int (σ (b + 10) x1.toNatClampNeg)), (0, .ref b), (1, .int x1)]) dX5_dueYear_9 rfl (Nat.le_of_ble_eq_true rfl) rfl ?_
  refine ev_aload_n (pc := 10) (i := 0) 1 dX5_dueYear_10 rfl rfl ?_
  refine ev_getR (pc := 11) (t := (b + 7)) 1 ag_C5 (ag_Yk hb).1 (ag_Yk hb).2 (Nat.le_of_ble_eq_true rfl) (ag_Yt1 hb) rfl ag_fl_X5_21 dX5_dueYear_11 ?_
  refine ev_getR (pc := 14) (t := (b + 8)) 1 ag_C2 (ag_Pk (ag_YP hb)).1 (ag_Pk (ag_YP hb)).2 (Nat.le_of_ble_eq_true rfl) (ag_Pt1 (ag_YP hb)) rfl ag_fl_X5_84 dX5_dueYear_14 ?_
  refine ev_iload_n (pc := 17) (i := 1) 2 dX5_dueYear_17 rfl rfl ?_
  refine ev_iald (pc := 18) (ag_Pa1 (ag_YP hb)).1 (ag_Pa1 (ag_YP hb)).2 dX5_dueYear_18 ?_
  refine ev_istore_n (pc := 19) (i := 3) (lv' := [(3, .int (σ (b + 8) x1.toNatClampNeg)), (2, .int (σ (b + 10) x1.toNatClampNeg)), (0, .ref b), (1, .int x1)]) dX5_dueYear_19 rfl (Nat.le_of_ble_eq_true rfl) rfl ?_
  refine ev_aload_n (pc := 20) (i := 0) 2 dX5_dueYear_20 rfl rfl ?_
  refine ev_getR (pc := 21) (t := (b + 7)) 1 ag_C5 (ag_Yk hb).1 (ag_Yk hb).2 (Nat.le_of_ble_eq_true rfl) (ag_Yt1 hb) rfl ag_fl_X5_21 dX5_dueYear_21 ?_
  refine ev_getR (pc := 24) (t := (b + 9)) 2 ag_C2 (ag_Pk (ag_YP hb)).1 (ag_Pk (ag_YP hb)).2 (Nat.le_of_ble_eq_true rfl) (ag_Pt2 (ag_YP hb)) rfl ag_fl_X5_101 dX5_dueYear_24 ?_
  refine ev_iload_n (pc := 27) (i := 1) 3 dX5_dueYear_27 rfl rfl ?_
  refine ev_iald (pc := 28) (ag_Pa2 (ag_YP hb)).1 (ag_Pa2 (ag_YP hb)).2 dX5_dueYear_28 ?_
  refine ev_istore (pc := 29) (lv' := [(4, .int (σ (b + 9) x1.toNatClampNeg)), (3, .int (σ (b + 8) x1.toNatClampNeg)), (2, .int (σ (b + 10) x1.toNatClampNeg)), (0, .ref b), (1, .int x1)]) dX5_dueYear_29 (Nat.le_of_ble_eq_true rfl) rfl ?_
  refine ev_aload_n (pc := 31) (i := 0) 3 dX5_dueYear_31 rfl rfl ?_
  refine ev_getR (pc := 32) (t := (b + 1)) 0 ag_C5 (ag_Yk hb).1 (ag_Yk hb).2 (Nat.le_of_ble_eq_true rfl) (ag_Yt0 hb) rfl ag_fl_X5_12 dX5_dueYear_32 ?_
  refine ev_iload_n (pc := 35) (i := 3) 1 dX5_dueYear_35 rfl rfl ?_
  refine ev_iload_n (pc := 36) (i := 2) 2 dX5_dueYear_36 rfl rfl ?_
  refine ev_vI (pc := 37) (as := [.int (σ (b + 8) x1.toNatClampNeg), .int (σ (b + 10) x1.toNatClampNeg)]) (rest := []) ⟨1, 87, 6, TX1, tyX1, ag_C1, ⟨(ag_Fk (ag_YF hb)).1, (ag_Fk (ag_YF hb)).2⟩, mv_X1_lives, ag_ml_X5_87, rfl, (Nat.le_of_ble_eq_true rfl), ⟨(Nat.le_of_ble_eq_true rfl), (Nat.le_of_ble_eq_true rfl)⟩, dX5_dueYear_37⟩ (im_X1_lives (b + 1) (ag_YF hb) (σ (b + 8) x1.toNatClampNeg) (σ (b + 10) x1.toNatClampNeg) σ) (fun q6 => ?_)
  refine ev_if_eq (pc := 40) (tgt := 55) dX5_dueYear_40 rfl ?_ ?_
  · refine ev_sipush (pc := 55) (v := 200) dX5_dueYear_55 (by decide) ?_
    exact ev_iret (ty := .int) (fun r h => by cases h; rfl) rfl rfl dX5_dueYear_58
  · refine ev_aload_n (pc := 43) (i := 0) 3 dX5_dueYear_43 rfl rfl ?_
    refine ev_getR (pc := 44) (t := (b + 1)) 0 ag_C5 (ag_Yk hb).1 (ag_Yk hb).2 (Nat.le_of_ble_eq_true rfl) (ag_Yt0 hb) rfl ag_fl_X5_12 dX5_dueYear_44 ?_
    refine ev_iload (pc := 47) 0 dX5_dueYear_47 rfl ?_
    refine ev_vI (pc := 49) (as := [.int (σ (b + 9) x1.toNatClampNeg)]) (rest := []) ⟨1, 130, 6, TX1, tyX1, ag_C1, ⟨(ag_Fk (ag_YF hb)).1, (ag_Fk (ag_YF hb)).2⟩, mv_X1_isThere, ag_ml_X5_130, rfl, (Nat.le_of_ble_eq_true rfl), ⟨(Nat.le_of_ble_eq_true rfl), (Nat.le_of_ble_eq_true rfl)⟩, dX5_dueYear_49⟩ (im_X1_isThere (b + 1) (ag_YF hb) (σ (b + 9) x1.toNatClampNeg) σ) (fun q7 => ?_)
    refine ev_if_ne (pc := 52) (tgt := 59) dX5_dueYear_52 rfl ?_ ?_
    · refine ev_sipush (pc := 55) (v := 200) dX5_dueYear_55 (by decide) ?_
      exact ev_iret (ty := .int) (fun r h => by cases h; rfl) rfl rfl dX5_dueYear_58
    · refine ev_iconst (pc := 59) (v := 0) dX5_dueYear_59 (by decide) ?_
      refine ev_aload_n (pc := 60) (i := 0) 3 dX5_dueYear_60 rfl rfl ?_
      refine ev_getR (pc := 61) (t := (b + 1)) 0 ag_C5 (ag_Yk hb).1 (ag_Yk hb).2 (Nat.le_of_ble_eq_true rfl) (ag_Yt0 hb) rfl ag_fl_X5_12 dX5_dueYear_61 ?_
      refine ev_iload_n (pc := 64) (i := 3) 1 dX5_dueYear_64 rfl rfl ?_
      refine ev_iload_n (pc := 65) (i := 2) 2 dX5_dueYear_65 rfl rfl ?_
      refine ev_vI (pc := 66) (as := [.int (σ (b + 8) x1.toNatClampNeg), .int (σ (b + 10) x1.toNatClampNeg)]) (rest := [.int 0]) ⟨1, 133, 6, TX1, tyX1, ag_C1, ⟨(ag_Fk (ag_YF hb)).1, (ag_Fk (ag_YF hb)).2⟩, mv_X1_toldAge, ag_ml_X5_133, rfl, (Nat.le_of_ble_eq_true rfl), ⟨(Nat.le_of_ble_eq_true rfl), (Nat.le_of_ble_eq_true rfl)⟩, dX5_dueYear_66⟩ (im_X1_toldAge (b + 1) (ag_YF hb) (σ (b + 8) x1.toNatClampNeg) (σ (b + 10) x1.toNatClampNeg) σ) (fun q8 => ?_)
      refine ev_aload_n (pc := 69) (i := 0) 3 dX5_dueYear_69 rfl rfl ?_
      refine ev_getR (pc := 70) (t := (b + 1)) 0 ag_C5 (ag_Yk hb).1 (ag_Yk hb).2 (Nat.le_of_ble_eq_true rfl) (ag_Yt0 hb) rfl ag_fl_X5_12 dX5_dueYear_70 ?_
      refine ev_getR (pc := 73) (t := (b + 5)) 4 ag_C1 (ag_Fk (ag_YF hb)).1 (ag_Fk (ag_YF hb)).2 (Nat.le_of_ble_eq_true rfl) (ag_Ft4 (ag_YF hb)) rfl ag_fl_X5_136 dX5_dueYear_73 ?_
      refine ev_iload (pc := 76) 0 dX5_dueYear_76 rfl ?_
      refine ev_iald (pc := 78) (ag_Fa4 (ag_YF hb)).1 (ag_Fa4 (ag_YF hb)).2 dX5_dueYear_78 ?_
      refine ev_isub (pc := 79) dX5_dueYear_79 ?_
      refine ev_mmax (pc := 80) ag_ml_X5_139 ⟨(Nat.le_of_ble_eq_true rfl), (Nat.le_of_ble_eq_true rfl)⟩ dX5_dueYear_80 ?_
      refine ev_istore (pc := 83) (lv' := [(5, .int (ag_max 0 (q8 - (σ (b + 5) (σ (b + 9) x1.toNatClampNeg).toNatClampNeg)))), (4, .int (σ (b + 9) x1.toNatClampNeg)), (3, .int (σ (b + 8) x1.toNatClampNeg)), (2, .int (σ (b + 10) x1.toNatClampNeg)), (0, .ref b), (1, .int x1)]) dX5_dueYear_83 (Nat.le_of_ble_eq_true rfl) rfl ?_
      refine ev_iload_n (pc := 85) (i := 2) 3 dX5_dueYear_85 rfl rfl ?_
      refine ev_aload_n (pc := 86) (i := 0) 4 dX5_dueYear_86 rfl rfl ?_
      refine ev_getR (pc := 87) (t := (b + 1)) 0 ag_C5 (ag_Yk hb).1 (ag_Yk hb).2 (Nat.le_of_ble_eq_true rfl) (ag_Yt0 hb) rfl ag_fl_X5_12 dX5_dueYear_87 ?_
      refine ev_getR (pc := 90) (t := (b + 2)) 1 ag_C1 (ag_Fk (ag_YF hb)).1 (ag_Fk (ag_YF hb)).2 (Nat.le_of_ble_eq_true rfl) (ag_Ft1 (ag_YF hb)) rfl ag_fl_X5_142 dX5_dueYear_90 ?_
      refine ev_iload (pc := 93) 1 dX5_dueYear_93 rfl ?_
      refine ev_iald (pc := 95) (ag_Fa1 (ag_YF hb)).1 (ag_Fa1 (ag_YF hb)).2 dX5_dueYear_95 ?_
      refine ev_iload (pc := 96) 0 dX5_dueYear_96 rfl ?_
      refine ev_iadd (pc := 98) dX5_dueYear_98 ?_
      refine ev_mmax (pc := 99) ag_ml_X5_139 ⟨(Nat.le_of_ble_eq_true rfl), (Nat.le_of_ble_eq_true rfl)⟩ dX5_dueYear_99 ?_
      refine ev_istore (pc := 102) (lv' := [(6, .int (ag_max (σ (b + 10) x1.toNatClampNeg) ((σ (b + 2) (σ (b + 9) x1.toNatClampNeg).toNatClampNeg) + (ag_max 0 (q8 - (σ (b + 5) (σ (b + 9) x1.toNatClampNeg).toNatClampNeg)))))), (5, .int (ag_max 0 (q8 - (σ (b + 5) (σ (b + 9) x1.toNatClampNeg).toNatClampNeg)))), (4, .int (σ (b + 9) x1.toNatClampNeg)), (3, .int (σ (b + 8) x1.toNatClampNeg)), (2, .int (σ (b + 10) x1.toNatClampNeg)), (0, .ref b), (1, .int x1)]) dX5_dueYear_102 (Nat.le_of_ble_eq_true rfl) rfl ?_
      refine ev_aload_n (pc := 104) (i := 0) 5 dX5_dueYear_104 rfl rfl ?_
      refine ev_getR (pc := 105) (t := (b + 1)) 0 ag_C5 (ag_Yk hb).1 (ag_Yk hb).2 (Nat.le_of_ble_eq_true rfl) (ag_Yt0 hb) rfl ag_fl_X5_12 dX5_dueYear_105 ?_
      refine ev_iload (pc := 108) 2 dX5_dueYear_108 rfl ?_
      refine ev_iload (pc := 110) 0 dX5_dueYear_110 rfl ?_
      refine ev_vI (pc := 112) (as := [.int (σ (b + 9) x1.toNatClampNeg), .int (ag_max (σ (b + 10) x1.toNatClampNeg) ((σ (b + 2) (σ (b + 9) x1.toNatClampNeg).toNatClampNeg) + (ag_max 0 (q8 - (σ (b + 5) (σ (b + 9) x1.toNatClampNeg).toNatClampNeg)))))]) (rest := []) ⟨1, 87, 6, TX1, tyX1, ag_C1, ⟨(ag_Fk (ag_YF hb)).1, (ag_Fk (ag_YF hb)).2⟩, mv_X1_lives, ag_ml_X5_87, rfl, (Nat.le_of_ble_eq_true rfl), ⟨(Nat.le_of_ble_eq_true rfl), (Nat.le_of_ble_eq_true rfl)⟩, dX5_dueYear_112⟩ (im_X1_lives (b + 1) (ag_YF hb) (σ (b + 9) x1.toNatClampNeg) (ag_max (σ (b + 10) x1.toNatClampNeg) ((σ (b + 2) (σ (b + 9) x1.toNatClampNeg).toNatClampNeg) + (ag_max 0 (q8 - (σ (b + 5) (σ (b + 9) x1.toNatClampNeg).toNatClampNeg))))) σ) (fun q9 => ?_)
      refine ev_if_eq (pc := 115) (tgt := 123) dX5_dueYear_115 rfl ?_ ?_
      · refine ev_sipush (pc := 123) (v := 200) dX5_dueYear_123 (by decide) ?_
        exact ev_iret (ty := .int) (fun r h => by cases h; rfl) rfl rfl dX5_dueYear_126
      · refine ev_iload (pc := 118) 0 dX5_dueYear_118 rfl ?_
        refine ev_goto (pc := 120) (tgt := 126) dX5_dueYear_120 rfl ?_
        exact ev_iret (ty := .int) (fun r h => by cases h; rfl) rfl rfl dX5_dueYear_126
-- X5_writeThoseOf
def mX5_writeThoseOf : Md := (RX5, cX5_writeThoseOf, 3, none)
theorem mv_X5_writeThoseOf : ag_Mv yX5_writeThoseOf mX5_writeThoseOf 1 := ⟨ag_co_X5_writeThoseOf, ag_im_X5_writeThoseOf, ag_se_X5_writeThoseOf, ag_ini_X5, by decide +kernel⟩
theorem dX5_writeThoseOf_0 : decode mX5_writeThoseOf.2.1 0 = .ok (.iconst 0, 1) := by decide +kernel
theorem dX5_writeThoseOf_1 : decode mX5_writeThoseOf.2.1 1 = .ok (.istore_n 2, 1) := by decide +kernel
theorem dX5_writeThoseOf_2 : decode mX5_writeThoseOf.2.1 2 = .ok (.iload_n 2, 1) := by decide +kernel
theorem dX5_writeThoseOf_3 : decode mX5_writeThoseOf.2.1 3 = .ok (.aload_n 0, 1) := by decide +kernel
theorem dX5_writeThoseOf_4 : decode mX5_writeThoseOf.2.1 4 = .ok (.getfield 21, 3) := by decide +kernel
theorem dX5_writeThoseOf_7 : decode mX5_writeThoseOf.2.1 7 = .ok (.getfield 78, 3) := by decide +kernel
theorem dX5_writeThoseOf_10 : decode mX5_writeThoseOf.2.1 10 = .ok (.if_icmp .ge 106, 3) := by decide +kernel
theorem dX5_writeThoseOf_13 : decode mX5_writeThoseOf.2.1 13 = .ok (.aload_n 0, 1) := by decide +kernel
theorem dX5_writeThoseOf_14 : decode mX5_writeThoseOf.2.1 14 = .ok (.getfield 21, 3) := by decide +kernel
theorem dX5_writeThoseOf_17 : decode mX5_writeThoseOf.2.1 17 = .ok (.getfield 81, 3) := by decide +kernel
theorem dX5_writeThoseOf_20 : decode mX5_writeThoseOf.2.1 20 = .ok (.iload_n 2, 1) := by decide +kernel
theorem dX5_writeThoseOf_21 : decode mX5_writeThoseOf.2.1 21 = .ok (.iaload, 1) := by decide +kernel
theorem dX5_writeThoseOf_22 : decode mX5_writeThoseOf.2.1 22 = .ok (.iload_n 1, 1) := by decide +kernel
theorem dX5_writeThoseOf_23 : decode mX5_writeThoseOf.2.1 23 = .ok (.if_icmp .ne 87, 3) := by decide +kernel
theorem dX5_writeThoseOf_26 : decode mX5_writeThoseOf.2.1 26 = .ok (.aload_n 0, 1) := by decide +kernel
theorem dX5_writeThoseOf_27 : decode mX5_writeThoseOf.2.1 27 = .ok (.getfield 25, 3) := by decide +kernel
theorem dX5_writeThoseOf_30 : decode mX5_writeThoseOf.2.1 30 = .ok (.iload_n 2, 1) := by decide +kernel
theorem dX5_writeThoseOf_31 : decode mX5_writeThoseOf.2.1 31 = .ok (.ishr, 1) := by decide +kernel
theorem dX5_writeThoseOf_32 : decode mX5_writeThoseOf.2.1 32 = .ok (.iconst 1, 1) := by decide +kernel
theorem dX5_writeThoseOf_33 : decode mX5_writeThoseOf.2.1 33 = .ok (.iand, 1) := by decide +kernel
theorem dX5_writeThoseOf_34 : decode mX5_writeThoseOf.2.1 34 = .ok (.ifCond .ne 76, 3) := by decide +kernel
theorem dX5_writeThoseOf_37 : decode mX5_writeThoseOf.2.1 37 = .ok (.aload_n 0, 1) := by decide +kernel
theorem dX5_writeThoseOf_38 : decode mX5_writeThoseOf.2.1 38 = .ok (.getfield 12, 3) := by decide +kernel
theorem dX5_writeThoseOf_41 : decode mX5_writeThoseOf.2.1 41 = .ok (.aload_n 0, 1) := by decide +kernel
theorem dX5_writeThoseOf_42 : decode mX5_writeThoseOf.2.1 42 = .ok (.getfield 21, 3) := by decide +kernel
theorem dX5_writeThoseOf_45 : decode mX5_writeThoseOf.2.1 45 = .ok (.getfield 84, 3) := by decide +kernel
theorem dX5_writeThoseOf_48 : decode mX5_writeThoseOf.2.1 48 = .ok (.iload_n 2, 1) := by decide +kernel
theorem dX5_writeThoseOf_49 : decode mX5_writeThoseOf.2.1 49 = .ok (.iaload, 1) := by decide +kernel
theorem dX5_writeThoseOf_50 : decode mX5_writeThoseOf.2.1 50 = .ok (.iload_n 1, 1) := by decide +kernel
theorem dX5_writeThoseOf_51 : decode mX5_writeThoseOf.2.1 51 = .ok (.invokevirtual 87, 3) := by decide +kernel
theorem dX5_writeThoseOf_54 : decode mX5_writeThoseOf.2.1 54 = .ok (.ifCond .eq 56, 3) := by decide +kernel
theorem dX5_writeThoseOf_57 : decode mX5_writeThoseOf.2.1 57 = .ok (.aload_n 0, 1) := by decide +kernel
theorem dX5_writeThoseOf_58 : decode mX5_writeThoseOf.2.1 58 = .ok (.getfield 42, 3) := by decide +kernel
theorem dX5_writeThoseOf_61 : decode mX5_writeThoseOf.2.1 61 = .ok (.aload_n 0, 1) := by decide +kernel
theorem dX5_writeThoseOf_62 : decode mX5_writeThoseOf.2.1 62 = .ok (.getfield 21, 3) := by decide +kernel
theorem dX5_writeThoseOf_65 : decode mX5_writeThoseOf.2.1 65 = .ok (.getfield 84, 3) := by decide +kernel
theorem dX5_writeThoseOf_68 : decode mX5_writeThoseOf.2.1 68 = .ok (.iload_n 2, 1) := by decide +kernel
theorem dX5_writeThoseOf_69 : decode mX5_writeThoseOf.2.1 69 = .ok (.iaload, 1) := by decide +kernel
theorem dX5_writeThoseOf_70 : decode mX5_writeThoseOf.2.1 70 = .ok (.iaload, 1) := by decide +kernel
theorem dX5_writeThoseOf_71 : decode mX5_writeThoseOf.2.1 71 = .ok (.aload_n 0, 1) := by decide +kernel
theorem dX5_writeThoseOf_72 : decode mX5_writeThoseOf.2.1 72 = .ok (.getfield 21, 3) := by decide +kernel
theorem dX5_writeThoseOf_75 : decode mX5_writeThoseOf.2.1 75 = .ok (.getfield 91, 3) := by decide +kernel
theorem dX5_writeThoseOf_78 : decode mX5_writeThoseOf.2.1 78 = .ok (.iload_n 2, 1) := by decide +kernel
theorem dX5_writeThoseOf_79 : decode mX5_writeThoseOf.2.1 79 = .ok (.iaload, 1) := by decide +kernel
theorem dX5_writeThoseOf_80 : decode mX5_writeThoseOf.2.1 80 = .ok (.ishr, 1) := by decide +kernel
theorem dX5_writeThoseOf_81 : decode mX5_writeThoseOf.2.1 81 = .ok (.iconst 1, 1) := by decide +kernel
theorem dX5_writeThoseOf_82 : decode mX5_writeThoseOf.2.1 82 = .ok (.iand, 1) := by decide +kernel
theorem dX5_writeThoseOf_83 : decode mX5_writeThoseOf.2.1 83 = .ok (.iconst 1, 1) := by decide +kernel
theorem dX5_writeThoseOf_84 : decode mX5_writeThoseOf.2.1 84 = .ok (.if_icmp .ne 26, 3) := by decide +kernel
theorem dX5_writeThoseOf_87 : decode mX5_writeThoseOf.2.1 87 = .ok (.aload_n 0, 1) := by decide +kernel
theorem dX5_writeThoseOf_88 : decode mX5_writeThoseOf.2.1 88 = .ok (.dup, 1) := by decide +kernel
theorem dX5_writeThoseOf_89 : decode mX5_writeThoseOf.2.1 89 = .ok (.getfield 29, 3) := by decide +kernel
theorem dX5_writeThoseOf_92 : decode mX5_writeThoseOf.2.1 92 = .ok (.iconst 1, 1) := by decide +kernel
theorem dX5_writeThoseOf_93 : decode mX5_writeThoseOf.2.1 93 = .ok (.iload_n 2, 1) := by decide +kernel
theorem dX5_writeThoseOf_94 : decode mX5_writeThoseOf.2.1 94 = .ok (.ishl, 1) := by decide +kernel
theorem dX5_writeThoseOf_95 : decode mX5_writeThoseOf.2.1 95 = .ok (.ior, 1) := by decide +kernel
theorem dX5_writeThoseOf_96 : decode mX5_writeThoseOf.2.1 96 = .ok (.putfield 29, 3) := by decide +kernel
theorem dX5_writeThoseOf_99 : decode mX5_writeThoseOf.2.1 99 = .ok (.aload_n 0, 1) := by decide +kernel
theorem dX5_writeThoseOf_100 : decode mX5_writeThoseOf.2.1 100 = .ok (.getfield 39, 3) := by decide +kernel
theorem dX5_writeThoseOf_103 : decode mX5_writeThoseOf.2.1 103 = .ok (.iload_n 2, 1) := by decide +kernel
theorem dX5_writeThoseOf_104 : decode mX5_writeThoseOf.2.1 104 = .ok (.aload_n 0, 1) := by decide +kernel
theorem dX5_writeThoseOf_105 : decode mX5_writeThoseOf.2.1 105 = .ok (.iload_n 2, 1) := by decide +kernel
theorem dX5_writeThoseOf_106 : decode mX5_writeThoseOf.2.1 106 = .ok (.invokevirtual 94, 3) := by decide +kernel
theorem dX5_writeThoseOf_109 : decode mX5_writeThoseOf.2.1 109 = .ok (.iastore, 1) := by decide +kernel
theorem dX5_writeThoseOf_110 : decode mX5_writeThoseOf.2.1 110 = .ok (.iinc 2 1, 3) := by decide +kernel
theorem dX5_writeThoseOf_113 : decode mX5_writeThoseOf.2.1 113 = .ok (.goto (-111), 3) := by decide +kernel
theorem dX5_writeThoseOf_116 : decode mX5_writeThoseOf.2.1 116 = .ok (.return_, 1) := by decide +kernel
def fn_X5_writeThoseOf_b110 (n : Nat) (b : Nat) (x1 : Int32) (k2 : Int32 → Sg → Option Sg) (v2 : Int32) (σ : Sg) : Option Sg :=
  (k2 (v2 + 1) σ)
set_option maxRecDepth 20000 in
set_option maxHeartbeats 4000000 in
theorem ev_X5_writeThoseOf_b110 (n : Nat) (b : Nat) (hb : ag_Y b) (x1 : Int32) (k2 : Int32 → Sg → Option Sg) (hk2 : ∀ (v2 : Int32) (σ : Sg), Ev mX5_writeThoseOf 2 48 jV 2 [(0, .ref b), (1, .int x1), (2, .int v2)] [] σ (k2 v2 σ)) (v2 : Int32) (σ : Sg) : Ev mX5_writeThoseOf 2 48 jV 110 [(0, .ref b), (1, .int x1), (2, .int v2)] [] σ (fn_X5_writeThoseOf_b110 n b x1 k2 v2 σ) := by
  unfold fn_X5_writeThoseOf_b110
  refine ev_iinc (pc := 110) (v := (v2 + 1)) (lv' := [(2, .int (v2 + 1)), (0, .ref b), (1, .int x1)]) 2 dX5_writeThoseOf_110 rfl rfl (Nat.le_of_ble_eq_true rfl) rfl ?_
  refine ev_goto (pc := 113) (tgt := 2) dX5_writeThoseOf_113 rfl ?_
  refine ev_sub [1, 2, 0] rfl ?_
  exact hk2 (v2 + 1) σ
def fn_X5_writeThoseOf_b2 (n : Nat) (b : Nat) (x1 : Int32)  : Nat → Int32 → Sg → Option Sg
  | 0 => fun _ _ => none
  | i + 1 => fun v2 σ =>
  (if (σ (b + 7) 0) ≤ v2 then (some σ)
  else (if ag_ib v2 13 = true then (if (σ (b + 10) v2.toNatClampNeg) = x1 then (if (((σ b 2) >>> (v2 &&& 31)) &&& 1) = 0 then (if ag_ib v2 13 = true then (Option.bind (fn_X1_lives (b + 1) (σ (b + 8) v2.toNatClampNeg) x1 σ) fun q10 =>
  (if q10 = 0 then (fn_X5_writeThoseOf_b110 n b x1 (fn_X5_writeThoseOf_b2 n b x1 i) v2 σ)
  else (if ag_ib v2 13 = true then (if ag_ib (σ (b + 8) v2.toNatClampNeg) 10 = true then (if ag_ib v2 13 = true then (if (((σ (b + 15) (σ (b + 8) v2.toNatClampNeg).toNatClampNeg) >>> ((σ (b + 11) v2.toNatClampNeg) &&& 31)) &&& 1) = 1 then (Option.bind (fn_X5_dueYear b v2 (ag_up σ b 3 ((σ b 3) ||| (1 <<< (v2 &&& 31))))) fun q11 =>
  (if ag_ib v2 13 = true then (fn_X5_writeThoseOf_b110 n b x1 (fn_X5_writeThoseOf_b2 n b x1 i) v2 (ag_up (ag_up σ b 3 ((σ b 3) ||| (1 <<< (v2 &&& 31)))) (b + 14) v2.toNatClampNeg q11)) else none))
  else (fn_X5_writeThoseOf_b110 n b x1 (fn_X5_writeThoseOf_b2 n b x1 i) v2 σ)) else none) else none) else none))) else none)
  else (fn_X5_writeThoseOf_b110 n b x1 (fn_X5_writeThoseOf_b2 n b x1 i) v2 σ))
  else (fn_X5_writeThoseOf_b110 n b x1 (fn_X5_writeThoseOf_b2 n b x1 i) v2 σ)) else none))
theorem fn_X5_writeThoseOf_b2_s (n : Nat) (b : Nat) (x1 : Int32)  (i : Nat) (v2 : Int32) (σ : Sg) : fn_X5_writeThoseOf_b2 n b x1 (i + 1) v2 σ =
  (if (σ (b + 7) 0) ≤ v2 then (some σ)
  else (if ag_ib v2 13 = true then (if (σ (b + 10) v2.toNatClampNeg) = x1 then (if (((σ b 2) >>> (v2 &&& 31)) &&& 1) = 0 then (if ag_ib v2 13 = true then (Option.bind (fn_X1_lives (b + 1) (σ (b + 8) v2.toNatClampNeg) x1 σ) fun q10 =>
  (if q10 = 0 then (fn_X5_writeThoseOf_b110 n b x1 (fn_X5_writeThoseOf_b2 n b x1 i) v2 σ)
  else (if ag_ib v2 13 = true then (if ag_ib (σ (b + 8) v2.toNatClampNeg) 10 = true then (if ag_ib v2 13 = true then (if (((σ (b + 15) (σ (b + 8) v2.toNatClampNeg).toNatClampNeg) >>> ((σ (b + 11) v2.toNatClampNeg) &&& 31)) &&& 1) = 1 then (Option.bind (fn_X5_dueYear b v2 (ag_up σ b 3 ((σ b 3) ||| (1 <<< (v2 &&& 31))))) fun q11 =>
  (if ag_ib v2 13 = true then (fn_X5_writeThoseOf_b110 n b x1 (fn_X5_writeThoseOf_b2 n b x1 i) v2 (ag_up (ag_up σ b 3 ((σ b 3) ||| (1 <<< (v2 &&& 31)))) (b + 14) v2.toNatClampNeg q11)) else none))
  else (fn_X5_writeThoseOf_b110 n b x1 (fn_X5_writeThoseOf_b2 n b x1 i) v2 σ)) else none) else none) else none))) else none)
  else (fn_X5_writeThoseOf_b110 n b x1 (fn_X5_writeThoseOf_b2 n b x1 i) v2 σ))
  else (fn_X5_writeThoseOf_b110 n b x1 (fn_X5_writeThoseOf_b2 n b x1 i) v2 σ)) else none)) := rfl
set_option maxRecDepth 20000 in
set_option maxHeartbeats 4000000 in
theorem ev_X5_writeThoseOf_b2 (n : Nat) (b : Nat) (hb : ag_Y b) (x1 : Int32)  : ∀ (i : Nat) (v2 : Int32) (σ : Sg), Ev mX5_writeThoseOf 2 48 jV 2 [(0, .ref b), (1, .int x1), (2, .int v2)] [] σ (fn_X5_writeThoseOf_b2 n b x1 i v2 σ) := by
  intro i
  induction i with
  | zero =>
    intro v2 σ
    exact ev_none
  | succ i ih =>
    intro v2 σ
    rw [fn_X5_writeThoseOf_b2_s]
    refine ev_iload_n (pc := 2) (i := 2) 2 dX5_writeThoseOf_2 rfl rfl ?_
    refine ev_aload_n (pc := 3) (i := 0) 0 dX5_writeThoseOf_3 rfl rfl ?_
    refine ev_getR (pc := 4) (t := (b + 7)) 1 ag_C5 (ag_Yk hb).1 (ag_Yk hb).2 (Nat.le_of_ble_eq_true rfl) (ag_Yt1 hb) rfl ag_fl_X5_21 dX5_writeThoseOf_4 ?_
    refine ev_getI (pc := 7) 0 ag_C2 (ag_Pk (ag_YP hb)).1 (ag_Pk (ag_YP hb)).2 (Nat.le_of_ble_eq_true rfl) (ag_Pt0 (ag_YP hb)) rfl ag_fl_X5_78 dX5_writeThoseOf_7 ?_
    refine ev_icmp_ge (pc := 10) (tgt := 116) dX5_writeThoseOf_10 rfl ?_ ?_
    · exact ev_ret (fun r h => by cases h; rfl) rfl dX5_writeThoseOf_116
    · refine ev_aload_n (pc := 13) (i := 0) 0 dX5_writeThoseOf_13 rfl rfl ?_
      refine ev_getR (pc := 14) (t := (b + 7)) 1 ag_C5 (ag_Yk hb).1 (ag_Yk hb).2 (Nat.le_of_ble_eq_true rfl) (ag_Yt1 hb) rfl ag_fl_X5_21 dX5_writeThoseOf_14 ?_
      refine ev_getR (pc := 17) (t := (b + 10)) 3 ag_C2 (ag_Pk (ag_YP hb)).1 (ag_Pk (ag_YP hb)).2 (Nat.le_of_ble_eq_true rfl) (ag_Pt3 (ag_YP hb)) rfl ag_fl_X5_81 dX5_writeThoseOf_17 ?_
      refine ev_iload_n (pc := 20) (i := 2) 2 dX5_writeThoseOf_20 rfl rfl ?_
      refine ev_iald (pc := 21) (ag_Pa3 (ag_YP hb)).1 (ag_Pa3 (ag_YP hb)).2 dX5_writeThoseOf_21 ?_
      refine ev_iload_n (pc := 22) (i := 1) 1 dX5_writeThoseOf_22 rfl rfl ?_
      refine ev_icmp_ne (pc := 23) (tgt := 110) dX5_writeThoseOf_23 rfl ?_ ?_
      · refine ev_aload_n (pc := 26) (i := 0) 0 dX5_writeThoseOf_26 rfl rfl ?_
        refine ev_getI (pc := 27) 2 ag_C5 (ag_Yk hb).1 (ag_Yk hb).2 (Nat.le_of_ble_eq_true rfl) (ag_Yt2 hb) rfl ag_fl_X5_25 dX5_writeThoseOf_27 ?_
        refine ev_iload_n (pc := 30) (i := 2) 2 dX5_writeThoseOf_30 rfl rfl ?_
        refine ev_ishr (pc := 31) dX5_writeThoseOf_31 ?_
        refine ev_iconst (pc := 32) (v := 1) dX5_writeThoseOf_32 (by decide) ?_
        refine ev_iand (pc := 33) dX5_writeThoseOf_33 ?_
        refine ev_if_ne (pc := 34) (tgt := 110) dX5_writeThoseOf_34 rfl ?_ ?_
        · refine ev_aload_n (pc := 37) (i := 0) 0 dX5_writeThoseOf_37 rfl rfl ?_
          refine ev_getR (pc := 38) (t := (b + 1)) 0 ag_C5 (ag_Yk hb).1 (ag_Yk hb).2 (Nat.le_of_ble_eq_true rfl) (ag_Yt0 hb) rfl ag_fl_X5_12 dX5_writeThoseOf_38 ?_
          refine ev_aload_n (pc := 41) (i := 0) 0 dX5_writeThoseOf_41 rfl rfl ?_
          refine ev_getR (pc := 42) (t := (b + 7)) 1 ag_C5 (ag_Yk hb).1 (ag_Yk hb).2 (Nat.le_of_ble_eq_true rfl) (ag_Yt1 hb) rfl ag_fl_X5_21 dX5_writeThoseOf_42 ?_
          refine ev_getR (pc := 45) (t := (b + 8)) 1 ag_C2 (ag_Pk (ag_YP hb)).1 (ag_Pk (ag_YP hb)).2 (Nat.le_of_ble_eq_true rfl) (ag_Pt1 (ag_YP hb)) rfl ag_fl_X5_84 dX5_writeThoseOf_45 ?_
          refine ev_iload_n (pc := 48) (i := 2) 2 dX5_writeThoseOf_48 rfl rfl ?_
          refine ev_iald (pc := 49) (ag_Pa1 (ag_YP hb)).1 (ag_Pa1 (ag_YP hb)).2 dX5_writeThoseOf_49 ?_
          refine ev_iload_n (pc := 50) (i := 1) 1 dX5_writeThoseOf_50 rfl rfl ?_
          refine ev_vI (pc := 51) (as := [.int (σ (b + 8) v2.toNatClampNeg), .int x1]) (rest := []) ⟨1, 87, 6, TX1, tyX1, ag_C1, ⟨(ag_Fk (ag_YF hb)).1, (ag_Fk (ag_YF hb)).2⟩, mv_X1_lives, ag_ml_X5_87, rfl, (Nat.le_of_ble_eq_true rfl), ⟨(Nat.le_of_ble_eq_true rfl), (Nat.le_of_ble_eq_true rfl)⟩, dX5_writeThoseOf_51⟩ (im_X1_lives (b + 1) (ag_YF hb) (σ (b + 8) v2.toNatClampNeg) x1 σ) (fun q10 => ?_)
          refine ev_if_eq (pc := 54) (tgt := 110) dX5_writeThoseOf_54 rfl ?_ ?_
          · exact ev_X5_writeThoseOf_b110 n b hb x1 (fn_X5_writeThoseOf_b2 n b x1 i) ih v2 σ
          · refine ev_aload_n (pc := 57) (i := 0) 0 dX5_writeThoseOf_57 rfl rfl ?_
            refine ev_getR (pc := 58) (t := (b + 15)) 7 ag_C5 (ag_Yk hb).1 (ag_Yk hb).2 (Nat.le_of_ble_eq_true rfl) (ag_Yt7 hb) rfl ag_fl_X5_42 dX5_writeThoseOf_58 ?_
            refine ev_aload_n (pc := 61) (i := 0) 0 dX5_writeThoseOf_61 rfl rfl ?_
            refine ev_getR (pc := 62) (t := (b + 7)) 1 ag_C5 (ag_Yk hb).1 (ag_Yk hb).2 (Nat.le_of_ble_eq_true rfl) (ag_Yt1 hb) rfl ag_fl_X5_21 dX5_writeThoseOf_62 ?_
            refine ev_getR (pc := 65) (t := (b + 8)) 1 ag_C2 (ag_Pk (ag_YP hb)).1 (ag_Pk (ag_YP hb)).2 (Nat.le_of_ble_eq_true rfl) (ag_Pt1 (ag_YP hb)) rfl ag_fl_X5_84 dX5_writeThoseOf_65 ?_
            refine ev_iload_n (pc := 68) (i := 2) 2 dX5_writeThoseOf_68 rfl rfl ?_
            refine ev_iald (pc := 69) (ag_Pa1 (ag_YP hb)).1 (ag_Pa1 (ag_YP hb)).2 dX5_writeThoseOf_69 ?_
            refine ev_iald (pc := 70) (ag_Ya15 hb).1 (ag_Ya15 hb).2 dX5_writeThoseOf_70 ?_
            refine ev_aload_n (pc := 71) (i := 0) 0 dX5_writeThoseOf_71 rfl rfl ?_
            refine ev_getR (pc := 72) (t := (b + 7)) 1 ag_C5 (ag_Yk hb).1 (ag_Yk hb).2 (Nat.le_of_ble_eq_true rfl) (ag_Yt1 hb) rfl ag_fl_X5_21 dX5_writeThoseOf_72 ?_
            refine ev_getR (pc := 75) (t := (b + 11)) 4 ag_C2 (ag_Pk (ag_YP hb)).1 (ag_Pk (ag_YP hb)).2 (Nat.le_of_ble_eq_true rfl) (ag_Pt4 (ag_YP hb)) rfl ag_fl_X5_91 dX5_writeThoseOf_75 ?_
            refine ev_iload_n (pc := 78) (i := 2) 2 dX5_writeThoseOf_78 rfl rfl ?_
            refine ev_iald (pc := 79) (ag_Pa4 (ag_YP hb)).1 (ag_Pa4 (ag_YP hb)).2 dX5_writeThoseOf_79 ?_
            refine ev_ishr (pc := 80) dX5_writeThoseOf_80 ?_
            refine ev_iconst (pc := 81) (v := 1) dX5_writeThoseOf_81 (by decide) ?_
            refine ev_iand (pc := 82) dX5_writeThoseOf_82 ?_
            refine ev_iconst (pc := 83) (v := 1) dX5_writeThoseOf_83 (by decide) ?_
            refine ev_icmp_ne (pc := 84) (tgt := 110) dX5_writeThoseOf_84 rfl ?_ ?_
            · refine ev_aload_n (pc := 87) (i := 0) 0 dX5_writeThoseOf_87 rfl rfl ?_
              refine ev_dup (pc := 88) dX5_writeThoseOf_88 rfl ?_
              refine ev_getI (pc := 89) 3 ag_C5 (ag_Yk hb).1 (ag_Yk hb).2 (Nat.le_of_ble_eq_true rfl) (ag_Yt3 hb) rfl ag_fl_X5_29 dX5_writeThoseOf_89 ?_
              refine ev_iconst (pc := 92) (v := 1) dX5_writeThoseOf_92 (by decide) ?_
              refine ev_iload_n (pc := 93) (i := 2) 2 dX5_writeThoseOf_93 rfl rfl ?_
              refine ev_ishl (pc := 94) dX5_writeThoseOf_94 ?_
              refine ev_ior (pc := 95) dX5_writeThoseOf_95 ?_
              refine ev_put (pc := 96) 3 ag_C5 (ag_Yk hb).1 (ag_Yk hb).2 (Nat.le_of_ble_eq_true rfl) (ag_Yt3 hb) rfl ag_fl_X5_29 rfl rfl rfl dX5_writeThoseOf_96 ?_
              refine ev_aload_n (pc := 99) (i := 0) 0 dX5_writeThoseOf_99 rfl rfl ?_
              refine ev_getR (pc := 100) (t := (b + 14)) 6 ag_C5 (ag_Yk hb).1 (ag_Yk hb).2 (Nat.le_of_ble_eq_true rfl) (ag_Yt6 hb) rfl ag_fl_X5_39 dX5_writeThoseOf_100 ?_
              refine ev_iload_n (pc := 103) (i := 2) 2 dX5_writeThoseOf_103 rfl rfl ?_
              refine ev_aload_n (pc := 104) (i := 0) 0 dX5_writeThoseOf_104 rfl rfl ?_
              refine ev_iload_n (pc := 105) (i := 2) 2 dX5_writeThoseOf_105 rfl rfl ?_
              refine ev_vI (pc := 106) (as := [.int v2]) (rest := [.int v2, .ref (b + 14)]) ⟨5, 94, 10, TX5, tyX5, ag_C5, ⟨(ag_Yk hb).1, (ag_Yk hb).2⟩, mv_X5_dueYear, ag_ml_X5_94, rfl, (Nat.le_of_ble_eq_true rfl), ⟨(Nat.le_of_ble_eq_true rfl), (Nat.le_of_ble_eq_true rfl)⟩, dX5_writeThoseOf_106⟩ (im_X5_dueYear b hb v2 (ag_up σ b 3 ((σ b 3) ||| (1 <<< (v2 &&& 31))))) (fun q11 => ?_)
              refine ev_iast (pc := 109) (ag_Ya14 hb).1 (ag_Ya14 hb).2 dX5_writeThoseOf_109 ?_
              exact ev_X5_writeThoseOf_b110 n b hb x1 (fn_X5_writeThoseOf_b2 n b x1 i) ih v2 (ag_up (ag_up σ b 3 ((σ b 3) ||| (1 <<< (v2 &&& 31)))) (b + 14) v2.toNatClampNeg q11)
            · exact ev_X5_writeThoseOf_b110 n b hb x1 (fn_X5_writeThoseOf_b2 n b x1 i) ih v2 σ
        · exact ev_X5_writeThoseOf_b110 n b hb x1 (fn_X5_writeThoseOf_b2 n b x1 i) ih v2 σ
      · exact ev_X5_writeThoseOf_b110 n b hb x1 (fn_X5_writeThoseOf_b2 n b x1 i) ih v2 σ
def fn_X5_writeThoseOf (n : Nat) (b : Nat) (x1 : Int32) (σ : Sg) : Option Sg :=
  (fn_X5_writeThoseOf_b2 n b x1 n 0 σ)
set_option maxRecDepth 20000 in
set_option maxHeartbeats 4000000 in
theorem im_X5_writeThoseOf (n : Nat) (b : Nat) (hb : ag_Y b) (x1 : Int32) (σ : Sg) : Im yX5_writeThoseOf mX5_writeThoseOf 2 48 jV [.ref b, .int x1] σ (fn_X5_writeThoseOf n b x1 σ) := by
  refine Im.of (by decide +kernel) rfl (Nat.le_of_ble_eq_true rfl) ?_
  show Ev mX5_writeThoseOf 2 48 jV 0 [(0, .ref b), (1, .int x1)] [] σ (fn_X5_writeThoseOf n b x1 σ)
  unfold fn_X5_writeThoseOf
  refine ev_iconst (pc := 0) (v := 0) dX5_writeThoseOf_0 (by decide) ?_
  refine ev_istore_n (pc := 1) (i := 2) (lv' := [(2, .int 0), (0, .ref b), (1, .int x1)]) dX5_writeThoseOf_1 rfl (Nat.le_of_ble_eq_true rfl) rfl ?_
  refine ev_sub [1, 2, 0] rfl ?_
  exact ev_X5_writeThoseOf_b2 n b hb x1 n 0 σ
-- X5_isWaiting
def mX5_isWaiting : Md := (RX5, cX5_isWaiting, 2, some .boolean)
theorem mv_X5_isWaiting : ag_Mv yX5_isWaiting mX5_isWaiting 1 := ⟨ag_co_X5_isWaiting, ag_im_X5_isWaiting, ag_se_X5_isWaiting, ag_ini_X5, by decide +kernel⟩
theorem dX5_isWaiting_0 : decode mX5_isWaiting.2.1 0 = .ok (.aload_n 0, 1) := by decide +kernel
theorem dX5_isWaiting_1 : decode mX5_isWaiting.2.1 1 = .ok (.getfield 29, 3) := by decide +kernel
theorem dX5_isWaiting_4 : decode mX5_isWaiting.2.1 4 = .ok (.aload_n 0, 1) := by decide +kernel
theorem dX5_isWaiting_5 : decode mX5_isWaiting.2.1 5 = .ok (.getfield 32, 3) := by decide +kernel
theorem dX5_isWaiting_8 : decode mX5_isWaiting.2.1 8 = .ok (.iconst (-1), 1) := by decide +kernel
theorem dX5_isWaiting_9 : decode mX5_isWaiting.2.1 9 = .ok (.ixor, 1) := by decide +kernel
theorem dX5_isWaiting_10 : decode mX5_isWaiting.2.1 10 = .ok (.iand, 1) := by decide +kernel
theorem dX5_isWaiting_11 : decode mX5_isWaiting.2.1 11 = .ok (.iload_n 1, 1) := by decide +kernel
theorem dX5_isWaiting_12 : decode mX5_isWaiting.2.1 12 = .ok (.ishr, 1) := by decide +kernel
theorem dX5_isWaiting_13 : decode mX5_isWaiting.2.1 13 = .ok (.iconst 1, 1) := by decide +kernel
theorem dX5_isWaiting_14 : decode mX5_isWaiting.2.1 14 = .ok (.iand, 1) := by decide +kernel
theorem dX5_isWaiting_15 : decode mX5_isWaiting.2.1 15 = .ok (.iconst 1, 1) := by decide +kernel
theorem dX5_isWaiting_16 : decode mX5_isWaiting.2.1 16 = .ok (.if_icmp .ne 7, 3) := by decide +kernel
theorem dX5_isWaiting_19 : decode mX5_isWaiting.2.1 19 = .ok (.iconst 1, 1) := by decide +kernel
theorem dX5_isWaiting_20 : decode mX5_isWaiting.2.1 20 = .ok (.goto 4, 3) := by decide +kernel
theorem dX5_isWaiting_23 : decode mX5_isWaiting.2.1 23 = .ok (.iconst 0, 1) := by decide +kernel
theorem dX5_isWaiting_24 : decode mX5_isWaiting.2.1 24 = .ok (.ireturn, 1) := by decide +kernel
def fn_X5_isWaiting (b : Nat) (x1 : Int32) (σ : Sg) : Option Int32 :=
  (if ((((σ b 3) &&& ((σ b 4) ^^^ (-1))) >>> (x1 &&& 31)) &&& 1) = 1 then (some 1)
  else (some 0))
set_option maxRecDepth 20000 in
set_option maxHeartbeats 4000000 in
theorem im_X5_isWaiting (b : Nat) (hb : ag_Y b) (x1 : Int32) (σ : Sg) : Im yX5_isWaiting mX5_isWaiting 0 0 (jI σ) [.ref b, .int x1] σ (fn_X5_isWaiting b x1 σ) := by
  refine Im.of (by decide +kernel) rfl (Nat.le_of_ble_eq_true rfl) ?_
  show Ev mX5_isWaiting 0 0 (jI σ) 0 [(0, .ref b), (1, .int x1)] [] σ (fn_X5_isWaiting b x1 σ)
  unfold fn_X5_isWaiting
  refine ev_aload_n (pc := 0) (i := 0) 0 dX5_isWaiting_0 rfl rfl ?_
  refine ev_getI (pc := 1) 3 ag_C5 (ag_Yk hb).1 (ag_Yk hb).2 (Nat.le_of_ble_eq_true rfl) (ag_Yt3 hb) rfl ag_fl_X5_29 dX5_isWaiting_1 ?_
  refine ev_aload_n (pc := 4) (i := 0) 0 dX5_isWaiting_4 rfl rfl ?_
  refine ev_getI (pc := 5) 4 ag_C5 (ag_Yk hb).1 (ag_Yk hb).2 (Nat.le_of_ble_eq_true rfl) (ag_Yt4 hb) rfl ag_fl_X5_32 dX5_isWaiting_5 ?_
  refine ev_iconst (pc := 8) (v := (-1)) dX5_isWaiting_8 (by decide) ?_
  refine ev_ixor (pc := 9) dX5_isWaiting_9 ?_
  refine ev_iand (pc := 10) dX5_isWaiting_10 ?_
  refine ev_iload_n (pc := 11) (i := 1) 1 dX5_isWaiting_11 rfl rfl ?_
  refine ev_ishr (pc := 12) dX5_isWaiting_12 ?_
  refine ev_iconst (pc := 13) (v := 1) dX5_isWaiting_13 (by decide) ?_
  refine ev_iand (pc := 14) dX5_isWaiting_14 ?_
  refine ev_iconst (pc := 15) (v := 1) dX5_isWaiting_15 (by decide) ?_
  refine ev_icmp_ne (pc := 16) (tgt := 23) dX5_isWaiting_16 rfl ?_ ?_
  · refine ev_iconst (pc := 19) (v := 1) dX5_isWaiting_19 (by decide) ?_
    refine ev_goto (pc := 20) (tgt := 24) dX5_isWaiting_20 rfl ?_
    exact ev_iret (ty := .boolean) (fun r h => by cases h; rfl) rfl rfl dX5_isWaiting_24
  · refine ev_iconst (pc := 23) (v := 0) dX5_isWaiting_23 (by decide) ?_
    exact ev_iret (ty := .boolean) (fun r h => by cases h; rfl) rfl rfl dX5_isWaiting_24
-- X5_hasNeeded
def mX5_hasNeeded : Md := (RX5, cX5_hasNeeded, 3, some .boolean)
theorem mv_X5_hasNeeded : ag_Mv yX5_hasNeeded mX5_hasNeeded 1 := ⟨ag_co_X5_hasNeeded, ag_im_X5_hasNeeded, ag_se_X5_hasNeeded, ag_ini_X5, by decide +kernel⟩
theorem dX5_hasNeeded_0 : decode mX5_hasNeeded.2.1 0 = .ok (.aload_n 0, 1) := by decide +kernel
theorem dX5_hasNeeded_1 : decode mX5_hasNeeded.2.1 1 = .ok (.getfield 21, 3) := by decide +kernel
theorem dX5_hasNeeded_4 : decode mX5_hasNeeded.2.1 4 = .ok (.getfield 121, 3) := by decide +kernel
theorem dX5_hasNeeded_7 : decode mX5_hasNeeded.2.1 7 = .ok (.iload_n 1, 1) := by decide +kernel
theorem dX5_hasNeeded_8 : decode mX5_hasNeeded.2.1 8 = .ok (.iaload, 1) := by decide +kernel
theorem dX5_hasNeeded_9 : decode mX5_hasNeeded.2.1 9 = .ok (.istore_n 2, 1) := by decide +kernel
theorem dX5_hasNeeded_10 : decode mX5_hasNeeded.2.1 10 = .ok (.iload_n 2, 1) := by decide +kernel
theorem dX5_hasNeeded_11 : decode mX5_hasNeeded.2.1 11 = .ok (.iconst (-1), 1) := by decide +kernel
theorem dX5_hasNeeded_12 : decode mX5_hasNeeded.2.1 12 = .ok (.if_icmp .eq 25, 3) := by decide +kernel
theorem dX5_hasNeeded_15 : decode mX5_hasNeeded.2.1 15 = .ok (.aload_n 0, 1) := by decide +kernel
theorem dX5_hasNeeded_16 : decode mX5_hasNeeded.2.1 16 = .ok (.getfield 42, 3) := by decide +kernel
theorem dX5_hasNeeded_19 : decode mX5_hasNeeded.2.1 19 = .ok (.aload_n 0, 1) := by decide +kernel
theorem dX5_hasNeeded_20 : decode mX5_hasNeeded.2.1 20 = .ok (.getfield 21, 3) := by decide +kernel
theorem dX5_hasNeeded_23 : decode mX5_hasNeeded.2.1 23 = .ok (.getfield 101, 3) := by decide +kernel
theorem dX5_hasNeeded_26 : decode mX5_hasNeeded.2.1 26 = .ok (.iload_n 1, 1) := by decide +kernel
theorem dX5_hasNeeded_27 : decode mX5_hasNeeded.2.1 27 = .ok (.iaload, 1) := by decide +kernel
theorem dX5_hasNeeded_28 : decode mX5_hasNeeded.2.1 28 = .ok (.iaload, 1) := by decide +kernel
theorem dX5_hasNeeded_29 : decode mX5_hasNeeded.2.1 29 = .ok (.iload_n 2, 1) := by decide +kernel
theorem dX5_hasNeeded_30 : decode mX5_hasNeeded.2.1 30 = .ok (.ishr, 1) := by decide +kernel
theorem dX5_hasNeeded_31 : decode mX5_hasNeeded.2.1 31 = .ok (.iconst 1, 1) := by decide +kernel
theorem dX5_hasNeeded_32 : decode mX5_hasNeeded.2.1 32 = .ok (.iand, 1) := by decide +kernel
theorem dX5_hasNeeded_33 : decode mX5_hasNeeded.2.1 33 = .ok (.iconst 1, 1) := by decide +kernel
theorem dX5_hasNeeded_34 : decode mX5_hasNeeded.2.1 34 = .ok (.if_icmp .ne 7, 3) := by decide +kernel
theorem dX5_hasNeeded_37 : decode mX5_hasNeeded.2.1 37 = .ok (.iconst 1, 1) := by decide +kernel
theorem dX5_hasNeeded_38 : decode mX5_hasNeeded.2.1 38 = .ok (.goto 4, 3) := by decide +kernel
theorem dX5_hasNeeded_41 : decode mX5_hasNeeded.2.1 41 = .ok (.iconst 0, 1) := by decide +kernel
theorem dX5_hasNeeded_42 : decode mX5_hasNeeded.2.1 42 = .ok (.ireturn, 1) := by decide +kernel
def fn_X5_hasNeeded_b37 (b : Nat) (x1 : Int32) (σ : Sg)   : Option Int32 :=
  (some 1)
set_option maxRecDepth 20000 in
set_option maxHeartbeats 4000000 in
theorem ev_X5_hasNeeded_b37 (b : Nat) (hb : ag_Y b) (x1 : Int32) (σ : Sg)   : Ev mX5_hasNeeded 0 0 (jI σ) 37 [(0, .ref b), (1, .int x1)] [] σ (fn_X5_hasNeeded_b37 b x1 σ ) := by
  unfold fn_X5_hasNeeded_b37
  refine ev_iconst (pc := 37) (v := 1) dX5_hasNeeded_37 (by decide) ?_
  refine ev_goto (pc := 38) (tgt := 42) dX5_hasNeeded_38 rfl ?_
  exact ev_iret (ty := .boolean) (fun r h => by cases h; rfl) rfl rfl dX5_hasNeeded_42
def fn_X5_hasNeeded (b : Nat) (x1 : Int32) (σ : Sg) : Option Int32 :=
  (if ag_ib x1 13 = true then (if (σ (b + 12) x1.toNatClampNeg) = (-1) then (fn_X5_hasNeeded_b37 b x1 σ )
  else (if ag_ib x1 13 = true then (if ag_ib (σ (b + 9) x1.toNatClampNeg) 10 = true then (if (((σ (b + 15) (σ (b + 9) x1.toNatClampNeg).toNatClampNeg) >>> ((σ (b + 12) x1.toNatClampNeg) &&& 31)) &&& 1) = 1 then (fn_X5_hasNeeded_b37 b x1 σ )
  else (some 0)) else none) else none)) else none)
set_option maxRecDepth 20000 in
set_option maxHeartbeats 4000000 in
theorem im_X5_hasNeeded (b : Nat) (hb : ag_Y b) (x1 : Int32) (σ : Sg) : Im yX5_hasNeeded mX5_hasNeeded 0 0 (jI σ) [.ref b, .int x1] σ (fn_X5_hasNeeded b x1 σ) := by
  refine Im.of (by decide +kernel) rfl (Nat.le_of_ble_eq_true rfl) ?_
  show Ev mX5_hasNeeded 0 0 (jI σ) 0 [(0, .ref b), (1, .int x1)] [] σ (fn_X5_hasNeeded b x1 σ)
  unfold fn_X5_hasNeeded
  refine ev_aload_n (pc := 0) (i := 0) 0 dX5_hasNeeded_0 rfl rfl ?_
  refine ev_getR (pc := 1) (t := (b + 7)) 1 ag_C5 (ag_Yk hb).1 (ag_Yk hb).2 (Nat.le_of_ble_eq_true rfl) (ag_Yt1 hb) rfl ag_fl_X5_21 dX5_hasNeeded_1 ?_
  refine ev_getR (pc := 4) (t := (b + 12)) 5 ag_C2 (ag_Pk (ag_YP hb)).1 (ag_Pk (ag_YP hb)).2 (Nat.le_of_ble_eq_true rfl) (ag_Pt5 (ag_YP hb)) rfl ag_fl_X5_121 dX5_hasNeeded_4 ?_
  refine ev_iload_n (pc := 7) (i := 1) 1 dX5_hasNeeded_7 rfl rfl ?_
  refine ev_iald (pc := 8) (ag_Pa5 (ag_YP hb)).1 (ag_Pa5 (ag_YP hb)).2 dX5_hasNeeded_8 ?_
  refine ev_istore_n (pc := 9) (i := 2) (lv' := [(2, .int (σ (b + 12) x1.toNatClampNeg)), (0, .ref b), (1, .int x1)]) dX5_hasNeeded_9 rfl (Nat.le_of_ble_eq_true rfl) rfl ?_
  refine ev_iload_n (pc := 10) (i := 2) 0 dX5_hasNeeded_10 rfl rfl ?_
  refine ev_iconst (pc := 11) (v := (-1)) dX5_hasNeeded_11 (by decide) ?_
  refine ev_icmp_eq (pc := 12) (tgt := 37) dX5_hasNeeded_12 rfl ?_ ?_
  · refine ev_sub [1, 2] rfl ?_
    exact ev_X5_hasNeeded_b37 b hb x1 σ 
  · refine ev_aload_n (pc := 15) (i := 0) 1 dX5_hasNeeded_15 rfl rfl ?_
    refine ev_getR (pc := 16) (t := (b + 15)) 7 ag_C5 (ag_Yk hb).1 (ag_Yk hb).2 (Nat.le_of_ble_eq_true rfl) (ag_Yt7 hb) rfl ag_fl_X5_42 dX5_hasNeeded_16 ?_
    refine ev_aload_n (pc := 19) (i := 0) 1 dX5_hasNeeded_19 rfl rfl ?_
    refine ev_getR (pc := 20) (t := (b + 7)) 1 ag_C5 (ag_Yk hb).1 (ag_Yk hb).2 (Nat.le_of_ble_eq_true rfl) (ag_Yt1 hb) rfl ag_fl_X5_21 dX5_hasNeeded_20 ?_
    refine ev_getR (pc := 23) (t := (b + 9)) 2 ag_C2 (ag_Pk (ag_YP hb)).1 (ag_Pk (ag_YP hb)).2 (Nat.le_of_ble_eq_true rfl) (ag_Pt2 (ag_YP hb)) rfl ag_fl_X5_101 dX5_hasNeeded_23 ?_
    refine ev_iload_n (pc := 26) (i := 1) 2 dX5_hasNeeded_26 rfl rfl ?_
    refine ev_iald (pc := 27) (ag_Pa2 (ag_YP hb)).1 (ag_Pa2 (ag_YP hb)).2 dX5_hasNeeded_27 ?_
    refine ev_iald (pc := 28) (ag_Ya15 hb).1 (ag_Ya15 hb).2 dX5_hasNeeded_28 ?_
    refine ev_iload_n (pc := 29) (i := 2) 0 dX5_hasNeeded_29 rfl rfl ?_
    refine ev_ishr (pc := 30) dX5_hasNeeded_30 ?_
    refine ev_iconst (pc := 31) (v := 1) dX5_hasNeeded_31 (by decide) ?_
    refine ev_iand (pc := 32) dX5_hasNeeded_32 ?_
    refine ev_iconst (pc := 33) (v := 1) dX5_hasNeeded_33 (by decide) ?_
    refine ev_icmp_ne (pc := 34) (tgt := 41) dX5_hasNeeded_34 rfl ?_ ?_
    · refine ev_sub [1, 2] rfl ?_
      exact ev_X5_hasNeeded_b37 b hb x1 σ 
    · refine ev_iconst (pc := 41) (v := 0) dX5_hasNeeded_41 (by decide) ?_
      exact ev_iret (ty := .boolean) (fun r h => by cases h; rfl) rfl rfl dX5_hasNeeded_42
-- X5_grant
def mX5_grant : Md := (RX5, cX5_grant, 4, none)
theorem mv_X5_grant : ag_Mv yX5_grant mX5_grant 3 := ⟨ag_co_X5_grant, ag_im_X5_grant, ag_se_X5_grant, ag_ini_X5, by decide +kernel⟩
theorem dX5_grant_0 : decode mX5_grant.2.1 0 = .ok (.aload_n 0, 1) := by decide +kernel
theorem dX5_grant_1 : decode mX5_grant.2.1 1 = .ok (.getfield 42, 3) := by decide +kernel
theorem dX5_grant_4 : decode mX5_grant.2.1 4 = .ok (.iload_n 1, 1) := by decide +kernel
theorem dX5_grant_5 : decode mX5_grant.2.1 5 = .ok (.iaload, 1) := by decide +kernel
theorem dX5_grant_6 : decode mX5_grant.2.1 6 = .ok (.iload_n 2, 1) := by decide +kernel
theorem dX5_grant_7 : decode mX5_grant.2.1 7 = .ok (.ishr, 1) := by decide +kernel
theorem dX5_grant_8 : decode mX5_grant.2.1 8 = .ok (.iconst 1, 1) := by decide +kernel
theorem dX5_grant_9 : decode mX5_grant.2.1 9 = .ok (.iand, 1) := by decide +kernel
theorem dX5_grant_10 : decode mX5_grant.2.1 10 = .ok (.ifCond .ne 27, 3) := by decide +kernel
theorem dX5_grant_13 : decode mX5_grant.2.1 13 = .ok (.aload_n 0, 1) := by decide +kernel
theorem dX5_grant_14 : decode mX5_grant.2.1 14 = .ok (.getfield 42, 3) := by decide +kernel
theorem dX5_grant_17 : decode mX5_grant.2.1 17 = .ok (.iload_n 1, 1) := by decide +kernel
theorem dX5_grant_18 : decode mX5_grant.2.1 18 = .ok (.dup2, 1) := by decide +kernel
theorem dX5_grant_19 : decode mX5_grant.2.1 19 = .ok (.iaload, 1) := by decide +kernel
theorem dX5_grant_20 : decode mX5_grant.2.1 20 = .ok (.iconst 1, 1) := by decide +kernel
theorem dX5_grant_21 : decode mX5_grant.2.1 21 = .ok (.iload_n 2, 1) := by decide +kernel
theorem dX5_grant_22 : decode mX5_grant.2.1 22 = .ok (.ishl, 1) := by decide +kernel
theorem dX5_grant_23 : decode mX5_grant.2.1 23 = .ok (.ior, 1) := by decide +kernel
theorem dX5_grant_24 : decode mX5_grant.2.1 24 = .ok (.iastore, 1) := by decide +kernel
theorem dX5_grant_25 : decode mX5_grant.2.1 25 = .ok (.aload_n 0, 1) := by decide +kernel
theorem dX5_grant_26 : decode mX5_grant.2.1 26 = .ok (.getfield 45, 3) := by decide +kernel
theorem dX5_grant_29 : decode mX5_grant.2.1 29 = .ok (.iload_n 1, 1) := by decide +kernel
theorem dX5_grant_30 : decode mX5_grant.2.1 30 = .ok (.bipush 8, 2) := by decide +kernel
theorem dX5_grant_32 : decode mX5_grant.2.1 32 = .ok (.imul, 1) := by decide +kernel
theorem dX5_grant_33 : decode mX5_grant.2.1 33 = .ok (.iload_n 2, 1) := by decide +kernel
theorem dX5_grant_34 : decode mX5_grant.2.1 34 = .ok (.iadd, 1) := by decide +kernel
theorem dX5_grant_35 : decode mX5_grant.2.1 35 = .ok (.iload_n 3, 1) := by decide +kernel
theorem dX5_grant_36 : decode mX5_grant.2.1 36 = .ok (.iastore, 1) := by decide +kernel
theorem dX5_grant_37 : decode mX5_grant.2.1 37 = .ok (.return_, 1) := by decide +kernel
def fn_X5_grant (b : Nat) (x1 : Int32) (x2 : Int32) (x3 : Int32) (σ : Sg) : Option Sg :=
  (if ag_ib x1 10 = true then (if (((σ (b + 15) x1.toNatClampNeg) >>> (x2 &&& 31)) &&& 1) = 0 then (if ag_ib x1 10 = true then (if ag_ib x1 10 = true then (if ag_ib ((x1 * 8) + x2) 80 = true then (some (ag_up (ag_up σ (b + 15) x1.toNatClampNeg ((σ (b + 15) x1.toNatClampNeg) ||| (1 <<< (x2 &&& 31)))) (b + 16) ((x1 * 8) + x2).toNatClampNeg x3)) else none) else none) else none)
  else (some σ)) else none)
set_option maxRecDepth 20000 in
set_option maxHeartbeats 4000000 in
theorem im_X5_grant (b : Nat) (hb : ag_Y b) (x1 : Int32) (x2 : Int32) (x3 : Int32) (σ : Sg) : Im yX5_grant mX5_grant 0 0 jV [.ref b, .int x1, .int x2, .int x3] σ (fn_X5_grant b x1 x2 x3 σ) := by
  refine Im.of (by decide +kernel) rfl (Nat.le_of_ble_eq_true rfl) ?_
  show Ev mX5_grant 0 0 jV 0 [(0, .ref b), (1, .int x1), (2, .int x2), (3, .int x3)] [] σ (fn_X5_grant b x1 x2 x3 σ)
  unfold fn_X5_grant
  refine ev_aload_n (pc := 0) (i := 0) 0 dX5_grant_0 rfl rfl ?_
  refine ev_getR (pc := 1) (t := (b + 15)) 7 ag_C5 (ag_Yk hb).1 (ag_Yk hb).2 (Nat.le_of_ble_eq_true rfl) (ag_Yt7 hb) rfl ag_fl_X5_42 dX5_grant_1 ?_
  refine ev_iload_n (pc := 4) (i := 1) 1 dX5_grant_4 rfl rfl ?_
  refine ev_iald (pc := 5) (ag_Ya15 hb).1 (ag_Ya15 hb).2 dX5_grant_5 ?_
  refine ev_iload_n (pc := 6) (i := 2) 2 dX5_grant_6 rfl rfl ?_
  refine ev_ishr (pc := 7) dX5_grant_7 ?_
  refine ev_iconst (pc := 8) (v := 1) dX5_grant_8 (by decide) ?_
  refine ev_iand (pc := 9) dX5_grant_9 ?_
  refine ev_if_ne (pc := 10) (tgt := 37) dX5_grant_10 rfl ?_ ?_
  · refine ev_aload_n (pc := 13) (i := 0) 0 dX5_grant_13 rfl rfl ?_
    refine ev_getR (pc := 14) (t := (b + 15)) 7 ag_C5 (ag_Yk hb).1 (ag_Yk hb).2 (Nat.le_of_ble_eq_true rfl) (ag_Yt7 hb) rfl ag_fl_X5_42 dX5_grant_14 ?_
    refine ev_iload_n (pc := 17) (i := 1) 1 dX5_grant_17 rfl rfl ?_
    refine ev_dup2 (pc := 18) dX5_grant_18 rfl rfl ?_
    refine ev_iald (pc := 19) (ag_Ya15 hb).1 (ag_Ya15 hb).2 dX5_grant_19 ?_
    refine ev_iconst (pc := 20) (v := 1) dX5_grant_20 (by decide) ?_
    refine ev_iload_n (pc := 21) (i := 2) 2 dX5_grant_21 rfl rfl ?_
    refine ev_ishl (pc := 22) dX5_grant_22 ?_
    refine ev_ior (pc := 23) dX5_grant_23 ?_
    refine ev_iast (pc := 24) (ag_Ya15 hb).1 (ag_Ya15 hb).2 dX5_grant_24 ?_
    refine ev_aload_n (pc := 25) (i := 0) 0 dX5_grant_25 rfl rfl ?_
    refine ev_getR (pc := 26) (t := (b + 16)) 8 ag_C5 (ag_Yk hb).1 (ag_Yk hb).2 (Nat.le_of_ble_eq_true rfl) (ag_Yt8 hb) rfl ag_fl_X5_45 dX5_grant_26 ?_
    refine ev_iload_n (pc := 29) (i := 1) 1 dX5_grant_29 rfl rfl ?_
    refine ev_bipush (pc := 30) (v := 8) dX5_grant_30 (by decide) ?_
    refine ev_imul (pc := 32) dX5_grant_32 ?_
    refine ev_iload_n (pc := 33) (i := 2) 2 dX5_grant_33 rfl rfl ?_
    refine ev_iadd (pc := 34) dX5_grant_34 ?_
    refine ev_iload_n (pc := 35) (i := 3) 3 dX5_grant_35 rfl rfl ?_
    refine ev_iast (pc := 36) (ag_Ya16 hb).1 (ag_Ya16 hb).2 dX5_grant_36 ?_
    exact ev_ret (fun r h => by cases h; rfl) rfl dX5_grant_37
  · exact ev_ret (fun r h => by cases h; rfl) rfl dX5_grant_37
-- X5_openOne
def mX5_openOne : Md := (RX5, cX5_openOne, 5, none)
theorem mv_X5_openOne : ag_Mv yX5_openOne mX5_openOne 2 := ⟨ag_co_X5_openOne, ag_im_X5_openOne, ag_se_X5_openOne, ag_ini_X5, by decide +kernel⟩
theorem dX5_openOne_0 : decode mX5_openOne.2.1 0 = .ok (.aload_n 0, 1) := by decide +kernel
theorem dX5_openOne_1 : decode mX5_openOne.2.1 1 = .ok (.getfield 21, 3) := by decide +kernel
theorem dX5_openOne_4 : decode mX5_openOne.2.1 4 = .ok (.getfield 101, 3) := by decide +kernel
theorem dX5_openOne_7 : decode mX5_openOne.2.1 7 = .ok (.iload_n 1, 1) := by decide +kernel
theorem dX5_openOne_8 : decode mX5_openOne.2.1 8 = .ok (.iaload, 1) := by decide +kernel
theorem dX5_openOne_9 : decode mX5_openOne.2.1 9 = .ok (.istore_n 3, 1) := by decide +kernel
theorem dX5_openOne_10 : decode mX5_openOne.2.1 10 = .ok (.aload_n 0, 1) := by decide +kernel
theorem dX5_openOne_11 : decode mX5_openOne.2.1 11 = .ok (.dup, 1) := by decide +kernel
theorem dX5_openOne_12 : decode mX5_openOne.2.1 12 = .ok (.getfield 32, 3) := by decide +kernel
theorem dX5_openOne_15 : decode mX5_openOne.2.1 15 = .ok (.iconst 1, 1) := by decide +kernel
theorem dX5_openOne_16 : decode mX5_openOne.2.1 16 = .ok (.iload_n 1, 1) := by decide +kernel
theorem dX5_openOne_17 : decode mX5_openOne.2.1 17 = .ok (.ishl, 1) := by decide +kernel
theorem dX5_openOne_18 : decode mX5_openOne.2.1 18 = .ok (.ior, 1) := by decide +kernel
theorem dX5_openOne_19 : decode mX5_openOne.2.1 19 = .ok (.putfield 32, 3) := by decide +kernel
theorem dX5_openOne_22 : decode mX5_openOne.2.1 22 = .ok (.aload_n 0, 1) := by decide +kernel
theorem dX5_openOne_23 : decode mX5_openOne.2.1 23 = .ok (.getfield 35, 3) := by decide +kernel
theorem dX5_openOne_26 : decode mX5_openOne.2.1 26 = .ok (.iload_n 1, 1) := by decide +kernel
theorem dX5_openOne_27 : decode mX5_openOne.2.1 27 = .ok (.iload_n 2, 1) := by decide +kernel
theorem dX5_openOne_28 : decode mX5_openOne.2.1 28 = .ok (.iastore, 1) := by decide +kernel
theorem dX5_openOne_29 : decode mX5_openOne.2.1 29 = .ok (.aload_n 0, 1) := by decide +kernel
theorem dX5_openOne_30 : decode mX5_openOne.2.1 30 = .ok (.getfield 12, 3) := by decide +kernel
theorem dX5_openOne_33 : decode mX5_openOne.2.1 33 = .ok (.getfield 111, 3) := by decide +kernel
theorem dX5_openOne_36 : decode mX5_openOne.2.1 36 = .ok (.iload_n 3, 1) := by decide +kernel
theorem dX5_openOne_37 : decode mX5_openOne.2.1 37 = .ok (.iaload, 1) := by decide +kernel
theorem dX5_openOne_38 : decode mX5_openOne.2.1 38 = .ok (.iconst 1, 1) := by decide +kernel
theorem dX5_openOne_39 : decode mX5_openOne.2.1 39 = .ok (.if_icmp .eq 19, 3) := by decide +kernel
theorem dX5_openOne_42 : decode mX5_openOne.2.1 42 = .ok (.aload_n 0, 1) := by decide +kernel
theorem dX5_openOne_43 : decode mX5_openOne.2.1 43 = .ok (.iload_n 3, 1) := by decide +kernel
theorem dX5_openOne_44 : decode mX5_openOne.2.1 44 = .ok (.aload_n 0, 1) := by decide +kernel
theorem dX5_openOne_45 : decode mX5_openOne.2.1 45 = .ok (.getfield 21, 3) := by decide +kernel
theorem dX5_openOne_48 : decode mX5_openOne.2.1 48 = .ok (.getfield 91, 3) := by decide +kernel
theorem dX5_openOne_51 : decode mX5_openOne.2.1 51 = .ok (.iload_n 1, 1) := by decide +kernel
theorem dX5_openOne_52 : decode mX5_openOne.2.1 52 = .ok (.iaload, 1) := by decide +kernel
theorem dX5_openOne_53 : decode mX5_openOne.2.1 53 = .ok (.iload_n 2, 1) := by decide +kernel
theorem dX5_openOne_54 : decode mX5_openOne.2.1 54 = .ok (.invokevirtual 114, 3) := by decide +kernel
theorem dX5_openOne_57 : decode mX5_openOne.2.1 57 = .ok (.return_, 1) := by decide +kernel
theorem dX5_openOne_58 : decode mX5_openOne.2.1 58 = .ok (.iconst 0, 1) := by decide +kernel
theorem dX5_openOne_59 : decode mX5_openOne.2.1 59 = .ok (.istore 4, 2) := by decide +kernel
theorem dX5_openOne_61 : decode mX5_openOne.2.1 61 = .ok (.iload 4, 2) := by decide +kernel
theorem dX5_openOne_63 : decode mX5_openOne.2.1 63 = .ok (.aload_n 0, 1) := by decide +kernel
theorem dX5_openOne_64 : decode mX5_openOne.2.1 64 = .ok (.getfield 12, 3) := by decide +kernel
theorem dX5_openOne_67 : decode mX5_openOne.2.1 67 = .ok (.getfield 118, 3) := by decide +kernel
theorem dX5_openOne_70 : decode mX5_openOne.2.1 70 = .ok (.if_icmp .ge 44, 3) := by decide +kernel
theorem dX5_openOne_73 : decode mX5_openOne.2.1 73 = .ok (.iload 4, 2) := by decide +kernel
theorem dX5_openOne_75 : decode mX5_openOne.2.1 75 = .ok (.iload_n 3, 1) := by decide +kernel
theorem dX5_openOne_76 : decode mX5_openOne.2.1 76 = .ok (.if_icmp .eq 32, 3) := by decide +kernel
theorem dX5_openOne_79 : decode mX5_openOne.2.1 79 = .ok (.aload_n 0, 1) := by decide +kernel
theorem dX5_openOne_80 : decode mX5_openOne.2.1 80 = .ok (.getfield 12, 3) := by decide +kernel
theorem dX5_openOne_83 : decode mX5_openOne.2.1 83 = .ok (.iload 4, 2) := by decide +kernel
theorem dX5_openOne_85 : decode mX5_openOne.2.1 85 = .ok (.iload_n 2, 1) := by decide +kernel
theorem dX5_openOne_86 : decode mX5_openOne.2.1 86 = .ok (.invokevirtual 87, 3) := by decide +kernel
theorem dX5_openOne_89 : decode mX5_openOne.2.1 89 = .ok (.ifCond .eq 19, 3) := by decide +kernel
theorem dX5_openOne_92 : decode mX5_openOne.2.1 92 = .ok (.aload_n 0, 1) := by decide +kernel
theorem dX5_openOne_93 : decode mX5_openOne.2.1 93 = .ok (.iload 4, 2) := by decide +kernel
theorem dX5_openOne_95 : decode mX5_openOne.2.1 95 = .ok (.aload_n 0, 1) := by decide +kernel
theorem dX5_openOne_96 : decode mX5_openOne.2.1 96 = .ok (.getfield 21, 3) := by decide +kernel
theorem dX5_openOne_99 : decode mX5_openOne.2.1 99 = .ok (.getfield 91, 3) := by decide +kernel
theorem dX5_openOne_102 : decode mX5_openOne.2.1 102 = .ok (.iload_n 1, 1) := by decide +kernel
theorem dX5_openOne_103 : decode mX5_openOne.2.1 103 = .ok (.iaload, 1) := by decide +kernel
theorem dX5_openOne_104 : decode mX5_openOne.2.1 104 = .ok (.iload_n 2, 1) := by decide +kernel
theorem dX5_openOne_105 : decode mX5_openOne.2.1 105 = .ok (.invokevirtual 114, 3) := by decide +kernel
theorem dX5_openOne_108 : decode mX5_openOne.2.1 108 = .ok (.iinc 4 1, 3) := by decide +kernel
theorem dX5_openOne_111 : decode mX5_openOne.2.1 111 = .ok (.goto (-50), 3) := by decide +kernel
theorem dX5_openOne_114 : decode mX5_openOne.2.1 114 = .ok (.return_, 1) := by decide +kernel
def fn_X5_openOne_b108 (n : Nat) (b : Nat) (x1 : Int32) (x2 : Int32) (k61 : Int32 → Int32 → Sg → Option Sg) (v3 : Int32) (v4 : Int32) (σ : Sg) : Option Sg :=
  (k61 v3 (v4 + 1) σ)
set_option maxRecDepth 20000 in
set_option maxHeartbeats 4000000 in
theorem ev_X5_openOne_b108 (n : Nat) (b : Nat) (hb : ag_Y b) (x1 : Int32) (x2 : Int32) (k61 : Int32 → Int32 → Sg → Option Sg) (hk61 : ∀ (v3 : Int32) (v4 : Int32) (σ : Sg), Ev mX5_openOne 1 23 jV 61 [(0, .ref b), (1, .int x1), (2, .int x2), (3, .int v3), (4, .int v4)] [] σ (k61 v3 v4 σ)) (v3 : Int32) (v4 : Int32) (σ : Sg) : Ev mX5_openOne 1 23 jV 108 [(0, .ref b), (1, .int x1), (2, .int x2), (3, .int v3), (4, .int v4)] [] σ (fn_X5_openOne_b108 n b x1 x2 k61 v3 v4 σ) := by
  unfold fn_X5_openOne_b108
  refine ev_iinc (pc := 108) (v := (v4 + 1)) (lv' := [(4, .int (v4 + 1)), (0, .ref b), (1, .int x1), (2, .int x2), (3, .int v3)]) 4 dX5_openOne_108 rfl rfl (Nat.le_of_ble_eq_true rfl) rfl ?_
  refine ev_goto (pc := 111) (tgt := 61) dX5_openOne_111 rfl ?_
  refine ev_sub [1, 2, 3, 4, 0] rfl ?_
  exact hk61 v3 (v4 + 1) σ
def fn_X5_openOne_b61 (n : Nat) (b : Nat) (x1 : Int32) (x2 : Int32)  : Nat → Int32 → Int32 → Sg → Option Sg
  | 0 => fun _ _ _ => none
  | i + 1 => fun v3 v4 σ =>
  (if (σ (b + 1) 0) ≤ v4 then (some σ)
  else (if v4 = v3 then (fn_X5_openOne_b108 n b x1 x2 (fn_X5_openOne_b61 n b x1 x2 i) v3 v4 σ)
  else (Option.bind (fn_X1_lives (b + 1) v4 x2 σ) fun q12 =>
  (if q12 = 0 then (fn_X5_openOne_b108 n b x1 x2 (fn_X5_openOne_b61 n b x1 x2 i) v3 v4 σ)
  else (if ag_ib x1 13 = true then (Option.bind (fn_X5_grant b v4 (σ (b + 11) x1.toNatClampNeg) x2 σ) fun q13 =>
  (fn_X5_openOne_b108 n b x1 x2 (fn_X5_openOne_b61 n b x1 x2 i) v3 v4 q13)) else none)))))
theorem fn_X5_openOne_b61_s (n : Nat) (b : Nat) (x1 : Int32) (x2 : Int32)  (i : Nat) (v3 : Int32) (v4 : Int32) (σ : Sg) : fn_X5_openOne_b61 n b x1 x2 (i + 1) v3 v4 σ =
  (if (σ (b + 1) 0) ≤ v4 then (some σ)
  else (if v4 = v3 then (fn_X5_openOne_b108 n b x1 x2 (fn_X5_openOne_b61 n b x1 x2 i) v3 v4 σ)
  else (Option.bind (fn_X1_lives (b + 1) v4 x2 σ) fun q12 =>
  (if q12 = 0 then (fn_X5_openOne_b108 n b x1 x2 (fn_X5_openOne_b61 n b x1 x2 i) v3 v4 σ)
  else (if ag_ib x1 13 = true then (Option.bind (fn_X5_grant b v4 (σ (b + 11) x1.toNatClampNeg) x2 σ) fun q13 =>
  (fn_X5_openOne_b108 n b x1 x2 (fn_X5_openOne_b61 n b x1 x2 i) v3 v4 q13)) else none))))) := rfl
set_option maxRecDepth 20000 in
set_option maxHeartbeats 4000000 in
theorem ev_X5_openOne_b61 (n : Nat) (b : Nat) (hb : ag_Y b) (x1 : Int32) (x2 : Int32)  : ∀ (i : Nat) (v3 : Int32) (v4 : Int32) (σ : Sg), Ev mX5_openOne 1 23 jV 61 [(0, .ref b), (1, .int x1), (2, .int x2), (3, .int v3), (4, .int v4)] [] σ (fn_X5_openOne_b61 n b x1 x2 i v3 v4 σ) := by
  intro i
  induction i with
  | zero =>
    intro v3 v4 σ
    exact ev_none
  | succ i ih =>
    intro v3 v4 σ
    rw [fn_X5_openOne_b61_s]
    refine ev_iload (pc := 61) 4 dX5_openOne_61 rfl ?_
    refine ev_aload_n (pc := 63) (i := 0) 0 dX5_openOne_63 rfl rfl ?_
    refine ev_getR (pc := 64) (t := (b + 1)) 0 ag_C5 (ag_Yk hb).1 (ag_Yk hb).2 (Nat.le_of_ble_eq_true rfl) (ag_Yt0 hb) rfl ag_fl_X5_12 dX5_openOne_64 ?_
    refine ev_getI (pc := 67) 0 ag_C1 (ag_Fk (ag_YF hb)).1 (ag_Fk (ag_YF hb)).2 (Nat.le_of_ble_eq_true rfl) (ag_Ft0 (ag_YF hb)) rfl ag_fl_X5_118 dX5_openOne_67 ?_
    refine ev_icmp_ge (pc := 70) (tgt := 114) dX5_openOne_70 rfl ?_ ?_
    · exact ev_ret (fun r h => by cases h; rfl) rfl dX5_openOne_114
    · refine ev_iload (pc := 73) 4 dX5_openOne_73 rfl ?_
      refine ev_iload_n (pc := 75) (i := 3) 3 dX5_openOne_75 rfl rfl ?_
      refine ev_icmp_eq (pc := 76) (tgt := 108) dX5_openOne_76 rfl ?_ ?_
      · exact ev_X5_openOne_b108 n b hb x1 x2 (fn_X5_openOne_b61 n b x1 x2 i) ih v3 v4 σ
      · refine ev_aload_n (pc := 79) (i := 0) 0 dX5_openOne_79 rfl rfl ?_
        refine ev_getR (pc := 80) (t := (b + 1)) 0 ag_C5 (ag_Yk hb).1 (ag_Yk hb).2 (Nat.le_of_ble_eq_true rfl) (ag_Yt0 hb) rfl ag_fl_X5_12 dX5_openOne_80 ?_
        refine ev_iload (pc := 83) 4 dX5_openOne_83 rfl ?_
        refine ev_iload_n (pc := 85) (i := 2) 2 dX5_openOne_85 rfl rfl ?_
        refine ev_vI (pc := 86) (as := [.int v4, .int x2]) (rest := []) ⟨1, 87, 6, TX1, tyX1, ag_C1, ⟨(ag_Fk (ag_YF hb)).1, (ag_Fk (ag_YF hb)).2⟩, mv_X1_lives, ag_ml_X5_87, rfl, (Nat.le_of_ble_eq_true rfl), ⟨(Nat.le_of_ble_eq_true rfl), (Nat.le_of_ble_eq_true rfl)⟩, dX5_openOne_86⟩ (im_X1_lives (b + 1) (ag_YF hb) v4 x2 σ) (fun q12 => ?_)
        refine ev_if_eq (pc := 89) (tgt := 108) dX5_openOne_89 rfl ?_ ?_
        · exact ev_X5_openOne_b108 n b hb x1 x2 (fn_X5_openOne_b61 n b x1 x2 i) ih v3 v4 σ
        · refine ev_aload_n (pc := 92) (i := 0) 0 dX5_openOne_92 rfl rfl ?_
          refine ev_iload (pc := 93) 4 dX5_openOne_93 rfl ?_
          refine ev_aload_n (pc := 95) (i := 0) 0 dX5_openOne_95 rfl rfl ?_
          refine ev_getR (pc := 96) (t := (b + 7)) 1 ag_C5 (ag_Yk hb).1 (ag_Yk hb).2 (Nat.le_of_ble_eq_true rfl) (ag_Yt1 hb) rfl ag_fl_X5_21 dX5_openOne_96 ?_
          refine ev_getR (pc := 99) (t := (b + 11)) 4 ag_C2 (ag_Pk (ag_YP hb)).1 (ag_Pk (ag_YP hb)).2 (Nat.le_of_ble_eq_true rfl) (ag_Pt4 (ag_YP hb)) rfl ag_fl_X5_91 dX5_openOne_99 ?_
          refine ev_iload_n (pc := 102) (i := 1) 1 dX5_openOne_102 rfl rfl ?_
          refine ev_iald (pc := 103) (ag_Pa4 (ag_YP hb)).1 (ag_Pa4 (ag_YP hb)).2 dX5_openOne_103 ?_
          refine ev_iload_n (pc := 104) (i := 2) 2 dX5_openOne_104 rfl rfl ?_
          refine ev_vV (pc := 105) (as := [.int v4, .int (σ (b + 11) x1.toNatClampNeg), .int x2]) (rest := []) ⟨5, 114, 10, TX5, tyX5, ag_C5, ⟨(ag_Yk hb).1, (ag_Yk hb).2⟩, mv_X5_grant, ag_ml_X5_114, rfl, (Nat.le_of_ble_eq_true rfl), ⟨(Nat.le_of_ble_eq_true rfl), (Nat.le_of_ble_eq_true rfl)⟩, dX5_openOne_105⟩ (im_X5_grant b hb v4 (σ (b + 11) x1.toNatClampNeg) x2 σ) (fun q13 => ?_)
          exact ev_X5_openOne_b108 n b hb x1 x2 (fn_X5_openOne_b61 n b x1 x2 i) ih v3 v4 q13
def fn_X5_openOne (n : Nat) (b : Nat) (x1 : Int32) (x2 : Int32) (σ : Sg) : Option Sg :=
  (if ag_ib x1 13 = true then (if ag_ib x1 13 = true then (if ag_ib (σ (b + 9) x1.toNatClampNeg) 10 = true then (if ((ag_up (ag_up σ b 4 ((σ b 4) ||| (1 <<< (x1 &&& 31)))) (b + 13) x1.toNatClampNeg x2) (b + 4) (σ (b + 9) x1.toNatClampNeg).toNatClampNeg) = 1 then (fn_X5_openOne_b61 n b x1 x2 n (σ (b + 9) x1.toNatClampNeg) 0 (ag_up (ag_up σ b 4 ((σ b 4) ||| (1 <<< (x1 &&& 31)))) (b + 13) x1.toNatClampNeg x2))
  else (if ag_ib x1 13 = true then (Option.bind (fn_X5_grant b (σ (b + 9) x1.toNatClampNeg) ((ag_up (ag_up σ b 4 ((σ b 4) ||| (1 <<< (x1 &&& 31)))) (b + 13) x1.toNatClampNeg x2) (b + 11) x1.toNatClampNeg) x2 (ag_up (ag_up σ b 4 ((σ b 4) ||| (1 <<< (x1 &&& 31)))) (b + 13) x1.toNatClampNeg x2)) fun q14 =>
  (some q14)) else none)) else none) else none) else none)
set_option maxRecDepth 20000 in
set_option maxHeartbeats 4000000 in
theorem im_X5_openOne (n : Nat) (b : Nat) (hb : ag_Y b) (x1 : Int32) (x2 : Int32) (σ : Sg) : Im yX5_openOne mX5_openOne 1 23 jV [.ref b, .int x1, .int x2] σ (fn_X5_openOne n b x1 x2 σ) := by
  refine Im.of (by decide +kernel) rfl (Nat.le_of_ble_eq_true rfl) ?_
  show Ev mX5_openOne 1 23 jV 0 [(0, .ref b), (1, .int x1), (2, .int x2)] [] σ (fn_X5_openOne n b x1 x2 σ)
  unfold fn_X5_openOne
  refine ev_aload_n (pc := 0) (i := 0) 0 dX5_openOne_0 rfl rfl ?_
  refine ev_getR (pc := 1) (t := (b + 7)) 1 ag_C5 (ag_Yk hb).1 (ag_Yk hb).2 (Nat.le_of_ble_eq_true rfl) (ag_Yt1 hb) rfl ag_fl_X5_21 dX5_openOne_1 ?_
  refine ev_getR (pc := 4) (t := (b + 9)) 2 ag_C2 (ag_Pk (ag_YP hb)).1 (ag_Pk (ag_YP hb)).2 (Nat.le_of_ble_eq_true rfl) (ag_Pt2 (ag_YP hb)) rfl ag_fl_X5_101 dX5_openOne_4 ?_
  refine ev_iload_n (pc := 7) (i := 1) 1 dX5_openOne_7 rfl rfl ?_
  refine ev_iald (pc := 8) (ag_Pa2 (ag_YP hb)).1 (ag_Pa2 (ag_YP hb)).2 dX5_openOne_8 ?_
  refine ev_istore_n (pc := 9) (i := 3) (lv' := [(3, .int (σ (b + 9) x1.toNatClampNeg)), (0, .ref b), (1, .int x1), (2, .int x2)]) dX5_openOne_9 rfl (Nat.le_of_ble_eq_true rfl) rfl ?_
  refine ev_aload_n (pc := 10) (i := 0) 1 dX5_openOne_10 rfl rfl ?_
  refine ev_dup (pc := 11) dX5_openOne_11 rfl ?_
  refine ev_getI (pc := 12) 4 ag_C5 (ag_Yk hb).1 (ag_Yk hb).2 (Nat.le_of_ble_eq_true rfl) (ag_Yt4 hb) rfl ag_fl_X5_32 dX5_openOne_12 ?_
  refine ev_iconst (pc := 15) (v := 1) dX5_openOne_15 (by decide) ?_
  refine ev_iload_n (pc := 16) (i := 1) 2 dX5_openOne_16 rfl rfl ?_
  refine ev_ishl (pc := 17) dX5_openOne_17 ?_
  refine ev_ior (pc := 18) dX5_openOne_18 ?_
  refine ev_put (pc := 19) 4 ag_C5 (ag_Yk hb).1 (ag_Yk hb).2 (Nat.le_of_ble_eq_true rfl) (ag_Yt4 hb) rfl ag_fl_X5_32 rfl rfl rfl dX5_openOne_19 ?_
  refine ev_aload_n (pc := 22) (i := 0) 1 dX5_openOne_22 rfl rfl ?_
  refine ev_getR (pc := 23) (t := (b + 13)) 5 ag_C5 (ag_Yk hb).1 (ag_Yk hb).2 (Nat.le_of_ble_eq_true rfl) (ag_Yt5 hb) rfl ag_fl_X5_35 dX5_openOne_23 ?_
  refine ev_iload_n (pc := 26) (i := 1) 2 dX5_openOne_26 rfl rfl ?_
  refine ev_iload_n (pc := 27) (i := 2) 3 dX5_openOne_27 rfl rfl ?_
  refine ev_iast (pc := 28) (ag_Ya13 hb).1 (ag_Ya13 hb).2 dX5_openOne_28 ?_
  refine ev_aload_n (pc := 29) (i := 0) 1 dX5_openOne_29 rfl rfl ?_
  refine ev_getR (pc := 30) (t := (b + 1)) 0 ag_C5 (ag_Yk hb).1 (ag_Yk hb).2 (Nat.le_of_ble_eq_true rfl) (ag_Yt0 hb) rfl ag_fl_X5_12 dX5_openOne_30 ?_
  refine ev_getR (pc := 33) (t := (b + 4)) 3 ag_C1 (ag_Fk (ag_YF hb)).1 (ag_Fk (ag_YF hb)).2 (Nat.le_of_ble_eq_true rfl) (ag_Ft3 (ag_YF hb)) rfl ag_fl_X5_111 dX5_openOne_33 ?_
  refine ev_iload_n (pc := 36) (i := 3) 0 dX5_openOne_36 rfl rfl ?_
  refine ev_iald (pc := 37) (ag_Fa3 (ag_YF hb)).1 (ag_Fa3 (ag_YF hb)).2 dX5_openOne_37 ?_
  refine ev_iconst (pc := 38) (v := 1) dX5_openOne_38 (by decide) ?_
  refine ev_icmp_eq (pc := 39) (tgt := 58) dX5_openOne_39 rfl ?_ ?_
  · refine ev_iconst (pc := 58) (v := 0) dX5_openOne_58 (by decide) ?_
    refine ev_istore (pc := 59) (lv' := [(4, .int 0), (3, .int (σ (b + 9) x1.toNatClampNeg)), (0, .ref b), (1, .int x1), (2, .int x2)]) dX5_openOne_59 (Nat.le_of_ble_eq_true rfl) rfl ?_
    refine ev_sub [2, 3, 4, 1, 0] rfl ?_
    exact ev_X5_openOne_b61 n b hb x1 x2 n (σ (b + 9) x1.toNatClampNeg) 0 (ag_up (ag_up σ b 4 ((σ b 4) ||| (1 <<< (x1 &&& 31)))) (b + 13) x1.toNatClampNeg x2)
  · refine ev_aload_n (pc := 42) (i := 0) 1 dX5_openOne_42 rfl rfl ?_
    refine ev_iload_n (pc := 43) (i := 3) 0 dX5_openOne_43 rfl rfl ?_
    refine ev_aload_n (pc := 44) (i := 0) 1 dX5_openOne_44 rfl rfl ?_
    refine ev_getR (pc := 45) (t := (b + 7)) 1 ag_C5 (ag_Yk hb).1 (ag_Yk hb).2 (Nat.le_of_ble_eq_true rfl) (ag_Yt1 hb) rfl ag_fl_X5_21 dX5_openOne_45 ?_
    refine ev_getR (pc := 48) (t := (b + 11)) 4 ag_C2 (ag_Pk (ag_YP hb)).1 (ag_Pk (ag_YP hb)).2 (Nat.le_of_ble_eq_true rfl) (ag_Pt4 (ag_YP hb)) rfl ag_fl_X5_91 dX5_openOne_48 ?_
    refine ev_iload_n (pc := 51) (i := 1) 2 dX5_openOne_51 rfl rfl ?_
    refine ev_iald (pc := 52) (ag_Pa4 (ag_YP hb)).1 (ag_Pa4 (ag_YP hb)).2 dX5_openOne_52 ?_
    refine ev_iload_n (pc := 53) (i := 2) 3 dX5_openOne_53 rfl rfl ?_
    refine ev_vV (pc := 54) (as := [.int (σ (b + 9) x1.toNatClampNeg), .int ((ag_up (ag_up σ b 4 ((σ b 4) ||| (1 <<< (x1 &&& 31)))) (b + 13) x1.toNatClampNeg x2) (b + 11) x1.toNatClampNeg), .int x2]) (rest := []) ⟨5, 114, 10, TX5, tyX5, ag_C5, ⟨(ag_Yk hb).1, (ag_Yk hb).2⟩, mv_X5_grant, ag_ml_X5_114, rfl, (Nat.le_of_ble_eq_true rfl), ⟨(Nat.le_of_ble_eq_true rfl), (Nat.le_of_ble_eq_true rfl)⟩, dX5_openOne_54⟩ (im_X5_grant b hb (σ (b + 9) x1.toNatClampNeg) ((ag_up (ag_up σ b 4 ((σ b 4) ||| (1 <<< (x1 &&& 31)))) (b + 13) x1.toNatClampNeg x2) (b + 11) x1.toNatClampNeg) x2 (ag_up (ag_up σ b 4 ((σ b 4) ||| (1 <<< (x1 &&& 31)))) (b + 13) x1.toNatClampNeg x2)) (fun q14 => ?_)
    exact ev_ret (fun r h => by cases h; rfl) rfl dX5_openOne_57
-- X5_openThoseDue
def mX5_openThoseDue : Md := (RX5, cX5_openThoseDue, 3, none)
theorem mv_X5_openThoseDue : ag_Mv yX5_openThoseDue mX5_openThoseDue 1 := ⟨ag_co_X5_openThoseDue, ag_im_X5_openThoseDue, ag_se_X5_openThoseDue, ag_ini_X5, by decide +kernel⟩
theorem dX5_openThoseDue_0 : decode mX5_openThoseDue.2.1 0 = .ok (.iconst 0, 1) := by decide +kernel
theorem dX5_openThoseDue_1 : decode mX5_openThoseDue.2.1 1 = .ok (.istore_n 2, 1) := by decide +kernel
theorem dX5_openThoseDue_2 : decode mX5_openThoseDue.2.1 2 = .ok (.iload_n 2, 1) := by decide +kernel
theorem dX5_openThoseDue_3 : decode mX5_openThoseDue.2.1 3 = .ok (.aload_n 0, 1) := by decide +kernel
theorem dX5_openThoseDue_4 : decode mX5_openThoseDue.2.1 4 = .ok (.getfield 21, 3) := by decide +kernel
theorem dX5_openThoseDue_7 : decode mX5_openThoseDue.2.1 7 = .ok (.getfield 78, 3) := by decide +kernel
theorem dX5_openThoseDue_10 : decode mX5_openThoseDue.2.1 10 = .ok (.if_icmp .ge 80, 3) := by decide +kernel
theorem dX5_openThoseDue_13 : decode mX5_openThoseDue.2.1 13 = .ok (.aload_n 0, 1) := by decide +kernel
theorem dX5_openThoseDue_14 : decode mX5_openThoseDue.2.1 14 = .ok (.getfield 29, 3) := by decide +kernel
theorem dX5_openThoseDue_17 : decode mX5_openThoseDue.2.1 17 = .ok (.aload_n 0, 1) := by decide +kernel
theorem dX5_openThoseDue_18 : decode mX5_openThoseDue.2.1 18 = .ok (.getfield 32, 3) := by decide +kernel
theorem dX5_openThoseDue_21 : decode mX5_openThoseDue.2.1 21 = .ok (.iconst (-1), 1) := by decide +kernel
theorem dX5_openThoseDue_22 : decode mX5_openThoseDue.2.1 22 = .ok (.ixor, 1) := by decide +kernel
theorem dX5_openThoseDue_23 : decode mX5_openThoseDue.2.1 23 = .ok (.iand, 1) := by decide +kernel
theorem dX5_openThoseDue_24 : decode mX5_openThoseDue.2.1 24 = .ok (.iload_n 2, 1) := by decide +kernel
theorem dX5_openThoseDue_25 : decode mX5_openThoseDue.2.1 25 = .ok (.ishr, 1) := by decide +kernel
theorem dX5_openThoseDue_26 : decode mX5_openThoseDue.2.1 26 = .ok (.ifCond .ne 6, 3) := by decide +kernel
theorem dX5_openThoseDue_29 : decode mX5_openThoseDue.2.1 29 = .ok (.goto 61, 3) := by decide +kernel
theorem dX5_openThoseDue_32 : decode mX5_openThoseDue.2.1 32 = .ok (.aload_n 0, 1) := by decide +kernel
theorem dX5_openThoseDue_33 : decode mX5_openThoseDue.2.1 33 = .ok (.iload_n 2, 1) := by decide +kernel
theorem dX5_openThoseDue_34 : decode mX5_openThoseDue.2.1 34 = .ok (.invokevirtual 97, 3) := by decide +kernel
theorem dX5_openThoseDue_37 : decode mX5_openThoseDue.2.1 37 = .ok (.ifCond .eq 47, 3) := by decide +kernel
theorem dX5_openThoseDue_40 : decode mX5_openThoseDue.2.1 40 = .ok (.aload_n 0, 1) := by decide +kernel
theorem dX5_openThoseDue_41 : decode mX5_openThoseDue.2.1 41 = .ok (.getfield 39, 3) := by decide +kernel
theorem dX5_openThoseDue_44 : decode mX5_openThoseDue.2.1 44 = .ok (.iload_n 2, 1) := by decide +kernel
theorem dX5_openThoseDue_45 : decode mX5_openThoseDue.2.1 45 = .ok (.iaload, 1) := by decide +kernel
theorem dX5_openThoseDue_46 : decode mX5_openThoseDue.2.1 46 = .ok (.iload_n 1, 1) := by decide +kernel
theorem dX5_openThoseDue_47 : decode mX5_openThoseDue.2.1 47 = .ok (.if_icmp .gt 37, 3) := by decide +kernel
theorem dX5_openThoseDue_50 : decode mX5_openThoseDue.2.1 50 = .ok (.aload_n 0, 1) := by decide +kernel
theorem dX5_openThoseDue_51 : decode mX5_openThoseDue.2.1 51 = .ok (.getfield 12, 3) := by decide +kernel
theorem dX5_openThoseDue_54 : decode mX5_openThoseDue.2.1 54 = .ok (.aload_n 0, 1) := by decide +kernel
theorem dX5_openThoseDue_55 : decode mX5_openThoseDue.2.1 55 = .ok (.getfield 21, 3) := by decide +kernel
theorem dX5_openThoseDue_58 : decode mX5_openThoseDue.2.1 58 = .ok (.getfield 101, 3) := by decide +kernel
theorem dX5_openThoseDue_61 : decode mX5_openThoseDue.2.1 61 = .ok (.iload_n 2, 1) := by decide +kernel
theorem dX5_openThoseDue_62 : decode mX5_openThoseDue.2.1 62 = .ok (.iaload, 1) := by decide +kernel
theorem dX5_openThoseDue_63 : decode mX5_openThoseDue.2.1 63 = .ok (.iload_n 1, 1) := by decide +kernel
theorem dX5_openThoseDue_64 : decode mX5_openThoseDue.2.1 64 = .ok (.invokevirtual 87, 3) := by decide +kernel
theorem dX5_openThoseDue_67 : decode mX5_openThoseDue.2.1 67 = .ok (.ifCond .eq 17, 3) := by decide +kernel
theorem dX5_openThoseDue_70 : decode mX5_openThoseDue.2.1 70 = .ok (.aload_n 0, 1) := by decide +kernel
theorem dX5_openThoseDue_71 : decode mX5_openThoseDue.2.1 71 = .ok (.iload_n 2, 1) := by decide +kernel
theorem dX5_openThoseDue_72 : decode mX5_openThoseDue.2.1 72 = .ok (.invokevirtual 104, 3) := by decide +kernel
theorem dX5_openThoseDue_75 : decode mX5_openThoseDue.2.1 75 = .ok (.ifCond .eq 9, 3) := by decide +kernel
theorem dX5_openThoseDue_78 : decode mX5_openThoseDue.2.1 78 = .ok (.aload_n 0, 1) := by decide +kernel
theorem dX5_openThoseDue_79 : decode mX5_openThoseDue.2.1 79 = .ok (.iload_n 2, 1) := by decide +kernel
theorem dX5_openThoseDue_80 : decode mX5_openThoseDue.2.1 80 = .ok (.iload_n 1, 1) := by decide +kernel
theorem dX5_openThoseDue_81 : decode mX5_openThoseDue.2.1 81 = .ok (.invokevirtual 107, 3) := by decide +kernel
theorem dX5_openThoseDue_84 : decode mX5_openThoseDue.2.1 84 = .ok (.iinc 2 1, 3) := by decide +kernel
theorem dX5_openThoseDue_87 : decode mX5_openThoseDue.2.1 87 = .ok (.goto (-85), 3) := by decide +kernel
theorem dX5_openThoseDue_90 : decode mX5_openThoseDue.2.1 90 = .ok (.return_, 1) := by decide +kernel
def fn_X5_openThoseDue_b84 (n : Nat) (b : Nat) (x1 : Int32) (k2 : Int32 → Sg → Option Sg) (v2 : Int32) (σ : Sg) : Option Sg :=
  (k2 (v2 + 1) σ)
set_option maxRecDepth 20000 in
set_option maxHeartbeats 4000000 in
theorem ev_X5_openThoseDue_b84 (n : Nat) (b : Nat) (hb : ag_Y b) (x1 : Int32) (k2 : Int32 → Sg → Option Sg) (hk2 : ∀ (v2 : Int32) (σ : Sg), Ev mX5_openThoseDue 2 47 jV 2 [(0, .ref b), (1, .int x1), (2, .int v2)] [] σ (k2 v2 σ)) (v2 : Int32) (σ : Sg) : Ev mX5_openThoseDue 2 47 jV 84 [(0, .ref b), (1, .int x1), (2, .int v2)] [] σ (fn_X5_openThoseDue_b84 n b x1 k2 v2 σ) := by
  unfold fn_X5_openThoseDue_b84
  refine ev_iinc (pc := 84) (v := (v2 + 1)) (lv' := [(2, .int (v2 + 1)), (0, .ref b), (1, .int x1)]) 2 dX5_openThoseDue_84 rfl rfl (Nat.le_of_ble_eq_true rfl) rfl ?_
  refine ev_goto (pc := 87) (tgt := 2) dX5_openThoseDue_87 rfl ?_
  refine ev_sub [1, 2, 0] rfl ?_
  exact hk2 (v2 + 1) σ
def fn_X5_openThoseDue_b2 (n : Nat) (b : Nat) (x1 : Int32)  : Nat → Int32 → Sg → Option Sg
  | 0 => fun _ _ => none
  | i + 1 => fun v2 σ =>
  (if (σ (b + 7) 0) ≤ v2 then (some σ)
  else (if (((σ b 3) &&& ((σ b 4) ^^^ (-1))) >>> (v2 &&& 31)) = 0 then (some σ)
  else (Option.bind (fn_X5_isWaiting b v2 σ) fun q15 =>
  (if q15 = 0 then (fn_X5_openThoseDue_b84 n b x1 (fn_X5_openThoseDue_b2 n b x1 i) v2 σ)
  else (if ag_ib v2 13 = true then (if x1 < (σ (b + 14) v2.toNatClampNeg) then (fn_X5_openThoseDue_b84 n b x1 (fn_X5_openThoseDue_b2 n b x1 i) v2 σ)
  else (if ag_ib v2 13 = true then (Option.bind (fn_X1_lives (b + 1) (σ (b + 9) v2.toNatClampNeg) x1 σ) fun q16 =>
  (if q16 = 0 then (fn_X5_openThoseDue_b84 n b x1 (fn_X5_openThoseDue_b2 n b x1 i) v2 σ)
  else (Option.bind (fn_X5_hasNeeded b v2 σ) fun q17 =>
  (if q17 = 0 then (fn_X5_openThoseDue_b84 n b x1 (fn_X5_openThoseDue_b2 n b x1 i) v2 σ)
  else (Option.bind (fn_X5_openOne n b v2 x1 σ) fun q18 =>
  (fn_X5_openThoseDue_b84 n b x1 (fn_X5_openThoseDue_b2 n b x1 i) v2 q18)))))) else none)) else none)))))
theorem fn_X5_openThoseDue_b2_s (n : Nat) (b : Nat) (x1 : Int32)  (i : Nat) (v2 : Int32) (σ : Sg) : fn_X5_openThoseDue_b2 n b x1 (i + 1) v2 σ =
  (if (σ (b + 7) 0) ≤ v2 then (some σ)
  else (if (((σ b 3) &&& ((σ b 4) ^^^ (-1))) >>> (v2 &&& 31)) = 0 then (some σ)
  else (Option.bind (fn_X5_isWaiting b v2 σ) fun q15 =>
  (if q15 = 0 then (fn_X5_openThoseDue_b84 n b x1 (fn_X5_openThoseDue_b2 n b x1 i) v2 σ)
  else (if ag_ib v2 13 = true then (if x1 < (σ (b + 14) v2.toNatClampNeg) then (fn_X5_openThoseDue_b84 n b x1 (fn_X5_openThoseDue_b2 n b x1 i) v2 σ)
  else (if ag_ib v2 13 = true then (Option.bind (fn_X1_lives (b + 1) (σ (b + 9) v2.toNatClampNeg) x1 σ) fun q16 =>
  (if q16 = 0 then (fn_X5_openThoseDue_b84 n b x1 (fn_X5_openThoseDue_b2 n b x1 i) v2 σ)
  else (Option.bind (fn_X5_hasNeeded b v2 σ) fun q17 =>
  (if q17 = 0 then (fn_X5_openThoseDue_b84 n b x1 (fn_X5_openThoseDue_b2 n b x1 i) v2 σ)
  else (Option.bind (fn_X5_openOne n b v2 x1 σ) fun q18 =>
  (fn_X5_openThoseDue_b84 n b x1 (fn_X5_openThoseDue_b2 n b x1 i) v2 q18)))))) else none)) else none))))) := rfl
set_option maxRecDepth 20000 in
set_option maxHeartbeats 4000000 in
theorem ev_X5_openThoseDue_b2 (n : Nat) (b : Nat) (hb : ag_Y b) (x1 : Int32)  : ∀ (i : Nat) (v2 : Int32) (σ : Sg), Ev mX5_openThoseDue 2 47 jV 2 [(0, .ref b), (1, .int x1), (2, .int v2)] [] σ (fn_X5_openThoseDue_b2 n b x1 i v2 σ) := by
  intro i
  induction i with
  | zero =>
    intro v2 σ
    exact ev_none
  | succ i ih =>
    intro v2 σ
    rw [fn_X5_openThoseDue_b2_s]
    refine ev_iload_n (pc := 2) (i := 2) 2 dX5_openThoseDue_2 rfl rfl ?_
    refine ev_aload_n (pc := 3) (i := 0) 0 dX5_openThoseDue_3 rfl rfl ?_
    refine ev_getR (pc := 4) (t := (b + 7)) 1 ag_C5 (ag_Yk hb).1 (ag_Yk hb).2 (Nat.le_of_ble_eq_true rfl) (ag_Yt1 hb) rfl ag_fl_X5_21 dX5_openThoseDue_4 ?_
    refine ev_getI (pc := 7) 0 ag_C2 (ag_Pk (ag_YP hb)).1 (ag_Pk (ag_YP hb)).2 (Nat.le_of_ble_eq_true rfl) (ag_Pt0 (ag_YP hb)) rfl ag_fl_X5_78 dX5_openThoseDue_7 ?_
    refine ev_icmp_ge (pc := 10) (tgt := 90) dX5_openThoseDue_10 rfl ?_ ?_
    · exact ev_ret (fun r h => by cases h; rfl) rfl dX5_openThoseDue_90
    · refine ev_aload_n (pc := 13) (i := 0) 0 dX5_openThoseDue_13 rfl rfl ?_
      refine ev_getI (pc := 14) 3 ag_C5 (ag_Yk hb).1 (ag_Yk hb).2 (Nat.le_of_ble_eq_true rfl) (ag_Yt3 hb) rfl ag_fl_X5_29 dX5_openThoseDue_14 ?_
      refine ev_aload_n (pc := 17) (i := 0) 0 dX5_openThoseDue_17 rfl rfl ?_
      refine ev_getI (pc := 18) 4 ag_C5 (ag_Yk hb).1 (ag_Yk hb).2 (Nat.le_of_ble_eq_true rfl) (ag_Yt4 hb) rfl ag_fl_X5_32 dX5_openThoseDue_18 ?_
      refine ev_iconst (pc := 21) (v := (-1)) dX5_openThoseDue_21 (by decide) ?_
      refine ev_ixor (pc := 22) dX5_openThoseDue_22 ?_
      refine ev_iand (pc := 23) dX5_openThoseDue_23 ?_
      refine ev_iload_n (pc := 24) (i := 2) 2 dX5_openThoseDue_24 rfl rfl ?_
      refine ev_ishr (pc := 25) dX5_openThoseDue_25 ?_
      refine ev_if_ne (pc := 26) (tgt := 32) dX5_openThoseDue_26 rfl ?_ ?_
      · refine ev_goto (pc := 29) (tgt := 90) dX5_openThoseDue_29 rfl ?_
        exact ev_ret (fun r h => by cases h; rfl) rfl dX5_openThoseDue_90
      · refine ev_aload_n (pc := 32) (i := 0) 0 dX5_openThoseDue_32 rfl rfl ?_
        refine ev_iload_n (pc := 33) (i := 2) 2 dX5_openThoseDue_33 rfl rfl ?_
        refine ev_vI (pc := 34) (as := [.int v2]) (rest := []) ⟨5, 97, 10, TX5, tyX5, ag_C5, ⟨(ag_Yk hb).1, (ag_Yk hb).2⟩, mv_X5_isWaiting, ag_ml_X5_97, rfl, (Nat.le_of_ble_eq_true rfl), ⟨(Nat.le_of_ble_eq_true rfl), (Nat.le_of_ble_eq_true rfl)⟩, dX5_openThoseDue_34⟩ (im_X5_isWaiting b hb v2 σ) (fun q15 => ?_)
        refine ev_if_eq (pc := 37) (tgt := 84) dX5_openThoseDue_37 rfl ?_ ?_
        · exact ev_X5_openThoseDue_b84 n b hb x1 (fn_X5_openThoseDue_b2 n b x1 i) ih v2 σ
        · refine ev_aload_n (pc := 40) (i := 0) 0 dX5_openThoseDue_40 rfl rfl ?_
          refine ev_getR (pc := 41) (t := (b + 14)) 6 ag_C5 (ag_Yk hb).1 (ag_Yk hb).2 (Nat.le_of_ble_eq_true rfl) (ag_Yt6 hb) rfl ag_fl_X5_39 dX5_openThoseDue_41 ?_
          refine ev_iload_n (pc := 44) (i := 2) 2 dX5_openThoseDue_44 rfl rfl ?_
          refine ev_iald (pc := 45) (ag_Ya14 hb).1 (ag_Ya14 hb).2 dX5_openThoseDue_45 ?_
          refine ev_iload_n (pc := 46) (i := 1) 1 dX5_openThoseDue_46 rfl rfl ?_
          refine ev_icmp_gt (pc := 47) (tgt := 84) dX5_openThoseDue_47 rfl ?_ ?_
          · exact ev_X5_openThoseDue_b84 n b hb x1 (fn_X5_openThoseDue_b2 n b x1 i) ih v2 σ
          · refine ev_aload_n (pc := 50) (i := 0) 0 dX5_openThoseDue_50 rfl rfl ?_
            refine ev_getR (pc := 51) (t := (b + 1)) 0 ag_C5 (ag_Yk hb).1 (ag_Yk hb).2 (Nat.le_of_ble_eq_true rfl) (ag_Yt0 hb) rfl ag_fl_X5_12 dX5_openThoseDue_51 ?_
            refine ev_aload_n (pc := 54) (i := 0) 0 dX5_openThoseDue_54 rfl rfl ?_
            refine ev_getR (pc := 55) (t := (b + 7)) 1 ag_C5 (ag_Yk hb).1 (ag_Yk hb).2 (Nat.le_of_ble_eq_true rfl) (ag_Yt1 hb) rfl ag_fl_X5_21 dX5_openThoseDue_55 ?_
            refine ev_getR (pc := 58) (t := (b + 9)) 2 ag_C2 (ag_Pk (ag_YP hb)).1 (ag_Pk (ag_YP hb)).2 (Nat.le_of_ble_eq_true rfl) (ag_Pt2 (ag_YP hb)) rfl ag_fl_X5_101 dX5_openThoseDue_58 ?_
            refine ev_iload_n (pc := 61) (i := 2) 2 dX5_openThoseDue_61 rfl rfl ?_
            refine ev_iald (pc := 62) (ag_Pa2 (ag_YP hb)).1 (ag_Pa2 (ag_YP hb)).2 dX5_openThoseDue_62 ?_
            refine ev_iload_n (pc := 63) (i := 1) 1 dX5_openThoseDue_63 rfl rfl ?_
            refine ev_vI (pc := 64) (as := [.int (σ (b + 9) v2.toNatClampNeg), .int x1]) (rest := []) ⟨1, 87, 6, TX1, tyX1, ag_C1, ⟨(ag_Fk (ag_YF hb)).1, (ag_Fk (ag_YF hb)).2⟩, mv_X1_lives, ag_ml_X5_87, rfl, (Nat.le_of_ble_eq_true rfl), ⟨(Nat.le_of_ble_eq_true rfl), (Nat.le_of_ble_eq_true rfl)⟩, dX5_openThoseDue_64⟩ (im_X1_lives (b + 1) (ag_YF hb) (σ (b + 9) v2.toNatClampNeg) x1 σ) (fun q16 => ?_)
            refine ev_if_eq (pc := 67) (tgt := 84) dX5_openThoseDue_67 rfl ?_ ?_
            · exact ev_X5_openThoseDue_b84 n b hb x1 (fn_X5_openThoseDue_b2 n b x1 i) ih v2 σ
            · refine ev_aload_n (pc := 70) (i := 0) 0 dX5_openThoseDue_70 rfl rfl ?_
              refine ev_iload_n (pc := 71) (i := 2) 2 dX5_openThoseDue_71 rfl rfl ?_
              refine ev_vI (pc := 72) (as := [.int v2]) (rest := []) ⟨5, 104, 10, TX5, tyX5, ag_C5, ⟨(ag_Yk hb).1, (ag_Yk hb).2⟩, mv_X5_hasNeeded, ag_ml_X5_104, rfl, (Nat.le_of_ble_eq_true rfl), ⟨(Nat.le_of_ble_eq_true rfl), (Nat.le_of_ble_eq_true rfl)⟩, dX5_openThoseDue_72⟩ (im_X5_hasNeeded b hb v2 σ) (fun q17 => ?_)
              refine ev_if_eq (pc := 75) (tgt := 84) dX5_openThoseDue_75 rfl ?_ ?_
              · exact ev_X5_openThoseDue_b84 n b hb x1 (fn_X5_openThoseDue_b2 n b x1 i) ih v2 σ
              · refine ev_aload_n (pc := 78) (i := 0) 0 dX5_openThoseDue_78 rfl rfl ?_
                refine ev_iload_n (pc := 79) (i := 2) 2 dX5_openThoseDue_79 rfl rfl ?_
                refine ev_iload_n (pc := 80) (i := 1) 1 dX5_openThoseDue_80 rfl rfl ?_
                refine ev_vV (pc := 81) (as := [.int v2, .int x1]) (rest := []) ⟨5, 107, 10, TX5, tyX5, ag_C5, ⟨(ag_Yk hb).1, (ag_Yk hb).2⟩, mv_X5_openOne, ag_ml_X5_107, rfl, (Nat.le_of_ble_eq_true rfl), ⟨(Nat.le_of_ble_eq_true rfl), (Nat.le_of_ble_eq_true rfl)⟩, dX5_openThoseDue_81⟩ (im_X5_openOne n b hb v2 x1 σ) (fun q18 => ?_)
                exact ev_X5_openThoseDue_b84 n b hb x1 (fn_X5_openThoseDue_b2 n b x1 i) ih v2 q18
def fn_X5_openThoseDue (n : Nat) (b : Nat) (x1 : Int32) (σ : Sg) : Option Sg :=
  (fn_X5_openThoseDue_b2 n b x1 n 0 σ)
set_option maxRecDepth 20000 in
set_option maxHeartbeats 4000000 in
theorem im_X5_openThoseDue (n : Nat) (b : Nat) (hb : ag_Y b) (x1 : Int32) (σ : Sg) : Im yX5_openThoseDue mX5_openThoseDue 2 47 jV [.ref b, .int x1] σ (fn_X5_openThoseDue n b x1 σ) := by
  refine Im.of (by decide +kernel) rfl (Nat.le_of_ble_eq_true rfl) ?_
  show Ev mX5_openThoseDue 2 47 jV 0 [(0, .ref b), (1, .int x1)] [] σ (fn_X5_openThoseDue n b x1 σ)
  unfold fn_X5_openThoseDue
  refine ev_iconst (pc := 0) (v := 0) dX5_openThoseDue_0 (by decide) ?_
  refine ev_istore_n (pc := 1) (i := 2) (lv' := [(2, .int 0), (0, .ref b), (1, .int x1)]) dX5_openThoseDue_1 rfl (Nat.le_of_ble_eq_true rfl) rfl ?_
  refine ev_sub [1, 2, 0] rfl ?_
  exact ev_X5_openThoseDue_b2 n b hb x1 n 0 σ
-- X5_nextStir
def mX5_nextStir : Md := (RX5, cX5_nextStir, 4, some .int)
theorem mv_X5_nextStir : ag_Mv yX5_nextStir mX5_nextStir 1 := ⟨ag_co_X5_nextStir, ag_im_X5_nextStir, ag_se_X5_nextStir, ag_ini_X5, by decide +kernel⟩
theorem dX5_nextStir_0 : decode mX5_nextStir.2.1 0 = .ok (.sipush 200, 3) := by decide +kernel
theorem dX5_nextStir_3 : decode mX5_nextStir.2.1 3 = .ok (.istore_n 2, 1) := by decide +kernel
theorem dX5_nextStir_4 : decode mX5_nextStir.2.1 4 = .ok (.iconst 0, 1) := by decide +kernel
theorem dX5_nextStir_5 : decode mX5_nextStir.2.1 5 = .ok (.istore_n 3, 1) := by decide +kernel
theorem dX5_nextStir_6 : decode mX5_nextStir.2.1 6 = .ok (.iload_n 3, 1) := by decide +kernel
theorem dX5_nextStir_7 : decode mX5_nextStir.2.1 7 = .ok (.aload_n 0, 1) := by decide +kernel
theorem dX5_nextStir_8 : decode mX5_nextStir.2.1 8 = .ok (.getfield 21, 3) := by decide +kernel
theorem dX5_nextStir_11 : decode mX5_nextStir.2.1 11 = .ok (.getfield 78, 3) := by decide +kernel
theorem dX5_nextStir_14 : decode mX5_nextStir.2.1 14 = .ok (.if_icmp .ge 68, 3) := by decide +kernel
theorem dX5_nextStir_17 : decode mX5_nextStir.2.1 17 = .ok (.aload_n 0, 1) := by decide +kernel
theorem dX5_nextStir_18 : decode mX5_nextStir.2.1 18 = .ok (.getfield 21, 3) := by decide +kernel
theorem dX5_nextStir_21 : decode mX5_nextStir.2.1 21 = .ok (.getfield 81, 3) := by decide +kernel
theorem dX5_nextStir_24 : decode mX5_nextStir.2.1 24 = .ok (.iload_n 3, 1) := by decide +kernel
theorem dX5_nextStir_25 : decode mX5_nextStir.2.1 25 = .ok (.iaload, 1) := by decide +kernel
theorem dX5_nextStir_26 : decode mX5_nextStir.2.1 26 = .ok (.iload_n 1, 1) := by decide +kernel
theorem dX5_nextStir_27 : decode mX5_nextStir.2.1 27 = .ok (.if_icmp .le 20, 3) := by decide +kernel
theorem dX5_nextStir_30 : decode mX5_nextStir.2.1 30 = .ok (.iload_n 2, 1) := by decide +kernel
theorem dX5_nextStir_31 : decode mX5_nextStir.2.1 31 = .ok (.aload_n 0, 1) := by decide +kernel
theorem dX5_nextStir_32 : decode mX5_nextStir.2.1 32 = .ok (.getfield 21, 3) := by decide +kernel
theorem dX5_nextStir_35 : decode mX5_nextStir.2.1 35 = .ok (.getfield 81, 3) := by decide +kernel
theorem dX5_nextStir_38 : decode mX5_nextStir.2.1 38 = .ok (.iload_n 3, 1) := by decide +kernel
theorem dX5_nextStir_39 : decode mX5_nextStir.2.1 39 = .ok (.iaload, 1) := by decide +kernel
theorem dX5_nextStir_40 : decode mX5_nextStir.2.1 40 = .ok (.invokestatic 124, 3) := by decide +kernel
theorem dX5_nextStir_43 : decode mX5_nextStir.2.1 43 = .ok (.istore_n 2, 1) := by decide +kernel
theorem dX5_nextStir_44 : decode mX5_nextStir.2.1 44 = .ok (.goto 32, 3) := by decide +kernel
theorem dX5_nextStir_47 : decode mX5_nextStir.2.1 47 = .ok (.aload_n 0, 1) := by decide +kernel
theorem dX5_nextStir_48 : decode mX5_nextStir.2.1 48 = .ok (.iload_n 3, 1) := by decide +kernel
theorem dX5_nextStir_49 : decode mX5_nextStir.2.1 49 = .ok (.invokevirtual 97, 3) := by decide +kernel
theorem dX5_nextStir_52 : decode mX5_nextStir.2.1 52 = .ok (.ifCond .eq 24, 3) := by decide +kernel
theorem dX5_nextStir_55 : decode mX5_nextStir.2.1 55 = .ok (.aload_n 0, 1) := by decide +kernel
theorem dX5_nextStir_56 : decode mX5_nextStir.2.1 56 = .ok (.getfield 39, 3) := by decide +kernel
theorem dX5_nextStir_59 : decode mX5_nextStir.2.1 59 = .ok (.iload_n 3, 1) := by decide +kernel
theorem dX5_nextStir_60 : decode mX5_nextStir.2.1 60 = .ok (.iaload, 1) := by decide +kernel
theorem dX5_nextStir_61 : decode mX5_nextStir.2.1 61 = .ok (.iload_n 1, 1) := by decide +kernel
theorem dX5_nextStir_62 : decode mX5_nextStir.2.1 62 = .ok (.if_icmp .le 14, 3) := by decide +kernel
theorem dX5_nextStir_65 : decode mX5_nextStir.2.1 65 = .ok (.iload_n 2, 1) := by decide +kernel
theorem dX5_nextStir_66 : decode mX5_nextStir.2.1 66 = .ok (.aload_n 0, 1) := by decide +kernel
theorem dX5_nextStir_67 : decode mX5_nextStir.2.1 67 = .ok (.getfield 39, 3) := by decide +kernel
theorem dX5_nextStir_70 : decode mX5_nextStir.2.1 70 = .ok (.iload_n 3, 1) := by decide +kernel
theorem dX5_nextStir_71 : decode mX5_nextStir.2.1 71 = .ok (.iaload, 1) := by decide +kernel
theorem dX5_nextStir_72 : decode mX5_nextStir.2.1 72 = .ok (.invokestatic 124, 3) := by decide +kernel
theorem dX5_nextStir_75 : decode mX5_nextStir.2.1 75 = .ok (.istore_n 2, 1) := by decide +kernel
theorem dX5_nextStir_76 : decode mX5_nextStir.2.1 76 = .ok (.iinc 3 1, 3) := by decide +kernel
theorem dX5_nextStir_79 : decode mX5_nextStir.2.1 79 = .ok (.goto (-73), 3) := by decide +kernel
theorem dX5_nextStir_82 : decode mX5_nextStir.2.1 82 = .ok (.iload_n 2, 1) := by decide +kernel
theorem dX5_nextStir_83 : decode mX5_nextStir.2.1 83 = .ok (.ireturn, 1) := by decide +kernel
def fn_X5_nextStir_b76 (n : Nat) (b : Nat) (x1 : Int32) (σ : Sg) (k6 : Int32 → Int32 → Option Int32) (v2 : Int32) (v3 : Int32) : Option Int32 :=
  (k6 v2 (v3 + 1))
set_option maxRecDepth 20000 in
set_option maxHeartbeats 4000000 in
theorem ev_X5_nextStir_b76 (n : Nat) (b : Nat) (hb : ag_Y b) (x1 : Int32) (σ : Sg) (k6 : Int32 → Int32 → Option Int32) (hk6 : ∀ (v2 : Int32) (v3 : Int32), Ev mX5_nextStir 1 21 (jI σ) 6 [(0, .ref b), (1, .int x1), (2, .int v2), (3, .int v3)] [] σ (k6 v2 v3)) (v2 : Int32) (v3 : Int32) : Ev mX5_nextStir 1 21 (jI σ) 76 [(0, .ref b), (1, .int x1), (2, .int v2), (3, .int v3)] [] σ (fn_X5_nextStir_b76 n b x1 σ k6 v2 v3) := by
  unfold fn_X5_nextStir_b76
  refine ev_iinc (pc := 76) (v := (v3 + 1)) (lv' := [(3, .int (v3 + 1)), (0, .ref b), (1, .int x1), (2, .int v2)]) 3 dX5_nextStir_76 rfl rfl (Nat.le_of_ble_eq_true rfl) rfl ?_
  refine ev_goto (pc := 79) (tgt := 6) dX5_nextStir_79 rfl ?_
  refine ev_sub [1, 2, 3, 0] rfl ?_
  exact hk6 v2 (v3 + 1)
def fn_X5_nextStir_b6 (n : Nat) (b : Nat) (x1 : Int32) (σ : Sg)  : Nat → Int32 → Int32 → Option Int32
  | 0 => fun _ _ => none
  | i + 1 => fun v2 v3 =>
  (if (σ (b + 7) 0) ≤ v3 then (some v2)
  else (if ag_ib v3 13 = true then (if (σ (b + 10) v3.toNatClampNeg) ≤ x1 then (Option.bind (fn_X5_isWaiting b v3 σ) fun q19 =>
  (if q19 = 0 then (fn_X5_nextStir_b76 n b x1 σ (fn_X5_nextStir_b6 n b x1 σ i) v2 v3)
  else (if ag_ib v3 13 = true then (if (σ (b + 14) v3.toNatClampNeg) ≤ x1 then (fn_X5_nextStir_b76 n b x1 σ (fn_X5_nextStir_b6 n b x1 σ i) v2 v3)
  else (if ag_ib v3 13 = true then (fn_X5_nextStir_b76 n b x1 σ (fn_X5_nextStir_b6 n b x1 σ i) (ag_min v2 (σ (b + 14) v3.toNatClampNeg)) v3) else none)) else none)))
  else (if ag_ib v3 13 = true then (fn_X5_nextStir_b76 n b x1 σ (fn_X5_nextStir_b6 n b x1 σ i) (ag_min v2 (σ (b + 10) v3.toNatClampNeg)) v3) else none)) else none))
theorem fn_X5_nextStir_b6_s (n : Nat) (b : Nat) (x1 : Int32) (σ : Sg)  (i : Nat) (v2 : Int32) (v3 : Int32) : fn_X5_nextStir_b6 n b x1 σ (i + 1) v2 v3 =
  (if (σ (b + 7) 0) ≤ v3 then (some v2)
  else (if ag_ib v3 13 = true then (if (σ (b + 10) v3.toNatClampNeg) ≤ x1 then (Option.bind (fn_X5_isWaiting b v3 σ) fun q19 =>
  (if q19 = 0 then (fn_X5_nextStir_b76 n b x1 σ (fn_X5_nextStir_b6 n b x1 σ i) v2 v3)
  else (if ag_ib v3 13 = true then (if (σ (b + 14) v3.toNatClampNeg) ≤ x1 then (fn_X5_nextStir_b76 n b x1 σ (fn_X5_nextStir_b6 n b x1 σ i) v2 v3)
  else (if ag_ib v3 13 = true then (fn_X5_nextStir_b76 n b x1 σ (fn_X5_nextStir_b6 n b x1 σ i) (ag_min v2 (σ (b + 14) v3.toNatClampNeg)) v3) else none)) else none)))
  else (if ag_ib v3 13 = true then (fn_X5_nextStir_b76 n b x1 σ (fn_X5_nextStir_b6 n b x1 σ i) (ag_min v2 (σ (b + 10) v3.toNatClampNeg)) v3) else none)) else none)) := rfl
set_option maxRecDepth 20000 in
set_option maxHeartbeats 4000000 in
theorem ev_X5_nextStir_b6 (n : Nat) (b : Nat) (hb : ag_Y b) (x1 : Int32) (σ : Sg)  : ∀ (i : Nat) (v2 : Int32) (v3 : Int32), Ev mX5_nextStir 1 21 (jI σ) 6 [(0, .ref b), (1, .int x1), (2, .int v2), (3, .int v3)] [] σ (fn_X5_nextStir_b6 n b x1 σ i v2 v3) := by
  intro i
  induction i with
  | zero =>
    intro v2 v3
    exact ev_none
  | succ i ih =>
    intro v2 v3
    rw [fn_X5_nextStir_b6_s]
    refine ev_iload_n (pc := 6) (i := 3) 3 dX5_nextStir_6 rfl rfl ?_
    refine ev_aload_n (pc := 7) (i := 0) 0 dX5_nextStir_7 rfl rfl ?_
    refine ev_getR (pc := 8) (t := (b + 7)) 1 ag_C5 (ag_Yk hb).1 (ag_Yk hb).2 (Nat.le_of_ble_eq_true rfl) (ag_Yt1 hb) rfl ag_fl_X5_21 dX5_nextStir_8 ?_
    refine ev_getI (pc := 11) 0 ag_C2 (ag_Pk (ag_YP hb)).1 (ag_Pk (ag_YP hb)).2 (Nat.le_of_ble_eq_true rfl) (ag_Pt0 (ag_YP hb)) rfl ag_fl_X5_78 dX5_nextStir_11 ?_
    refine ev_icmp_ge (pc := 14) (tgt := 82) dX5_nextStir_14 rfl ?_ ?_
    · refine ev_iload_n (pc := 82) (i := 2) 2 dX5_nextStir_82 rfl rfl ?_
      exact ev_iret (ty := .int) (fun r h => by cases h; rfl) rfl rfl dX5_nextStir_83
    · refine ev_aload_n (pc := 17) (i := 0) 0 dX5_nextStir_17 rfl rfl ?_
      refine ev_getR (pc := 18) (t := (b + 7)) 1 ag_C5 (ag_Yk hb).1 (ag_Yk hb).2 (Nat.le_of_ble_eq_true rfl) (ag_Yt1 hb) rfl ag_fl_X5_21 dX5_nextStir_18 ?_
      refine ev_getR (pc := 21) (t := (b + 10)) 3 ag_C2 (ag_Pk (ag_YP hb)).1 (ag_Pk (ag_YP hb)).2 (Nat.le_of_ble_eq_true rfl) (ag_Pt3 (ag_YP hb)) rfl ag_fl_X5_81 dX5_nextStir_21 ?_
      refine ev_iload_n (pc := 24) (i := 3) 3 dX5_nextStir_24 rfl rfl ?_
      refine ev_iald (pc := 25) (ag_Pa3 (ag_YP hb)).1 (ag_Pa3 (ag_YP hb)).2 dX5_nextStir_25 ?_
      refine ev_iload_n (pc := 26) (i := 1) 1 dX5_nextStir_26 rfl rfl ?_
      refine ev_icmp_le (pc := 27) (tgt := 47) dX5_nextStir_27 rfl ?_ ?_
      · refine ev_aload_n (pc := 47) (i := 0) 0 dX5_nextStir_47 rfl rfl ?_
        refine ev_iload_n (pc := 48) (i := 3) 3 dX5_nextStir_48 rfl rfl ?_
        refine ev_vI (pc := 49) (as := [.int v3]) (rest := []) ⟨5, 97, 10, TX5, tyX5, ag_C5, ⟨(ag_Yk hb).1, (ag_Yk hb).2⟩, mv_X5_isWaiting, ag_ml_X5_97, rfl, (Nat.le_of_ble_eq_true rfl), ⟨(Nat.le_of_ble_eq_true rfl), (Nat.le_of_ble_eq_true rfl)⟩, dX5_nextStir_49⟩ (im_X5_isWaiting b hb v3 σ) (fun q19 => ?_)
        refine ev_if_eq (pc := 52) (tgt := 76) dX5_nextStir_52 rfl ?_ ?_
        · exact ev_X5_nextStir_b76 n b hb x1 σ (fn_X5_nextStir_b6 n b x1 σ i) ih v2 v3
        · refine ev_aload_n (pc := 55) (i := 0) 0 dX5_nextStir_55 rfl rfl ?_
          refine ev_getR (pc := 56) (t := (b + 14)) 6 ag_C5 (ag_Yk hb).1 (ag_Yk hb).2 (Nat.le_of_ble_eq_true rfl) (ag_Yt6 hb) rfl ag_fl_X5_39 dX5_nextStir_56 ?_
          refine ev_iload_n (pc := 59) (i := 3) 3 dX5_nextStir_59 rfl rfl ?_
          refine ev_iald (pc := 60) (ag_Ya14 hb).1 (ag_Ya14 hb).2 dX5_nextStir_60 ?_
          refine ev_iload_n (pc := 61) (i := 1) 1 dX5_nextStir_61 rfl rfl ?_
          refine ev_icmp_le (pc := 62) (tgt := 76) dX5_nextStir_62 rfl ?_ ?_
          · exact ev_X5_nextStir_b76 n b hb x1 σ (fn_X5_nextStir_b6 n b x1 σ i) ih v2 v3
          · refine ev_iload_n (pc := 65) (i := 2) 2 dX5_nextStir_65 rfl rfl ?_
            refine ev_aload_n (pc := 66) (i := 0) 0 dX5_nextStir_66 rfl rfl ?_
            refine ev_getR (pc := 67) (t := (b + 14)) 6 ag_C5 (ag_Yk hb).1 (ag_Yk hb).2 (Nat.le_of_ble_eq_true rfl) (ag_Yt6 hb) rfl ag_fl_X5_39 dX5_nextStir_67 ?_
            refine ev_iload_n (pc := 70) (i := 3) 3 dX5_nextStir_70 rfl rfl ?_
            refine ev_iald (pc := 71) (ag_Ya14 hb).1 (ag_Ya14 hb).2 dX5_nextStir_71 ?_
            refine ev_mmin (pc := 72) ag_ml_X5_124 ⟨(Nat.le_of_ble_eq_true rfl), (Nat.le_of_ble_eq_true rfl)⟩ dX5_nextStir_72 ?_
            refine ev_istore_n (pc := 75) (i := 2) (lv' := [(2, .int (ag_min v2 (σ (b + 14) v3.toNatClampNeg))), (0, .ref b), (1, .int x1), (3, .int v3)]) dX5_nextStir_75 rfl (Nat.le_of_ble_eq_true rfl) rfl ?_
            refine ev_sub [1, 2, 0, 3] rfl ?_
            exact ev_X5_nextStir_b76 n b hb x1 σ (fn_X5_nextStir_b6 n b x1 σ i) ih (ag_min v2 (σ (b + 14) v3.toNatClampNeg)) v3
      · refine ev_iload_n (pc := 30) (i := 2) 2 dX5_nextStir_30 rfl rfl ?_
        refine ev_aload_n (pc := 31) (i := 0) 0 dX5_nextStir_31 rfl rfl ?_
        refine ev_getR (pc := 32) (t := (b + 7)) 1 ag_C5 (ag_Yk hb).1 (ag_Yk hb).2 (Nat.le_of_ble_eq_true rfl) (ag_Yt1 hb) rfl ag_fl_X5_21 dX5_nextStir_32 ?_
        refine ev_getR (pc := 35) (t := (b + 10)) 3 ag_C2 (ag_Pk (ag_YP hb)).1 (ag_Pk (ag_YP hb)).2 (Nat.le_of_ble_eq_true rfl) (ag_Pt3 (ag_YP hb)) rfl ag_fl_X5_81 dX5_nextStir_35 ?_
        refine ev_iload_n (pc := 38) (i := 3) 3 dX5_nextStir_38 rfl rfl ?_
        refine ev_iald (pc := 39) (ag_Pa3 (ag_YP hb)).1 (ag_Pa3 (ag_YP hb)).2 dX5_nextStir_39 ?_
        refine ev_mmin (pc := 40) ag_ml_X5_124 ⟨(Nat.le_of_ble_eq_true rfl), (Nat.le_of_ble_eq_true rfl)⟩ dX5_nextStir_40 ?_
        refine ev_istore_n (pc := 43) (i := 2) (lv' := [(2, .int (ag_min v2 (σ (b + 10) v3.toNatClampNeg))), (0, .ref b), (1, .int x1), (3, .int v3)]) dX5_nextStir_43 rfl (Nat.le_of_ble_eq_true rfl) rfl ?_
        refine ev_goto (pc := 44) (tgt := 76) dX5_nextStir_44 rfl ?_
        refine ev_sub [1, 2, 0, 3] rfl ?_
        exact ev_X5_nextStir_b76 n b hb x1 σ (fn_X5_nextStir_b6 n b x1 σ i) ih (ag_min v2 (σ (b + 10) v3.toNatClampNeg)) v3
def fn_X5_nextStir (n : Nat) (b : Nat) (x1 : Int32) (σ : Sg) : Option Int32 :=
  (fn_X5_nextStir_b6 n b x1 σ n 200 0)
set_option maxRecDepth 20000 in
set_option maxHeartbeats 4000000 in
theorem im_X5_nextStir (n : Nat) (b : Nat) (hb : ag_Y b) (x1 : Int32) (σ : Sg) : Im yX5_nextStir mX5_nextStir 1 21 (jI σ) [.ref b, .int x1] σ (fn_X5_nextStir n b x1 σ) := by
  refine Im.of (by decide +kernel) rfl (Nat.le_of_ble_eq_true rfl) ?_
  show Ev mX5_nextStir 1 21 (jI σ) 0 [(0, .ref b), (1, .int x1)] [] σ (fn_X5_nextStir n b x1 σ)
  unfold fn_X5_nextStir
  refine ev_sipush (pc := 0) (v := 200) dX5_nextStir_0 (by decide) ?_
  refine ev_istore_n (pc := 3) (i := 2) (lv' := [(2, .int 200), (0, .ref b), (1, .int x1)]) dX5_nextStir_3 rfl (Nat.le_of_ble_eq_true rfl) rfl ?_
  refine ev_iconst (pc := 4) (v := 0) dX5_nextStir_4 (by decide) ?_
  refine ev_istore_n (pc := 5) (i := 3) (lv' := [(3, .int 0), (2, .int 200), (0, .ref b), (1, .int x1)]) dX5_nextStir_5 rfl (Nat.le_of_ble_eq_true rfl) rfl ?_
  refine ev_sub [2, 3, 1, 0] rfl ?_
  exact ev_X5_nextStir_b6 n b hb x1 σ n 200 0
-- X5_live
def mX5_live : Md := (RX5, cX5_live, 4, none)
theorem mv_X5_live : ag_Mv yX5_live mX5_live 0 := ⟨ag_co_X5_live, ag_im_X5_live, ag_se_X5_live, ag_ini_X5, by decide +kernel⟩
theorem dX5_live_0 : decode mX5_live.2.1 0 = .ok (.aload_n 0, 1) := by decide +kernel
theorem dX5_live_1 : decode mX5_live.2.1 1 = .ok (.iconst 0, 1) := by decide +kernel
theorem dX5_live_2 : decode mX5_live.2.1 2 = .ok (.putfield 29, 3) := by decide +kernel
theorem dX5_live_5 : decode mX5_live.2.1 5 = .ok (.aload_n 0, 1) := by decide +kernel
theorem dX5_live_6 : decode mX5_live.2.1 6 = .ok (.iconst 0, 1) := by decide +kernel
theorem dX5_live_7 : decode mX5_live.2.1 7 = .ok (.putfield 32, 3) := by decide +kernel
theorem dX5_live_10 : decode mX5_live.2.1 10 = .ok (.aload_n 0, 1) := by decide +kernel
theorem dX5_live_11 : decode mX5_live.2.1 11 = .ok (.getfield 12, 3) := by decide +kernel
theorem dX5_live_14 : decode mX5_live.2.1 14 = .ok (.getfield 58, 3) := by decide +kernel
theorem dX5_live_17 : decode mX5_live.2.1 17 = .ok (.iconst 0, 1) := by decide +kernel
theorem dX5_live_18 : decode mX5_live.2.1 18 = .ok (.aload_n 0, 1) := by decide +kernel
theorem dX5_live_19 : decode mX5_live.2.1 19 = .ok (.getfield 42, 3) := by decide +kernel
theorem dX5_live_22 : decode mX5_live.2.1 22 = .ok (.iconst 0, 1) := by decide +kernel
theorem dX5_live_23 : decode mX5_live.2.1 23 = .ok (.bipush 10, 2) := by decide +kernel
theorem dX5_live_25 : decode mX5_live.2.1 25 = .ok (.invokestatic 61, 3) := by decide +kernel
theorem dX5_live_28 : decode mX5_live.2.1 28 = .ok (.iconst 0, 1) := by decide +kernel
theorem dX5_live_29 : decode mX5_live.2.1 29 = .ok (.istore_n 1, 1) := by decide +kernel
theorem dX5_live_30 : decode mX5_live.2.1 30 = .ok (.iconst 0, 1) := by decide +kernel
theorem dX5_live_31 : decode mX5_live.2.1 31 = .ok (.istore_n 2, 1) := by decide +kernel
theorem dX5_live_32 : decode mX5_live.2.1 32 = .ok (.iload_n 2, 1) := by decide +kernel
theorem dX5_live_33 : decode mX5_live.2.1 33 = .ok (.sipush 200, 3) := by decide +kernel
theorem dX5_live_36 : decode mX5_live.2.1 36 = .ok (.if_icmp .ge 51, 3) := by decide +kernel
theorem dX5_live_39 : decode mX5_live.2.1 39 = .ok (.iload_n 1, 1) := by decide +kernel
theorem dX5_live_40 : decode mX5_live.2.1 40 = .ok (.sipush 200, 3) := by decide +kernel
theorem dX5_live_43 : decode mX5_live.2.1 43 = .ok (.if_icmp .ge 44, 3) := by decide +kernel
theorem dX5_live_46 : decode mX5_live.2.1 46 = .ok (.aload_n 0, 1) := by decide +kernel
theorem dX5_live_47 : decode mX5_live.2.1 47 = .ok (.getfield 32, 3) := by decide +kernel
theorem dX5_live_50 : decode mX5_live.2.1 50 = .ok (.istore_n 3, 1) := by decide +kernel
theorem dX5_live_51 : decode mX5_live.2.1 51 = .ok (.aload_n 0, 1) := by decide +kernel
theorem dX5_live_52 : decode mX5_live.2.1 52 = .ok (.iload_n 1, 1) := by decide +kernel
theorem dX5_live_53 : decode mX5_live.2.1 53 = .ok (.invokevirtual 67, 3) := by decide +kernel
theorem dX5_live_56 : decode mX5_live.2.1 56 = .ok (.aload_n 0, 1) := by decide +kernel
theorem dX5_live_57 : decode mX5_live.2.1 57 = .ok (.iload_n 1, 1) := by decide +kernel
theorem dX5_live_58 : decode mX5_live.2.1 58 = .ok (.invokevirtual 71, 3) := by decide +kernel
theorem dX5_live_61 : decode mX5_live.2.1 61 = .ok (.aload_n 0, 1) := by decide +kernel
theorem dX5_live_62 : decode mX5_live.2.1 62 = .ok (.getfield 32, 3) := by decide +kernel
theorem dX5_live_65 : decode mX5_live.2.1 65 = .ok (.iload_n 3, 1) := by decide +kernel
theorem dX5_live_66 : decode mX5_live.2.1 66 = .ok (.if_icmp .eq 9, 3) := by decide +kernel
theorem dX5_live_69 : decode mX5_live.2.1 69 = .ok (.iload_n 1, 1) := by decide +kernel
theorem dX5_live_70 : decode mX5_live.2.1 70 = .ok (.iconst 1, 1) := by decide +kernel
theorem dX5_live_71 : decode mX5_live.2.1 71 = .ok (.iadd, 1) := by decide +kernel
theorem dX5_live_72 : decode mX5_live.2.1 72 = .ok (.goto 8, 3) := by decide +kernel
theorem dX5_live_75 : decode mX5_live.2.1 75 = .ok (.aload_n 0, 1) := by decide +kernel
theorem dX5_live_76 : decode mX5_live.2.1 76 = .ok (.iload_n 1, 1) := by decide +kernel
theorem dX5_live_77 : decode mX5_live.2.1 77 = .ok (.invokevirtual 74, 3) := by decide +kernel
theorem dX5_live_80 : decode mX5_live.2.1 80 = .ok (.istore_n 1, 1) := by decide +kernel
theorem dX5_live_81 : decode mX5_live.2.1 81 = .ok (.iinc 2 1, 3) := by decide +kernel
theorem dX5_live_84 : decode mX5_live.2.1 84 = .ok (.goto (-52), 3) := by decide +kernel
theorem dX5_live_87 : decode mX5_live.2.1 87 = .ok (.return_, 1) := by decide +kernel
def fn_X5_live_b80 (n : Nat) (b : Nat) (k32 : Int32 → Int32 → Sg → Option Sg) (v2 : Int32) (s0 : Int32) (σ : Sg) : Option Sg :=
  (k32 s0 (v2 + 1) σ)
set_option maxRecDepth 20000 in
set_option maxHeartbeats 4000000 in
theorem ev_X5_live_b80 (n : Nat) (b : Nat) (hb : ag_Y b) (k32 : Int32 → Int32 → Sg → Option Sg) (hk32 : ∀ (v1 : Int32) (v2 : Int32) (σ : Sg), Ev mX5_live 3 70 jV 32 [(0, .ref b), (1, .int v1), (2, .int v2)] [] σ (k32 v1 v2 σ)) (v2 : Int32) (s0 : Int32) (σ : Sg) : Ev mX5_live 3 70 jV 80 [(0, .ref b), (2, .int v2)] [.int s0] σ (fn_X5_live_b80 n b k32 v2 s0 σ) := by
  unfold fn_X5_live_b80
  refine ev_istore_n (pc := 80) (i := 1) (lv' := [(1, .int s0), (0, .ref b), (2, .int v2)]) dX5_live_80 rfl (Nat.le_of_ble_eq_true rfl) rfl ?_
  refine ev_iinc (pc := 81) (v := (v2 + 1)) (lv' := [(2, .int (v2 + 1)), (1, .int s0), (0, .ref b)]) 2 dX5_live_81 rfl rfl (Nat.le_of_ble_eq_true rfl) rfl ?_
  refine ev_goto (pc := 84) (tgt := 32) dX5_live_84 rfl ?_
  refine ev_sub [2, 1, 0] rfl ?_
  exact hk32 s0 (v2 + 1) σ
def fn_X5_live_b32 (n : Nat) (b : Nat)  : Nat → Int32 → Int32 → Sg → Option Sg
  | 0 => fun _ _ _ => none
  | i + 1 => fun v1 v2 σ =>
  (if 200 ≤ v2 then (some σ)
  else (if 200 ≤ v1 then (some σ)
  else (Option.bind (fn_X5_writeThoseOf n b v1 σ) fun q20 =>
  (Option.bind (fn_X5_openThoseDue n b v1 q20) fun q21 =>
  (if (q21 b 4) = (σ b 4) then (Option.bind (fn_X5_nextStir n b v1 q21) fun q22 =>
  (fn_X5_live_b80 n b (fn_X5_live_b32 n b i) v2 q22 q21))
  else (fn_X5_live_b80 n b (fn_X5_live_b32 n b i) v2 (v1 + 1) q21))))))
theorem fn_X5_live_b32_s (n : Nat) (b : Nat)  (i : Nat) (v1 : Int32) (v2 : Int32) (σ : Sg) : fn_X5_live_b32 n b (i + 1) v1 v2 σ =
  (if 200 ≤ v2 then (some σ)
  else (if 200 ≤ v1 then (some σ)
  else (Option.bind (fn_X5_writeThoseOf n b v1 σ) fun q20 =>
  (Option.bind (fn_X5_openThoseDue n b v1 q20) fun q21 =>
  (if (q21 b 4) = (σ b 4) then (Option.bind (fn_X5_nextStir n b v1 q21) fun q22 =>
  (fn_X5_live_b80 n b (fn_X5_live_b32 n b i) v2 q22 q21))
  else (fn_X5_live_b80 n b (fn_X5_live_b32 n b i) v2 (v1 + 1) q21)))))) := rfl
set_option maxRecDepth 20000 in
set_option maxHeartbeats 4000000 in
theorem ev_X5_live_b32 (n : Nat) (b : Nat) (hb : ag_Y b)  : ∀ (i : Nat) (v1 : Int32) (v2 : Int32) (σ : Sg), Ev mX5_live 3 70 jV 32 [(0, .ref b), (1, .int v1), (2, .int v2)] [] σ (fn_X5_live_b32 n b i v1 v2 σ) := by
  intro i
  induction i with
  | zero =>
    intro v1 v2 σ
    exact ev_none
  | succ i ih =>
    intro v1 v2 σ
    rw [fn_X5_live_b32_s]
    refine ev_iload_n (pc := 32) (i := 2) 2 dX5_live_32 rfl rfl ?_
    refine ev_sipush (pc := 33) (v := 200) dX5_live_33 (by decide) ?_
    refine ev_icmp_ge (pc := 36) (tgt := 87) dX5_live_36 rfl ?_ ?_
    · exact ev_ret (fun r h => by cases h; rfl) rfl dX5_live_87
    · refine ev_iload_n (pc := 39) (i := 1) 1 dX5_live_39 rfl rfl ?_
      refine ev_sipush (pc := 40) (v := 200) dX5_live_40 (by decide) ?_
      refine ev_icmp_ge (pc := 43) (tgt := 87) dX5_live_43 rfl ?_ ?_
      · exact ev_ret (fun r h => by cases h; rfl) rfl dX5_live_87
      · refine ev_aload_n (pc := 46) (i := 0) 0 dX5_live_46 rfl rfl ?_
        refine ev_getI (pc := 47) 4 ag_C5 (ag_Yk hb).1 (ag_Yk hb).2 (Nat.le_of_ble_eq_true rfl) (ag_Yt4 hb) rfl ag_fl_X5_32 dX5_live_47 ?_
        refine ev_istore_n (pc := 50) (i := 3) (lv' := [(3, .int (σ b 4)), (0, .ref b), (1, .int v1), (2, .int v2)]) dX5_live_50 rfl (Nat.le_of_ble_eq_true rfl) rfl ?_
        refine ev_aload_n (pc := 51) (i := 0) 1 dX5_live_51 rfl rfl ?_
        refine ev_iload_n (pc := 52) (i := 1) 2 dX5_live_52 rfl rfl ?_
        refine ev_vV (pc := 53) (as := [.int v1]) (rest := []) ⟨5, 67, 10, TX5, tyX5, ag_C5, ⟨(ag_Yk hb).1, (ag_Yk hb).2⟩, mv_X5_writeThoseOf, ag_ml_X5_67, rfl, (Nat.le_of_ble_eq_true rfl), ⟨(Nat.le_of_ble_eq_true rfl), (Nat.le_of_ble_eq_true rfl)⟩, dX5_live_53⟩ (im_X5_writeThoseOf n b hb v1 σ) (fun q20 => ?_)
        refine ev_aload_n (pc := 56) (i := 0) 1 dX5_live_56 rfl rfl ?_
        refine ev_iload_n (pc := 57) (i := 1) 2 dX5_live_57 rfl rfl ?_
        refine ev_vV (pc := 58) (as := [.int v1]) (rest := []) ⟨5, 71, 10, TX5, tyX5, ag_C5, ⟨(ag_Yk hb).1, (ag_Yk hb).2⟩, mv_X5_openThoseDue, ag_ml_X5_71, rfl, (Nat.le_of_ble_eq_true rfl), ⟨(Nat.le_of_ble_eq_true rfl), (Nat.le_of_ble_eq_true rfl)⟩, dX5_live_58⟩ (im_X5_openThoseDue n b hb v1 q20) (fun q21 => ?_)
        refine ev_aload_n (pc := 61) (i := 0) 1 dX5_live_61 rfl rfl ?_
        refine ev_getI (pc := 62) 4 ag_C5 (ag_Yk hb).1 (ag_Yk hb).2 (Nat.le_of_ble_eq_true rfl) (ag_Yt4 hb) rfl ag_fl_X5_32 dX5_live_62 ?_
        refine ev_iload_n (pc := 65) (i := 3) 0 dX5_live_65 rfl rfl ?_
        refine ev_icmp_eq (pc := 66) (tgt := 75) dX5_live_66 rfl ?_ ?_
        · refine ev_aload_n (pc := 75) (i := 0) 1 dX5_live_75 rfl rfl ?_
          refine ev_iload_n (pc := 76) (i := 1) 2 dX5_live_76 rfl rfl ?_
          refine ev_vI (pc := 77) (as := [.int v1]) (rest := []) ⟨5, 74, 10, TX5, tyX5, ag_C5, ⟨(ag_Yk hb).1, (ag_Yk hb).2⟩, mv_X5_nextStir, ag_ml_X5_74, rfl, (Nat.le_of_ble_eq_true rfl), ⟨(Nat.le_of_ble_eq_true rfl), (Nat.le_of_ble_eq_true rfl)⟩, dX5_live_77⟩ (im_X5_nextStir n b hb v1 q21) (fun q22 => ?_)
          refine ev_sub [1, 3] rfl ?_
          exact ev_X5_live_b80 n b hb (fn_X5_live_b32 n b i) ih v2 q22 q21
        · refine ev_iload_n (pc := 69) (i := 1) 2 dX5_live_69 rfl rfl ?_
          refine ev_iconst (pc := 70) (v := 1) dX5_live_70 (by decide) ?_
          refine ev_iadd (pc := 71) dX5_live_71 ?_
          refine ev_goto (pc := 72) (tgt := 80) dX5_live_72 rfl ?_
          refine ev_sub [1, 3] rfl ?_
          exact ev_X5_live_b80 n b hb (fn_X5_live_b32 n b i) ih v2 (v1 + 1) q21
def fn_X5_live (n : Nat) (b : Nat) (σ : Sg) : Option Sg :=
  (if ag_cpok 0 0 10 10 10 = true then (fn_X5_live_b32 n b n 0 0 (ag_ar (ag_up (ag_up σ b 3 0) b 4 0) (b + 15) (va_cpy ((ag_up (ag_up σ b 3 0) b 4 0) (b + 6)) ((ag_up (ag_up σ b 3 0) b 4 0) (b + 15)) (0 : Int32).toNatClampNeg (0 : Int32).toNatClampNeg (10 : Int32).toNatClampNeg))) else none)
set_option maxRecDepth 20000 in
set_option maxHeartbeats 4000000 in
theorem im_X5_live (n : Nat) (b : Nat) (hb : ag_Y b) (σ : Sg) : Im yX5_live mX5_live 3 70 jV [.ref b] σ (fn_X5_live n b σ) := by
  refine Im.of (by decide +kernel) rfl (Nat.le_of_ble_eq_true rfl) ?_
  show Ev mX5_live 3 70 jV 0 [(0, .ref b)] [] σ (fn_X5_live n b σ)
  unfold fn_X5_live
  refine ev_aload_n (pc := 0) (i := 0) 0 dX5_live_0 rfl rfl ?_
  refine ev_iconst (pc := 1) (v := 0) dX5_live_1 (by decide) ?_
  refine ev_put (pc := 2) 3 ag_C5 (ag_Yk hb).1 (ag_Yk hb).2 (Nat.le_of_ble_eq_true rfl) (ag_Yt3 hb) rfl ag_fl_X5_29 rfl rfl rfl dX5_live_2 ?_
  refine ev_aload_n (pc := 5) (i := 0) 0 dX5_live_5 rfl rfl ?_
  refine ev_iconst (pc := 6) (v := 0) dX5_live_6 (by decide) ?_
  refine ev_put (pc := 7) 4 ag_C5 (ag_Yk hb).1 (ag_Yk hb).2 (Nat.le_of_ble_eq_true rfl) (ag_Yt4 hb) rfl ag_fl_X5_32 rfl rfl rfl dX5_live_7 ?_
  refine ev_aload_n (pc := 10) (i := 0) 0 dX5_live_10 rfl rfl ?_
  refine ev_getR (pc := 11) (t := (b + 1)) 0 ag_C5 (ag_Yk hb).1 (ag_Yk hb).2 (Nat.le_of_ble_eq_true rfl) (ag_Yt0 hb) rfl ag_fl_X5_12 dX5_live_11 ?_
  refine ev_getR (pc := 14) (t := (b + 6)) 5 ag_C1 (ag_Fk (ag_YF hb)).1 (ag_Fk (ag_YF hb)).2 (Nat.le_of_ble_eq_true rfl) (ag_Ft5 (ag_YF hb)) rfl ag_fl_X5_58 dX5_live_14 ?_
  refine ev_iconst (pc := 17) (v := 0) dX5_live_17 (by decide) ?_
  refine ev_aload_n (pc := 18) (i := 0) 0 dX5_live_18 rfl rfl ?_
  refine ev_getR (pc := 19) (t := (b + 15)) 7 ag_C5 (ag_Yk hb).1 (ag_Yk hb).2 (Nat.le_of_ble_eq_true rfl) (ag_Yt7 hb) rfl ag_fl_X5_42 dX5_live_19 ?_
  refine ev_iconst (pc := 22) (v := 0) dX5_live_22 (by decide) ?_
  refine ev_bipush (pc := 23) (v := 10) dX5_live_23 (by decide) ?_
  refine ev_copy (pc := 25) (ag_Fa5 (ag_YF hb)).1 (ag_Fa5 (ag_YF hb)).2 (ag_Ya15 hb).1 (ag_Ya15 hb).2 ag_ml_X5_61 ⟨(Nat.le_of_ble_eq_true rfl), (by decide)⟩ dX5_live_25 ?_
  refine ev_iconst (pc := 28) (v := 0) dX5_live_28 (by decide) ?_
  refine ev_istore_n (pc := 29) (i := 1) (lv' := [(1, .int 0), (0, .ref b)]) dX5_live_29 rfl (Nat.le_of_ble_eq_true rfl) rfl ?_
  refine ev_iconst (pc := 30) (v := 0) dX5_live_30 (by decide) ?_
  refine ev_istore_n (pc := 31) (i := 2) (lv' := [(2, .int 0), (1, .int 0), (0, .ref b)]) dX5_live_31 rfl (Nat.le_of_ble_eq_true rfl) rfl ?_
  refine ev_sub [2, 1, 0] rfl ?_
  exact ev_X5_live_b32 n b hb n 0 0 (ag_ar (ag_up (ag_up σ b 3 0) b 4 0) (b + 15) (va_cpy ((ag_up (ag_up σ b 3 0) b 4 0) (b + 6)) ((ag_up (ag_up σ b 3 0) b 4 0) (b + 15)) (0 : Int32).toNatClampNeg (0 : Int32).toNatClampNeg (10 : Int32).toNatClampNeg))
-- X5_bringsWanted
def mX5_bringsWanted : Md := (RX5, cX5_bringsWanted, 6, some .boolean)
theorem mv_X5_bringsWanted : ag_Mv yX5_bringsWanted mX5_bringsWanted 1 := ⟨ag_co_X5_bringsWanted, ag_im_X5_bringsWanted, ag_se_X5_bringsWanted, ag_ini_X5, by decide +kernel⟩
theorem dX5_bringsWanted_0 : decode mX5_bringsWanted.2.1 0 = .ok (.aload_n 0, 1) := by decide +kernel
theorem dX5_bringsWanted_1 : decode mX5_bringsWanted.2.1 1 = .ok (.getfield 21, 3) := by decide +kernel
theorem dX5_bringsWanted_4 : decode mX5_bringsWanted.2.1 4 = .ok (.getfield 101, 3) := by decide +kernel
theorem dX5_bringsWanted_7 : decode mX5_bringsWanted.2.1 7 = .ok (.iload_n 1, 1) := by decide +kernel
theorem dX5_bringsWanted_8 : decode mX5_bringsWanted.2.1 8 = .ok (.iaload, 1) := by decide +kernel
theorem dX5_bringsWanted_9 : decode mX5_bringsWanted.2.1 9 = .ok (.istore_n 2, 1) := by decide +kernel
theorem dX5_bringsWanted_10 : decode mX5_bringsWanted.2.1 10 = .ok (.aload_n 0, 1) := by decide +kernel
theorem dX5_bringsWanted_11 : decode mX5_bringsWanted.2.1 11 = .ok (.getfield 12, 3) := by decide +kernel
theorem dX5_bringsWanted_14 : decode mX5_bringsWanted.2.1 14 = .ok (.getfield 111, 3) := by decide +kernel
theorem dX5_bringsWanted_17 : decode mX5_bringsWanted.2.1 17 = .ok (.iload_n 2, 1) := by decide +kernel
theorem dX5_bringsWanted_18 : decode mX5_bringsWanted.2.1 18 = .ok (.iaload, 1) := by decide +kernel
theorem dX5_bringsWanted_19 : decode mX5_bringsWanted.2.1 19 = .ok (.iconst 1, 1) := by decide +kernel
theorem dX5_bringsWanted_20 : decode mX5_bringsWanted.2.1 20 = .ok (.if_icmp .ne 7, 3) := by decide +kernel
theorem dX5_bringsWanted_23 : decode mX5_bringsWanted.2.1 23 = .ok (.iconst 1, 1) := by decide +kernel
theorem dX5_bringsWanted_24 : decode mX5_bringsWanted.2.1 24 = .ok (.goto 4, 3) := by decide +kernel
theorem dX5_bringsWanted_27 : decode mX5_bringsWanted.2.1 27 = .ok (.iconst 0, 1) := by decide +kernel
theorem dX5_bringsWanted_28 : decode mX5_bringsWanted.2.1 28 = .ok (.istore_n 3, 1) := by decide +kernel
theorem dX5_bringsWanted_29 : decode mX5_bringsWanted.2.1 29 = .ok (.iconst 0, 1) := by decide +kernel
theorem dX5_bringsWanted_30 : decode mX5_bringsWanted.2.1 30 = .ok (.istore 4, 2) := by decide +kernel
theorem dX5_bringsWanted_32 : decode mX5_bringsWanted.2.1 32 = .ok (.iload 4, 2) := by decide +kernel
theorem dX5_bringsWanted_34 : decode mX5_bringsWanted.2.1 34 = .ok (.aload_n 0, 1) := by decide +kernel
theorem dX5_bringsWanted_35 : decode mX5_bringsWanted.2.1 35 = .ok (.getfield 12, 3) := by decide +kernel
theorem dX5_bringsWanted_38 : decode mX5_bringsWanted.2.1 38 = .ok (.getfield 118, 3) := by decide +kernel
theorem dX5_bringsWanted_41 : decode mX5_bringsWanted.2.1 41 = .ok (.if_icmp .ge 70, 3) := by decide +kernel
theorem dX5_bringsWanted_44 : decode mX5_bringsWanted.2.1 44 = .ok (.iload_n 3, 1) := by decide +kernel
theorem dX5_bringsWanted_45 : decode mX5_bringsWanted.2.1 45 = .ok (.ifCond .eq 17, 3) := by decide +kernel
theorem dX5_bringsWanted_48 : decode mX5_bringsWanted.2.1 48 = .ok (.iload 4, 2) := by decide +kernel
theorem dX5_bringsWanted_50 : decode mX5_bringsWanted.2.1 50 = .ok (.iload_n 2, 1) := by decide +kernel
theorem dX5_bringsWanted_51 : decode mX5_bringsWanted.2.1 51 = .ok (.if_icmp .eq 7, 3) := by decide +kernel
theorem dX5_bringsWanted_54 : decode mX5_bringsWanted.2.1 54 = .ok (.iconst 1, 1) := by decide +kernel
theorem dX5_bringsWanted_55 : decode mX5_bringsWanted.2.1 55 = .ok (.goto 18, 3) := by decide +kernel
theorem dX5_bringsWanted_58 : decode mX5_bringsWanted.2.1 58 = .ok (.iconst 0, 1) := by decide +kernel
theorem dX5_bringsWanted_59 : decode mX5_bringsWanted.2.1 59 = .ok (.goto 14, 3) := by decide +kernel
theorem dX5_bringsWanted_62 : decode mX5_bringsWanted.2.1 62 = .ok (.iload 4, 2) := by decide +kernel
theorem dX5_bringsWanted_64 : decode mX5_bringsWanted.2.1 64 = .ok (.iload_n 2, 1) := by decide +kernel
theorem dX5_bringsWanted_65 : decode mX5_bringsWanted.2.1 65 = .ok (.if_icmp .ne 7, 3) := by decide +kernel
theorem dX5_bringsWanted_68 : decode mX5_bringsWanted.2.1 68 = .ok (.iconst 1, 1) := by decide +kernel
theorem dX5_bringsWanted_69 : decode mX5_bringsWanted.2.1 69 = .ok (.goto 4, 3) := by decide +kernel
theorem dX5_bringsWanted_72 : decode mX5_bringsWanted.2.1 72 = .ok (.iconst 0, 1) := by decide +kernel
theorem dX5_bringsWanted_73 : decode mX5_bringsWanted.2.1 73 = .ok (.istore 5, 2) := by decide +kernel
theorem dX5_bringsWanted_75 : decode mX5_bringsWanted.2.1 75 = .ok (.iload 5, 2) := by decide +kernel
theorem dX5_bringsWanted_77 : decode mX5_bringsWanted.2.1 77 = .ok (.ifCond .eq 28, 3) := by decide +kernel
theorem dX5_bringsWanted_80 : decode mX5_bringsWanted.2.1 80 = .ok (.aload_n 0, 1) := by decide +kernel
theorem dX5_bringsWanted_81 : decode mX5_bringsWanted.2.1 81 = .ok (.getfield 48, 3) := by decide +kernel
theorem dX5_bringsWanted_84 : decode mX5_bringsWanted.2.1 84 = .ok (.iload 4, 2) := by decide +kernel
theorem dX5_bringsWanted_86 : decode mX5_bringsWanted.2.1 86 = .ok (.iaload, 1) := by decide +kernel
theorem dX5_bringsWanted_87 : decode mX5_bringsWanted.2.1 87 = .ok (.aload_n 0, 1) := by decide +kernel
theorem dX5_bringsWanted_88 : decode mX5_bringsWanted.2.1 88 = .ok (.getfield 21, 3) := by decide +kernel
theorem dX5_bringsWanted_91 : decode mX5_bringsWanted.2.1 91 = .ok (.getfield 91, 3) := by decide +kernel
theorem dX5_bringsWanted_94 : decode mX5_bringsWanted.2.1 94 = .ok (.iload_n 1, 1) := by decide +kernel
theorem dX5_bringsWanted_95 : decode mX5_bringsWanted.2.1 95 = .ok (.iaload, 1) := by decide +kernel
theorem dX5_bringsWanted_96 : decode mX5_bringsWanted.2.1 96 = .ok (.ishr, 1) := by decide +kernel
theorem dX5_bringsWanted_97 : decode mX5_bringsWanted.2.1 97 = .ok (.iconst 1, 1) := by decide +kernel
theorem dX5_bringsWanted_98 : decode mX5_bringsWanted.2.1 98 = .ok (.iand, 1) := by decide +kernel
theorem dX5_bringsWanted_99 : decode mX5_bringsWanted.2.1 99 = .ok (.iconst 1, 1) := by decide +kernel
theorem dX5_bringsWanted_100 : decode mX5_bringsWanted.2.1 100 = .ok (.if_icmp .ne 5, 3) := by decide +kernel
theorem dX5_bringsWanted_103 : decode mX5_bringsWanted.2.1 103 = .ok (.iconst 1, 1) := by decide +kernel
theorem dX5_bringsWanted_104 : decode mX5_bringsWanted.2.1 104 = .ok (.ireturn, 1) := by decide +kernel
theorem dX5_bringsWanted_105 : decode mX5_bringsWanted.2.1 105 = .ok (.iinc 4 1, 3) := by decide +kernel
theorem dX5_bringsWanted_108 : decode mX5_bringsWanted.2.1 108 = .ok (.goto (-76), 3) := by decide +kernel
theorem dX5_bringsWanted_111 : decode mX5_bringsWanted.2.1 111 = .ok (.iconst 0, 1) := by decide +kernel
theorem dX5_bringsWanted_112 : decode mX5_bringsWanted.2.1 112 = .ok (.ireturn, 1) := by decide +kernel
def fn_X5_bringsWanted_b105 (n : Nat) (b : Nat) (x1 : Int32) (σ : Sg) (k32 : Int32 → Int32 → Int32 → Option Int32) (v2 : Int32) (v3 : Int32) (v4 : Int32) : Option Int32 :=
  (k32 v2 v3 (v4 + 1))
set_option maxRecDepth 20000 in
set_option maxHeartbeats 4000000 in
theorem ev_X5_bringsWanted_b105 (n : Nat) (b : Nat) (hb : ag_Y b) (x1 : Int32) (σ : Sg) (k32 : Int32 → Int32 → Int32 → Option Int32) (hk32 : ∀ (v2 : Int32) (v3 : Int32) (v4 : Int32), Ev mX5_bringsWanted 0 0 (jI σ) 32 [(0, .ref b), (1, .int x1), (2, .int v2), (3, .int v3), (4, .int v4)] [] σ (k32 v2 v3 v4)) (v2 : Int32) (v3 : Int32) (v4 : Int32) : Ev mX5_bringsWanted 0 0 (jI σ) 105 [(0, .ref b), (1, .int x1), (2, .int v2), (3, .int v3), (4, .int v4)] [] σ (fn_X5_bringsWanted_b105 n b x1 σ k32 v2 v3 v4) := by
  unfold fn_X5_bringsWanted_b105
  refine ev_iinc (pc := 105) (v := (v4 + 1)) (lv' := [(4, .int (v4 + 1)), (0, .ref b), (1, .int x1), (2, .int v2), (3, .int v3)]) 4 dX5_bringsWanted_105 rfl rfl (Nat.le_of_ble_eq_true rfl) rfl ?_
  refine ev_goto (pc := 108) (tgt := 32) dX5_bringsWanted_108 rfl ?_
  refine ev_sub [1, 2, 3, 4, 0] rfl ?_
  exact hk32 v2 v3 (v4 + 1)
def fn_X5_bringsWanted_b73 (n : Nat) (b : Nat) (x1 : Int32) (σ : Sg) (k32 : Int32 → Int32 → Int32 → Option Int32) (v2 : Int32) (v3 : Int32) (v4 : Int32) (s0 : Int32) : Option Int32 :=
  (if s0 = 0 then (fn_X5_bringsWanted_b105 n b x1 σ k32 v2 v3 v4)
  else (if ag_ib v4 10 = true then (if ag_ib x1 13 = true then (if (((σ (b + 17) v4.toNatClampNeg) >>> ((σ (b + 11) x1.toNatClampNeg) &&& 31)) &&& 1) = 1 then (some 1)
  else (fn_X5_bringsWanted_b105 n b x1 σ k32 v2 v3 v4)) else none) else none))
set_option maxRecDepth 20000 in
set_option maxHeartbeats 4000000 in
theorem ev_X5_bringsWanted_b73 (n : Nat) (b : Nat) (hb : ag_Y b) (x1 : Int32) (σ : Sg) (k32 : Int32 → Int32 → Int32 → Option Int32) (hk32 : ∀ (v2 : Int32) (v3 : Int32) (v4 : Int32), Ev mX5_bringsWanted 0 0 (jI σ) 32 [(0, .ref b), (1, .int x1), (2, .int v2), (3, .int v3), (4, .int v4)] [] σ (k32 v2 v3 v4)) (v2 : Int32) (v3 : Int32) (v4 : Int32) (s0 : Int32) : Ev mX5_bringsWanted 0 0 (jI σ) 73 [(0, .ref b), (1, .int x1), (2, .int v2), (3, .int v3), (4, .int v4)] [.int s0] σ (fn_X5_bringsWanted_b73 n b x1 σ k32 v2 v3 v4 s0) := by
  unfold fn_X5_bringsWanted_b73
  refine ev_istore (pc := 73) (lv' := [(5, .int s0), (0, .ref b), (1, .int x1), (2, .int v2), (3, .int v3), (4, .int v4)]) dX5_bringsWanted_73 (Nat.le_of_ble_eq_true rfl) rfl ?_
  refine ev_iload (pc := 75) 0 dX5_bringsWanted_75 rfl ?_
  refine ev_if_eq (pc := 77) (tgt := 105) dX5_bringsWanted_77 rfl ?_ ?_
  · refine ev_sub [1, 2, 3, 4, 5] rfl ?_
    exact ev_X5_bringsWanted_b105 n b hb x1 σ k32 hk32 v2 v3 v4
  · refine ev_aload_n (pc := 80) (i := 0) 1 dX5_bringsWanted_80 rfl rfl ?_
    refine ev_getR (pc := 81) (t := (b + 17)) 9 ag_C5 (ag_Yk hb).1 (ag_Yk hb).2 (Nat.le_of_ble_eq_true rfl) (ag_Yt9 hb) rfl ag_fl_X5_48 dX5_bringsWanted_81 ?_
    refine ev_iload (pc := 84) 5 dX5_bringsWanted_84 rfl ?_
    refine ev_iald (pc := 86) (ag_Ya17 hb).1 (ag_Ya17 hb).2 dX5_bringsWanted_86 ?_
    refine ev_aload_n (pc := 87) (i := 0) 1 dX5_bringsWanted_87 rfl rfl ?_
    refine ev_getR (pc := 88) (t := (b + 7)) 1 ag_C5 (ag_Yk hb).1 (ag_Yk hb).2 (Nat.le_of_ble_eq_true rfl) (ag_Yt1 hb) rfl ag_fl_X5_21 dX5_bringsWanted_88 ?_
    refine ev_getR (pc := 91) (t := (b + 11)) 4 ag_C2 (ag_Pk (ag_YP hb)).1 (ag_Pk (ag_YP hb)).2 (Nat.le_of_ble_eq_true rfl) (ag_Pt4 (ag_YP hb)) rfl ag_fl_X5_91 dX5_bringsWanted_91 ?_
    refine ev_iload_n (pc := 94) (i := 1) 2 dX5_bringsWanted_94 rfl rfl ?_
    refine ev_iald (pc := 95) (ag_Pa4 (ag_YP hb)).1 (ag_Pa4 (ag_YP hb)).2 dX5_bringsWanted_95 ?_
    refine ev_ishr (pc := 96) dX5_bringsWanted_96 ?_
    refine ev_iconst (pc := 97) (v := 1) dX5_bringsWanted_97 (by decide) ?_
    refine ev_iand (pc := 98) dX5_bringsWanted_98 ?_
    refine ev_iconst (pc := 99) (v := 1) dX5_bringsWanted_99 (by decide) ?_
    refine ev_icmp_ne (pc := 100) (tgt := 105) dX5_bringsWanted_100 rfl ?_ ?_
    · refine ev_iconst (pc := 103) (v := 1) dX5_bringsWanted_103 (by decide) ?_
      exact ev_iret (ty := .boolean) (fun r h => by cases h; rfl) rfl rfl dX5_bringsWanted_104
    · refine ev_sub [1, 2, 3, 4, 5] rfl ?_
      exact ev_X5_bringsWanted_b105 n b hb x1 σ k32 hk32 v2 v3 v4
def fn_X5_bringsWanted_b32 (n : Nat) (b : Nat) (x1 : Int32) (σ : Sg)  : Nat → Int32 → Int32 → Int32 → Option Int32
  | 0 => fun _ _ _ => none
  | i + 1 => fun v2 v3 v4 =>
  (if (σ (b + 1) 0) ≤ v4 then (some 0)
  else (if v3 = 0 then (if v4 = v2 then (fn_X5_bringsWanted_b73 n b x1 σ (fn_X5_bringsWanted_b32 n b x1 σ i) v2 v3 v4 1)
  else (fn_X5_bringsWanted_b73 n b x1 σ (fn_X5_bringsWanted_b32 n b x1 σ i) v2 v3 v4 0))
  else (if v4 = v2 then (fn_X5_bringsWanted_b73 n b x1 σ (fn_X5_bringsWanted_b32 n b x1 σ i) v2 v3 v4 0)
  else (fn_X5_bringsWanted_b73 n b x1 σ (fn_X5_bringsWanted_b32 n b x1 σ i) v2 v3 v4 1))))
theorem fn_X5_bringsWanted_b32_s (n : Nat) (b : Nat) (x1 : Int32) (σ : Sg)  (i : Nat) (v2 : Int32) (v3 : Int32) (v4 : Int32) : fn_X5_bringsWanted_b32 n b x1 σ (i + 1) v2 v3 v4 =
  (if (σ (b + 1) 0) ≤ v4 then (some 0)
  else (if v3 = 0 then (if v4 = v2 then (fn_X5_bringsWanted_b73 n b x1 σ (fn_X5_bringsWanted_b32 n b x1 σ i) v2 v3 v4 1)
  else (fn_X5_bringsWanted_b73 n b x1 σ (fn_X5_bringsWanted_b32 n b x1 σ i) v2 v3 v4 0))
  else (if v4 = v2 then (fn_X5_bringsWanted_b73 n b x1 σ (fn_X5_bringsWanted_b32 n b x1 σ i) v2 v3 v4 0)
  else (fn_X5_bringsWanted_b73 n b x1 σ (fn_X5_bringsWanted_b32 n b x1 σ i) v2 v3 v4 1)))) := rfl
set_option maxRecDepth 20000 in
set_option maxHeartbeats 4000000 in
theorem ev_X5_bringsWanted_b32 (n : Nat) (b : Nat) (hb : ag_Y b) (x1 : Int32) (σ : Sg)  : ∀ (i : Nat) (v2 : Int32) (v3 : Int32) (v4 : Int32), Ev mX5_bringsWanted 0 0 (jI σ) 32 [(0, .ref b), (1, .int x1), (2, .int v2), (3, .int v3), (4, .int v4)] [] σ (fn_X5_bringsWanted_b32 n b x1 σ i v2 v3 v4) := by
  intro i
  induction i with
  | zero =>
    intro v2 v3 v4
    exact ev_none
  | succ i ih =>
    intro v2 v3 v4
    rw [fn_X5_bringsWanted_b32_s]
    refine ev_iload (pc := 32) 4 dX5_bringsWanted_32 rfl ?_
    refine ev_aload_n (pc := 34) (i := 0) 0 dX5_bringsWanted_34 rfl rfl ?_
    refine ev_getR (pc := 35) (t := (b + 1)) 0 ag_C5 (ag_Yk hb).1 (ag_Yk hb).2 (Nat.le_of_ble_eq_true rfl) (ag_Yt0 hb) rfl ag_fl_X5_12 dX5_bringsWanted_35 ?_
    refine ev_getI (pc := 38) 0 ag_C1 (ag_Fk (ag_YF hb)).1 (ag_Fk (ag_YF hb)).2 (Nat.le_of_ble_eq_true rfl) (ag_Ft0 (ag_YF hb)) rfl ag_fl_X5_118 dX5_bringsWanted_38 ?_
    refine ev_icmp_ge (pc := 41) (tgt := 111) dX5_bringsWanted_41 rfl ?_ ?_
    · refine ev_iconst (pc := 111) (v := 0) dX5_bringsWanted_111 (by decide) ?_
      exact ev_iret (ty := .boolean) (fun r h => by cases h; rfl) rfl rfl dX5_bringsWanted_112
    · refine ev_iload_n (pc := 44) (i := 3) 3 dX5_bringsWanted_44 rfl rfl ?_
      refine ev_if_eq (pc := 45) (tgt := 62) dX5_bringsWanted_45 rfl ?_ ?_
      · refine ev_iload (pc := 62) 4 dX5_bringsWanted_62 rfl ?_
        refine ev_iload_n (pc := 64) (i := 2) 2 dX5_bringsWanted_64 rfl rfl ?_
        refine ev_icmp_ne (pc := 65) (tgt := 72) dX5_bringsWanted_65 rfl ?_ ?_
        · refine ev_iconst (pc := 68) (v := 1) dX5_bringsWanted_68 (by decide) ?_
          refine ev_goto (pc := 69) (tgt := 73) dX5_bringsWanted_69 rfl ?_
          exact ev_X5_bringsWanted_b73 n b hb x1 σ (fn_X5_bringsWanted_b32 n b x1 σ i) ih v2 v3 v4 1
        · refine ev_iconst (pc := 72) (v := 0) dX5_bringsWanted_72 (by decide) ?_
          exact ev_X5_bringsWanted_b73 n b hb x1 σ (fn_X5_bringsWanted_b32 n b x1 σ i) ih v2 v3 v4 0
      · refine ev_iload (pc := 48) 4 dX5_bringsWanted_48 rfl ?_
        refine ev_iload_n (pc := 50) (i := 2) 2 dX5_bringsWanted_50 rfl rfl ?_
        refine ev_icmp_eq (pc := 51) (tgt := 58) dX5_bringsWanted_51 rfl ?_ ?_
        · refine ev_iconst (pc := 58) (v := 0) dX5_bringsWanted_58 (by decide) ?_
          refine ev_goto (pc := 59) (tgt := 73) dX5_bringsWanted_59 rfl ?_
          exact ev_X5_bringsWanted_b73 n b hb x1 σ (fn_X5_bringsWanted_b32 n b x1 σ i) ih v2 v3 v4 0
        · refine ev_iconst (pc := 54) (v := 1) dX5_bringsWanted_54 (by decide) ?_
          refine ev_goto (pc := 55) (tgt := 73) dX5_bringsWanted_55 rfl ?_
          exact ev_X5_bringsWanted_b73 n b hb x1 σ (fn_X5_bringsWanted_b32 n b x1 σ i) ih v2 v3 v4 1
def fn_X5_bringsWanted_b28 (n : Nat) (b : Nat) (x1 : Int32) (σ : Sg)  (v2 : Int32) (s0 : Int32) : Option Int32 :=
  (fn_X5_bringsWanted_b32 n b x1 σ n v2 s0 0)
set_option maxRecDepth 20000 in
set_option maxHeartbeats 4000000 in
theorem ev_X5_bringsWanted_b28 (n : Nat) (b : Nat) (hb : ag_Y b) (x1 : Int32) (σ : Sg)  (v2 : Int32) (s0 : Int32) : Ev mX5_bringsWanted 0 0 (jI σ) 28 [(0, .ref b), (1, .int x1), (2, .int v2)] [.int s0] σ (fn_X5_bringsWanted_b28 n b x1 σ v2 s0) := by
  unfold fn_X5_bringsWanted_b28
  refine ev_istore_n (pc := 28) (i := 3) (lv' := [(3, .int s0), (0, .ref b), (1, .int x1), (2, .int v2)]) dX5_bringsWanted_28 rfl (Nat.le_of_ble_eq_true rfl) rfl ?_
  refine ev_iconst (pc := 29) (v := 0) dX5_bringsWanted_29 (by decide) ?_
  refine ev_istore (pc := 30) (lv' := [(4, .int 0), (3, .int s0), (0, .ref b), (1, .int x1), (2, .int v2)]) dX5_bringsWanted_30 (Nat.le_of_ble_eq_true rfl) rfl ?_
  refine ev_sub [2, 3, 4, 1, 0] rfl ?_
  exact ev_X5_bringsWanted_b32 n b hb x1 σ n v2 s0 0
def fn_X5_bringsWanted (n : Nat) (b : Nat) (x1 : Int32) (σ : Sg) : Option Int32 :=
  (if ag_ib x1 13 = true then (if ag_ib (σ (b + 9) x1.toNatClampNeg) 10 = true then (if (σ (b + 4) (σ (b + 9) x1.toNatClampNeg).toNatClampNeg) = 1 then (fn_X5_bringsWanted_b28 n b x1 σ (σ (b + 9) x1.toNatClampNeg) 1)
  else (fn_X5_bringsWanted_b28 n b x1 σ (σ (b + 9) x1.toNatClampNeg) 0)) else none) else none)
set_option maxRecDepth 20000 in
set_option maxHeartbeats 4000000 in
theorem im_X5_bringsWanted (n : Nat) (b : Nat) (hb : ag_Y b) (x1 : Int32) (σ : Sg) : Im yX5_bringsWanted mX5_bringsWanted 0 0 (jI σ) [.ref b, .int x1] σ (fn_X5_bringsWanted n b x1 σ) := by
  refine Im.of (by decide +kernel) rfl (Nat.le_of_ble_eq_true rfl) ?_
  show Ev mX5_bringsWanted 0 0 (jI σ) 0 [(0, .ref b), (1, .int x1)] [] σ (fn_X5_bringsWanted n b x1 σ)
  unfold fn_X5_bringsWanted
  refine ev_aload_n (pc := 0) (i := 0) 0 dX5_bringsWanted_0 rfl rfl ?_
  refine ev_getR (pc := 1) (t := (b + 7)) 1 ag_C5 (ag_Yk hb).1 (ag_Yk hb).2 (Nat.le_of_ble_eq_true rfl) (ag_Yt1 hb) rfl ag_fl_X5_21 dX5_bringsWanted_1 ?_
  refine ev_getR (pc := 4) (t := (b + 9)) 2 ag_C2 (ag_Pk (ag_YP hb)).1 (ag_Pk (ag_YP hb)).2 (Nat.le_of_ble_eq_true rfl) (ag_Pt2 (ag_YP hb)) rfl ag_fl_X5_101 dX5_bringsWanted_4 ?_
  refine ev_iload_n (pc := 7) (i := 1) 1 dX5_bringsWanted_7 rfl rfl ?_
  refine ev_iald (pc := 8) (ag_Pa2 (ag_YP hb)).1 (ag_Pa2 (ag_YP hb)).2 dX5_bringsWanted_8 ?_
  refine ev_istore_n (pc := 9) (i := 2) (lv' := [(2, .int (σ (b + 9) x1.toNatClampNeg)), (0, .ref b), (1, .int x1)]) dX5_bringsWanted_9 rfl (Nat.le_of_ble_eq_true rfl) rfl ?_
  refine ev_aload_n (pc := 10) (i := 0) 1 dX5_bringsWanted_10 rfl rfl ?_
  refine ev_getR (pc := 11) (t := (b + 1)) 0 ag_C5 (ag_Yk hb).1 (ag_Yk hb).2 (Nat.le_of_ble_eq_true rfl) (ag_Yt0 hb) rfl ag_fl_X5_12 dX5_bringsWanted_11 ?_
  refine ev_getR (pc := 14) (t := (b + 4)) 3 ag_C1 (ag_Fk (ag_YF hb)).1 (ag_Fk (ag_YF hb)).2 (Nat.le_of_ble_eq_true rfl) (ag_Ft3 (ag_YF hb)) rfl ag_fl_X5_111 dX5_bringsWanted_14 ?_
  refine ev_iload_n (pc := 17) (i := 2) 0 dX5_bringsWanted_17 rfl rfl ?_
  refine ev_iald (pc := 18) (ag_Fa3 (ag_YF hb)).1 (ag_Fa3 (ag_YF hb)).2 dX5_bringsWanted_18 ?_
  refine ev_iconst (pc := 19) (v := 1) dX5_bringsWanted_19 (by decide) ?_
  refine ev_icmp_ne (pc := 20) (tgt := 27) dX5_bringsWanted_20 rfl ?_ ?_
  · refine ev_iconst (pc := 23) (v := 1) dX5_bringsWanted_23 (by decide) ?_
    refine ev_goto (pc := 24) (tgt := 28) dX5_bringsWanted_24 rfl ?_
    refine ev_sub [1, 2, 0] rfl ?_
    exact ev_X5_bringsWanted_b28 n b hb x1 σ (σ (b + 9) x1.toNatClampNeg) 1
  · refine ev_iconst (pc := 27) (v := 0) dX5_bringsWanted_27 (by decide) ?_
    refine ev_sub [1, 2, 0] rfl ?_
    exact ev_X5_bringsWanted_b28 n b hb x1 σ (σ (b + 9) x1.toNatClampNeg) 0
-- X5_want
def mX5_want : Md := (RX5, cX5_want, 3, none)
theorem mv_X5_want : ag_Mv yX5_want mX5_want 2 := ⟨ag_co_X5_want, ag_im_X5_want, ag_se_X5_want, ag_ini_X5, by decide +kernel⟩
theorem dX5_want_0 : decode mX5_want.2.1 0 = .ok (.iload_n 2, 1) := by decide +kernel
theorem dX5_want_1 : decode mX5_want.2.1 1 = .ok (.iconst (-1), 1) := by decide +kernel
theorem dX5_want_2 : decode mX5_want.2.1 2 = .ok (.if_icmp .eq 27, 3) := by decide +kernel
theorem dX5_want_5 : decode mX5_want.2.1 5 = .ok (.aload_n 0, 1) := by decide +kernel
theorem dX5_want_6 : decode mX5_want.2.1 6 = .ok (.getfield 48, 3) := by decide +kernel
theorem dX5_want_9 : decode mX5_want.2.1 9 = .ok (.iload_n 1, 1) := by decide +kernel
theorem dX5_want_10 : decode mX5_want.2.1 10 = .ok (.dup2, 1) := by decide +kernel
theorem dX5_want_11 : decode mX5_want.2.1 11 = .ok (.iaload, 1) := by decide +kernel
theorem dX5_want_12 : decode mX5_want.2.1 12 = .ok (.iconst 1, 1) := by decide +kernel
theorem dX5_want_13 : decode mX5_want.2.1 13 = .ok (.iload_n 2, 1) := by decide +kernel
theorem dX5_want_14 : decode mX5_want.2.1 14 = .ok (.ishl, 1) := by decide +kernel
theorem dX5_want_15 : decode mX5_want.2.1 15 = .ok (.aload_n 0, 1) := by decide +kernel
theorem dX5_want_16 : decode mX5_want.2.1 16 = .ok (.getfield 12, 3) := by decide +kernel
theorem dX5_want_19 : decode mX5_want.2.1 19 = .ok (.getfield 58, 3) := by decide +kernel
theorem dX5_want_22 : decode mX5_want.2.1 22 = .ok (.iload_n 1, 1) := by decide +kernel
theorem dX5_want_23 : decode mX5_want.2.1 23 = .ok (.iaload, 1) := by decide +kernel
theorem dX5_want_24 : decode mX5_want.2.1 24 = .ok (.iconst (-1), 1) := by decide +kernel
theorem dX5_want_25 : decode mX5_want.2.1 25 = .ok (.ixor, 1) := by decide +kernel
theorem dX5_want_26 : decode mX5_want.2.1 26 = .ok (.iand, 1) := by decide +kernel
theorem dX5_want_27 : decode mX5_want.2.1 27 = .ok (.ior, 1) := by decide +kernel
theorem dX5_want_28 : decode mX5_want.2.1 28 = .ok (.iastore, 1) := by decide +kernel
theorem dX5_want_29 : decode mX5_want.2.1 29 = .ok (.return_, 1) := by decide +kernel
def fn_X5_want (b : Nat) (x1 : Int32) (x2 : Int32) (σ : Sg) : Option Sg :=
  (if x2 = (-1) then (some σ)
  else (if ag_ib x1 10 = true then (if ag_ib x1 10 = true then (if ag_ib x1 10 = true then (some (ag_up σ (b + 17) x1.toNatClampNeg ((σ (b + 17) x1.toNatClampNeg) ||| ((1 <<< (x2 &&& 31)) &&& ((σ (b + 6) x1.toNatClampNeg) ^^^ (-1)))))) else none) else none) else none))
set_option maxRecDepth 20000 in
set_option maxHeartbeats 4000000 in
theorem im_X5_want (b : Nat) (hb : ag_Y b) (x1 : Int32) (x2 : Int32) (σ : Sg) : Im yX5_want mX5_want 0 0 jV [.ref b, .int x1, .int x2] σ (fn_X5_want b x1 x2 σ) := by
  refine Im.of (by decide +kernel) rfl (Nat.le_of_ble_eq_true rfl) ?_
  show Ev mX5_want 0 0 jV 0 [(0, .ref b), (1, .int x1), (2, .int x2)] [] σ (fn_X5_want b x1 x2 σ)
  unfold fn_X5_want
  refine ev_iload_n (pc := 0) (i := 2) 2 dX5_want_0 rfl rfl ?_
  refine ev_iconst (pc := 1) (v := (-1)) dX5_want_1 (by decide) ?_
  refine ev_icmp_eq (pc := 2) (tgt := 29) dX5_want_2 rfl ?_ ?_
  · exact ev_ret (fun r h => by cases h; rfl) rfl dX5_want_29
  · refine ev_aload_n (pc := 5) (i := 0) 0 dX5_want_5 rfl rfl ?_
    refine ev_getR (pc := 6) (t := (b + 17)) 9 ag_C5 (ag_Yk hb).1 (ag_Yk hb).2 (Nat.le_of_ble_eq_true rfl) (ag_Yt9 hb) rfl ag_fl_X5_48 dX5_want_6 ?_
    refine ev_iload_n (pc := 9) (i := 1) 1 dX5_want_9 rfl rfl ?_
    refine ev_dup2 (pc := 10) dX5_want_10 rfl rfl ?_
    refine ev_iald (pc := 11) (ag_Ya17 hb).1 (ag_Ya17 hb).2 dX5_want_11 ?_
    refine ev_iconst (pc := 12) (v := 1) dX5_want_12 (by decide) ?_
    refine ev_iload_n (pc := 13) (i := 2) 2 dX5_want_13 rfl rfl ?_
    refine ev_ishl (pc := 14) dX5_want_14 ?_
    refine ev_aload_n (pc := 15) (i := 0) 0 dX5_want_15 rfl rfl ?_
    refine ev_getR (pc := 16) (t := (b + 1)) 0 ag_C5 (ag_Yk hb).1 (ag_Yk hb).2 (Nat.le_of_ble_eq_true rfl) (ag_Yt0 hb) rfl ag_fl_X5_12 dX5_want_16 ?_
    refine ev_getR (pc := 19) (t := (b + 6)) 5 ag_C1 (ag_Fk (ag_YF hb)).1 (ag_Fk (ag_YF hb)).2 (Nat.le_of_ble_eq_true rfl) (ag_Ft5 (ag_YF hb)) rfl ag_fl_X5_58 dX5_want_19 ?_
    refine ev_iload_n (pc := 22) (i := 1) 1 dX5_want_22 rfl rfl ?_
    refine ev_iald (pc := 23) (ag_Fa5 (ag_YF hb)).1 (ag_Fa5 (ag_YF hb)).2 dX5_want_23 ?_
    refine ev_iconst (pc := 24) (v := (-1)) dX5_want_24 (by decide) ?_
    refine ev_ixor (pc := 25) dX5_want_25 ?_
    refine ev_iand (pc := 26) dX5_want_26 ?_
    refine ev_ior (pc := 27) dX5_want_27 ?_
    refine ev_iast (pc := 28) (ag_Ya17 hb).1 (ag_Ya17 hb).2 dX5_want_28 ?_
    exact ev_ret (fun r h => by cases h; rfl) rfl dX5_want_29
-- X5_helpfulFor
def mX5_helpfulFor : Md := (RX5, cX5_helpfulFor, 7, some .int)
theorem mv_X5_helpfulFor : ag_Mv yX5_helpfulFor mX5_helpfulFor 3 := ⟨ag_co_X5_helpfulFor, ag_im_X5_helpfulFor, ag_se_X5_helpfulFor, ag_ini_X5, by decide +kernel⟩
theorem dX5_helpfulFor_0 : decode mX5_helpfulFor.2.1 0 = .ok (.iconst 0, 1) := by decide +kernel
theorem dX5_helpfulFor_1 : decode mX5_helpfulFor.2.1 1 = .ok (.istore 4, 2) := by decide +kernel
theorem dX5_helpfulFor_3 : decode mX5_helpfulFor.2.1 3 = .ok (.aload_n 0, 1) := by decide +kernel
theorem dX5_helpfulFor_4 : decode mX5_helpfulFor.2.1 4 = .ok (.getfield 48, 3) := by decide +kernel
theorem dX5_helpfulFor_7 : decode mX5_helpfulFor.2.1 7 = .ok (.iconst 0, 1) := by decide +kernel
theorem dX5_helpfulFor_8 : decode mX5_helpfulFor.2.1 8 = .ok (.invokestatic 145, 3) := by decide +kernel
theorem dX5_helpfulFor_11 : decode mX5_helpfulFor.2.1 11 = .ok (.aload_n 0, 1) := by decide +kernel
theorem dX5_helpfulFor_12 : decode mX5_helpfulFor.2.1 12 = .ok (.getfield 48, 3) := by decide +kernel
theorem dX5_helpfulFor_15 : decode mX5_helpfulFor.2.1 15 = .ok (.iload_n 1, 1) := by decide +kernel
theorem dX5_helpfulFor_16 : decode mX5_helpfulFor.2.1 16 = .ok (.iload_n 2, 1) := by decide +kernel
theorem dX5_helpfulFor_17 : decode mX5_helpfulFor.2.1 17 = .ok (.aload_n 0, 1) := by decide +kernel
theorem dX5_helpfulFor_18 : decode mX5_helpfulFor.2.1 18 = .ok (.getfield 12, 3) := by decide +kernel
theorem dX5_helpfulFor_21 : decode mX5_helpfulFor.2.1 21 = .ok (.getfield 58, 3) := by decide +kernel
theorem dX5_helpfulFor_24 : decode mX5_helpfulFor.2.1 24 = .ok (.iload_n 1, 1) := by decide +kernel
theorem dX5_helpfulFor_25 : decode mX5_helpfulFor.2.1 25 = .ok (.iaload, 1) := by decide +kernel
theorem dX5_helpfulFor_26 : decode mX5_helpfulFor.2.1 26 = .ok (.iconst (-1), 1) := by decide +kernel
theorem dX5_helpfulFor_27 : decode mX5_helpfulFor.2.1 27 = .ok (.ixor, 1) := by decide +kernel
theorem dX5_helpfulFor_28 : decode mX5_helpfulFor.2.1 28 = .ok (.iand, 1) := by decide +kernel
theorem dX5_helpfulFor_29 : decode mX5_helpfulFor.2.1 29 = .ok (.iastore, 1) := by decide +kernel
theorem dX5_helpfulFor_30 : decode mX5_helpfulFor.2.1 30 = .ok (.iconst 0, 1) := by decide +kernel
theorem dX5_helpfulFor_31 : decode mX5_helpfulFor.2.1 31 = .ok (.istore 5, 2) := by decide +kernel
theorem dX5_helpfulFor_33 : decode mX5_helpfulFor.2.1 33 = .ok (.iload 5, 2) := by decide +kernel
theorem dX5_helpfulFor_35 : decode mX5_helpfulFor.2.1 35 = .ok (.aload_n 0, 1) := by decide +kernel
theorem dX5_helpfulFor_36 : decode mX5_helpfulFor.2.1 36 = .ok (.getfield 21, 3) := by decide +kernel
theorem dX5_helpfulFor_39 : decode mX5_helpfulFor.2.1 39 = .ok (.getfield 78, 3) := by decide +kernel
theorem dX5_helpfulFor_42 : decode mX5_helpfulFor.2.1 42 = .ok (.if_icmp .ge 116, 3) := by decide +kernel
theorem dX5_helpfulFor_45 : decode mX5_helpfulFor.2.1 45 = .ok (.iconst 0, 1) := by decide +kernel
theorem dX5_helpfulFor_46 : decode mX5_helpfulFor.2.1 46 = .ok (.istore 6, 2) := by decide +kernel
theorem dX5_helpfulFor_48 : decode mX5_helpfulFor.2.1 48 = .ok (.iload 6, 2) := by decide +kernel
theorem dX5_helpfulFor_50 : decode mX5_helpfulFor.2.1 50 = .ok (.aload_n 0, 1) := by decide +kernel
theorem dX5_helpfulFor_51 : decode mX5_helpfulFor.2.1 51 = .ok (.getfield 21, 3) := by decide +kernel
theorem dX5_helpfulFor_54 : decode mX5_helpfulFor.2.1 54 = .ok (.getfield 78, 3) := by decide +kernel
theorem dX5_helpfulFor_57 : decode mX5_helpfulFor.2.1 57 = .ok (.if_icmp .ge 95, 3) := by decide +kernel
theorem dX5_helpfulFor_60 : decode mX5_helpfulFor.2.1 60 = .ok (.iload 4, 2) := by decide +kernel
theorem dX5_helpfulFor_62 : decode mX5_helpfulFor.2.1 62 = .ok (.iload 6, 2) := by decide +kernel
theorem dX5_helpfulFor_64 : decode mX5_helpfulFor.2.1 64 = .ok (.ishr, 1) := by decide +kernel
theorem dX5_helpfulFor_65 : decode mX5_helpfulFor.2.1 65 = .ok (.iconst 1, 1) := by decide +kernel
theorem dX5_helpfulFor_66 : decode mX5_helpfulFor.2.1 66 = .ok (.iand, 1) := by decide +kernel
theorem dX5_helpfulFor_67 : decode mX5_helpfulFor.2.1 67 = .ok (.ifCond .ne 79, 3) := by decide +kernel
theorem dX5_helpfulFor_70 : decode mX5_helpfulFor.2.1 70 = .ok (.aload_n 0, 1) := by decide +kernel
theorem dX5_helpfulFor_71 : decode mX5_helpfulFor.2.1 71 = .ok (.iload 6, 2) := by decide +kernel
theorem dX5_helpfulFor_73 : decode mX5_helpfulFor.2.1 73 = .ok (.invokevirtual 94, 3) := by decide +kernel
theorem dX5_helpfulFor_76 : decode mX5_helpfulFor.2.1 76 = .ok (.iload_n 3, 1) := by decide +kernel
theorem dX5_helpfulFor_77 : decode mX5_helpfulFor.2.1 77 = .ok (.if_icmp .gt 69, 3) := by decide +kernel
theorem dX5_helpfulFor_80 : decode mX5_helpfulFor.2.1 80 = .ok (.aload_n 0, 1) := by decide +kernel
theorem dX5_helpfulFor_81 : decode mX5_helpfulFor.2.1 81 = .ok (.iload 6, 2) := by decide +kernel
theorem dX5_helpfulFor_83 : decode mX5_helpfulFor.2.1 83 = .ok (.invokevirtual 151, 3) := by decide +kernel
theorem dX5_helpfulFor_86 : decode mX5_helpfulFor.2.1 86 = .ok (.ifCond .eq 60, 3) := by decide +kernel
theorem dX5_helpfulFor_89 : decode mX5_helpfulFor.2.1 89 = .ok (.iload 4, 2) := by decide +kernel
theorem dX5_helpfulFor_91 : decode mX5_helpfulFor.2.1 91 = .ok (.iconst 1, 1) := by decide +kernel
theorem dX5_helpfulFor_92 : decode mX5_helpfulFor.2.1 92 = .ok (.iload 6, 2) := by decide +kernel
theorem dX5_helpfulFor_94 : decode mX5_helpfulFor.2.1 94 = .ok (.ishl, 1) := by decide +kernel
theorem dX5_helpfulFor_95 : decode mX5_helpfulFor.2.1 95 = .ok (.ior, 1) := by decide +kernel
theorem dX5_helpfulFor_96 : decode mX5_helpfulFor.2.1 96 = .ok (.istore 4, 2) := by decide +kernel
theorem dX5_helpfulFor_98 : decode mX5_helpfulFor.2.1 98 = .ok (.aload_n 0, 1) := by decide +kernel
theorem dX5_helpfulFor_99 : decode mX5_helpfulFor.2.1 99 = .ok (.aload_n 0, 1) := by decide +kernel
theorem dX5_helpfulFor_100 : decode mX5_helpfulFor.2.1 100 = .ok (.getfield 21, 3) := by decide +kernel
theorem dX5_helpfulFor_103 : decode mX5_helpfulFor.2.1 103 = .ok (.getfield 84, 3) := by decide +kernel
theorem dX5_helpfulFor_106 : decode mX5_helpfulFor.2.1 106 = .ok (.iload 6, 2) := by decide +kernel
theorem dX5_helpfulFor_108 : decode mX5_helpfulFor.2.1 108 = .ok (.iaload, 1) := by decide +kernel
theorem dX5_helpfulFor_109 : decode mX5_helpfulFor.2.1 109 = .ok (.aload_n 0, 1) := by decide +kernel
theorem dX5_helpfulFor_110 : decode mX5_helpfulFor.2.1 110 = .ok (.getfield 21, 3) := by decide +kernel
theorem dX5_helpfulFor_113 : decode mX5_helpfulFor.2.1 113 = .ok (.getfield 91, 3) := by decide +kernel
theorem dX5_helpfulFor_116 : decode mX5_helpfulFor.2.1 116 = .ok (.iload 6, 2) := by decide +kernel
theorem dX5_helpfulFor_118 : decode mX5_helpfulFor.2.1 118 = .ok (.iaload, 1) := by decide +kernel
theorem dX5_helpfulFor_119 : decode mX5_helpfulFor.2.1 119 = .ok (.invokevirtual 154, 3) := by decide +kernel
theorem dX5_helpfulFor_122 : decode mX5_helpfulFor.2.1 122 = .ok (.aload_n 0, 1) := by decide +kernel
theorem dX5_helpfulFor_123 : decode mX5_helpfulFor.2.1 123 = .ok (.aload_n 0, 1) := by decide +kernel
theorem dX5_helpfulFor_124 : decode mX5_helpfulFor.2.1 124 = .ok (.getfield 21, 3) := by decide +kernel
theorem dX5_helpfulFor_127 : decode mX5_helpfulFor.2.1 127 = .ok (.getfield 101, 3) := by decide +kernel
theorem dX5_helpfulFor_130 : decode mX5_helpfulFor.2.1 130 = .ok (.iload 6, 2) := by decide +kernel
theorem dX5_helpfulFor_132 : decode mX5_helpfulFor.2.1 132 = .ok (.iaload, 1) := by decide +kernel
theorem dX5_helpfulFor_133 : decode mX5_helpfulFor.2.1 133 = .ok (.aload_n 0, 1) := by decide +kernel
theorem dX5_helpfulFor_134 : decode mX5_helpfulFor.2.1 134 = .ok (.getfield 21, 3) := by decide +kernel
theorem dX5_helpfulFor_137 : decode mX5_helpfulFor.2.1 137 = .ok (.getfield 121, 3) := by decide +kernel
theorem dX5_helpfulFor_140 : decode mX5_helpfulFor.2.1 140 = .ok (.iload 6, 2) := by decide +kernel
theorem dX5_helpfulFor_142 : decode mX5_helpfulFor.2.1 142 = .ok (.iaload, 1) := by decide +kernel
theorem dX5_helpfulFor_143 : decode mX5_helpfulFor.2.1 143 = .ok (.invokevirtual 154, 3) := by decide +kernel
theorem dX5_helpfulFor_146 : decode mX5_helpfulFor.2.1 146 = .ok (.iinc 6 1, 3) := by decide +kernel
theorem dX5_helpfulFor_149 : decode mX5_helpfulFor.2.1 149 = .ok (.goto (-101), 3) := by decide +kernel
theorem dX5_helpfulFor_152 : decode mX5_helpfulFor.2.1 152 = .ok (.iinc 5 1, 3) := by decide +kernel
theorem dX5_helpfulFor_155 : decode mX5_helpfulFor.2.1 155 = .ok (.goto (-122), 3) := by decide +kernel
theorem dX5_helpfulFor_158 : decode mX5_helpfulFor.2.1 158 = .ok (.iload 4, 2) := by decide +kernel
theorem dX5_helpfulFor_160 : decode mX5_helpfulFor.2.1 160 = .ok (.ireturn, 1) := by decide +kernel
def fn_X5_helpfulFor_b146 (n : Nat) (b : Nat) (x1 : Int32) (x2 : Int32) (x3 : Int32) (k33 : Int32 → Int32 → Sg → Option (Int32 × Sg)) (k48 : Int32 → Int32 → Int32 → Sg → Option (Int32 × Sg)) (v4 : Int32) (v5 : Int32) (v6 : Int32) (σ : Sg) : Option (Int32 × Sg) :=
  (k48 v4 v5 (v6 + 1) σ)
set_option maxRecDepth 20000 in
set_option maxHeartbeats 4000000 in
theorem ev_X5_helpfulFor_b146 (n : Nat) (b : Nat) (hb : ag_Y b) (x1 : Int32) (x2 : Int32) (x3 : Int32) (k33 : Int32 → Int32 → Sg → Option (Int32 × Sg)) (hk33 : ∀ (v4 : Int32) (v5 : Int32) (σ : Sg), Ev mX5_helpfulFor 2 48 jW 33 [(0, .ref b), (1, .int x1), (2, .int x2), (3, .int x3), (4, .int v4), (5, .int v5)] [] σ (k33 v4 v5 σ)) (k48 : Int32 → Int32 → Int32 → Sg → Option (Int32 × Sg)) (hk48 : ∀ (v4 : Int32) (v5 : Int32) (v6 : Int32) (σ : Sg), Ev mX5_helpfulFor 2 48 jW 48 [(0, .ref b), (1, .int x1), (2, .int x2), (3, .int x3), (4, .int v4), (5, .int v5), (6, .int v6)] [] σ (k48 v4 v5 v6 σ)) (v4 : Int32) (v5 : Int32) (v6 : Int32) (σ : Sg) : Ev mX5_helpfulFor 2 48 jW 146 [(0, .ref b), (1, .int x1), (2, .int x2), (3, .int x3), (4, .int v4), (5, .int v5), (6, .int v6)] [] σ (fn_X5_helpfulFor_b146 n b x1 x2 x3 k33 k48 v4 v5 v6 σ) := by
  unfold fn_X5_helpfulFor_b146
  refine ev_iinc (pc := 146) (v := (v6 + 1)) (lv' := [(6, .int (v6 + 1)), (0, .ref b), (1, .int x1), (2, .int x2), (3, .int x3), (4, .int v4), (5, .int v5)]) 6 dX5_helpfulFor_146 rfl rfl (Nat.le_of_ble_eq_true rfl) rfl ?_
  refine ev_goto (pc := 149) (tgt := 48) dX5_helpfulFor_149 rfl ?_
  refine ev_sub [1, 2, 3, 4, 5, 6, 0] rfl ?_
  exact hk48 v4 v5 (v6 + 1) σ
def fn_X5_helpfulFor_b48 (n : Nat) (b : Nat) (x1 : Int32) (x2 : Int32) (x3 : Int32) (k33 : Int32 → Int32 → Sg → Option (Int32 × Sg)) : Nat → Int32 → Int32 → Int32 → Sg → Option (Int32 × Sg)
  | 0 => fun _ _ _ _ => none
  | i + 1 => fun v4 v5 v6 σ =>
  (if (σ (b + 7) 0) ≤ v6 then (k33 v4 (v5 + 1) σ)
  else (if ((v4 >>> (v6 &&& 31)) &&& 1) = 0 then (Option.bind (fn_X5_dueYear b v6 σ) fun q23 =>
  (if x3 < q23 then (fn_X5_helpfulFor_b146 n b x1 x2 x3 k33 (fn_X5_helpfulFor_b48 n b x1 x2 x3 k33 i) v4 v5 v6 σ)
  else (Option.bind (fn_X5_bringsWanted n b v6 σ) fun q24 =>
  (if q24 = 0 then (fn_X5_helpfulFor_b146 n b x1 x2 x3 k33 (fn_X5_helpfulFor_b48 n b x1 x2 x3 k33 i) v4 v5 v6 σ)
  else (if ag_ib v6 13 = true then (if ag_ib v6 13 = true then (Option.bind (fn_X5_want b (σ (b + 8) v6.toNatClampNeg) (σ (b + 11) v6.toNatClampNeg) σ) fun q25 =>
  (if ag_ib v6 13 = true then (if ag_ib v6 13 = true then (Option.bind (fn_X5_want b (q25 (b + 9) v6.toNatClampNeg) (q25 (b + 12) v6.toNatClampNeg) q25) fun q26 =>
  (fn_X5_helpfulFor_b146 n b x1 x2 x3 k33 (fn_X5_helpfulFor_b48 n b x1 x2 x3 k33 i) (v4 ||| (1 <<< (v6 &&& 31))) v5 v6 q26)) else none) else none)) else none) else none)))))
  else (fn_X5_helpfulFor_b146 n b x1 x2 x3 k33 (fn_X5_helpfulFor_b48 n b x1 x2 x3 k33 i) v4 v5 v6 σ)))
theorem fn_X5_helpfulFor_b48_s (n : Nat) (b : Nat) (x1 : Int32) (x2 : Int32) (x3 : Int32) (k33 : Int32 → Int32 → Sg → Option (Int32 × Sg)) (i : Nat) (v4 : Int32) (v5 : Int32) (v6 : Int32) (σ : Sg) : fn_X5_helpfulFor_b48 n b x1 x2 x3 k33 (i + 1) v4 v5 v6 σ =
  (if (σ (b + 7) 0) ≤ v6 then (k33 v4 (v5 + 1) σ)
  else (if ((v4 >>> (v6 &&& 31)) &&& 1) = 0 then (Option.bind (fn_X5_dueYear b v6 σ) fun q23 =>
  (if x3 < q23 then (fn_X5_helpfulFor_b146 n b x1 x2 x3 k33 (fn_X5_helpfulFor_b48 n b x1 x2 x3 k33 i) v4 v5 v6 σ)
  else (Option.bind (fn_X5_bringsWanted n b v6 σ) fun q24 =>
  (if q24 = 0 then (fn_X5_helpfulFor_b146 n b x1 x2 x3 k33 (fn_X5_helpfulFor_b48 n b x1 x2 x3 k33 i) v4 v5 v6 σ)
  else (if ag_ib v6 13 = true then (if ag_ib v6 13 = true then (Option.bind (fn_X5_want b (σ (b + 8) v6.toNatClampNeg) (σ (b + 11) v6.toNatClampNeg) σ) fun q25 =>
  (if ag_ib v6 13 = true then (if ag_ib v6 13 = true then (Option.bind (fn_X5_want b (q25 (b + 9) v6.toNatClampNeg) (q25 (b + 12) v6.toNatClampNeg) q25) fun q26 =>
  (fn_X5_helpfulFor_b146 n b x1 x2 x3 k33 (fn_X5_helpfulFor_b48 n b x1 x2 x3 k33 i) (v4 ||| (1 <<< (v6 &&& 31))) v5 v6 q26)) else none) else none)) else none) else none)))))
  else (fn_X5_helpfulFor_b146 n b x1 x2 x3 k33 (fn_X5_helpfulFor_b48 n b x1 x2 x3 k33 i) v4 v5 v6 σ))) := rfl
set_option maxRecDepth 20000 in
set_option maxHeartbeats 4000000 in
theorem ev_X5_helpfulFor_b48 (n : Nat) (b : Nat) (hb : ag_Y b) (x1 : Int32) (x2 : Int32) (x3 : Int32) (k33 : Int32 → Int32 → Sg → Option (Int32 × Sg)) (hk33 : ∀ (v4 : Int32) (v5 : Int32) (σ : Sg), Ev mX5_helpfulFor 2 48 jW 33 [(0, .ref b), (1, .int x1), (2, .int x2), (3, .int x3), (4, .int v4), (5, .int v5)] [] σ (k33 v4 v5 σ)) : ∀ (i : Nat) (v4 : Int32) (v5 : Int32) (v6 : Int32) (σ : Sg), Ev mX5_helpfulFor 2 48 jW 48 [(0, .ref b), (1, .int x1), (2, .int x2), (3, .int x3), (4, .int v4), (5, .int v5), (6, .int v6)] [] σ (fn_X5_helpfulFor_b48 n b x1 x2 x3 k33 i v4 v5 v6 σ) := by
  intro i
  induction i with
  | zero =>
    intro v4 v5 v6 σ
    exact ev_none
  | succ i ih =>
    intro v4 v5 v6 σ
    rw [fn_X5_helpfulFor_b48_s]
    refine ev_iload (pc := 48) 6 dX5_helpfulFor_48 rfl ?_
    refine ev_aload_n (pc := 50) (i := 0) 0 dX5_helpfulFor_50 rfl rfl ?_
    refine ev_getR (pc := 51) (t := (b + 7)) 1 ag_C5 (ag_Yk hb).1 (ag_Yk hb).2 (Nat.le_of_ble_eq_true rfl) (ag_Yt1 hb) rfl ag_fl_X5_21 dX5_helpfulFor_51 ?_
    refine ev_getI (pc := 54) 0 ag_C2 (ag_Pk (ag_YP hb)).1 (ag_Pk (ag_YP hb)).2 (Nat.le_of_ble_eq_true rfl) (ag_Pt0 (ag_YP hb)) rfl ag_fl_X5_78 dX5_helpfulFor_54 ?_
    refine ev_icmp_ge (pc := 57) (tgt := 152) dX5_helpfulFor_57 rfl ?_ ?_
    · refine ev_iinc (pc := 152) (v := (v5 + 1)) (lv' := [(5, .int (v5 + 1)), (0, .ref b), (1, .int x1), (2, .int x2), (3, .int x3), (4, .int v4), (6, .int v6)]) 5 dX5_helpfulFor_152 rfl rfl (Nat.le_of_ble_eq_true rfl) rfl ?_
      refine ev_goto (pc := 155) (tgt := 33) dX5_helpfulFor_155 rfl ?_
      refine ev_sub [1, 2, 3, 4, 5, 0] rfl ?_
      exact hk33 v4 (v5 + 1) σ
    · refine ev_iload (pc := 60) 4 dX5_helpfulFor_60 rfl ?_
      refine ev_iload (pc := 62) 6 dX5_helpfulFor_62 rfl ?_
      refine ev_ishr (pc := 64) dX5_helpfulFor_64 ?_
      refine ev_iconst (pc := 65) (v := 1) dX5_helpfulFor_65 (by decide) ?_
      refine ev_iand (pc := 66) dX5_helpfulFor_66 ?_
      refine ev_if_ne (pc := 67) (tgt := 146) dX5_helpfulFor_67 rfl ?_ ?_
      · refine ev_aload_n (pc := 70) (i := 0) 0 dX5_helpfulFor_70 rfl rfl ?_
        refine ev_iload (pc := 71) 6 dX5_helpfulFor_71 rfl ?_
        refine ev_vI (pc := 73) (as := [.int v6]) (rest := []) ⟨5, 94, 10, TX5, tyX5, ag_C5, ⟨(ag_Yk hb).1, (ag_Yk hb).2⟩, mv_X5_dueYear, ag_ml_X5_94, rfl, (Nat.le_of_ble_eq_true rfl), ⟨(Nat.le_of_ble_eq_true rfl), (Nat.le_of_ble_eq_true rfl)⟩, dX5_helpfulFor_73⟩ (im_X5_dueYear b hb v6 σ) (fun q23 => ?_)
        refine ev_iload_n (pc := 76) (i := 3) 3 dX5_helpfulFor_76 rfl rfl ?_
        refine ev_icmp_gt (pc := 77) (tgt := 146) dX5_helpfulFor_77 rfl ?_ ?_
        · exact ev_X5_helpfulFor_b146 n b hb x1 x2 x3 k33 hk33 (fn_X5_helpfulFor_b48 n b x1 x2 x3 k33 i) ih v4 v5 v6 σ
        · refine ev_aload_n (pc := 80) (i := 0) 0 dX5_helpfulFor_80 rfl rfl ?_
          refine ev_iload (pc := 81) 6 dX5_helpfulFor_81 rfl ?_
          refine ev_vI (pc := 83) (as := [.int v6]) (rest := []) ⟨5, 151, 10, TX5, tyX5, ag_C5, ⟨(ag_Yk hb).1, (ag_Yk hb).2⟩, mv_X5_bringsWanted, ag_ml_X5_151, rfl, (Nat.le_of_ble_eq_true rfl), ⟨(Nat.le_of_ble_eq_true rfl), (Nat.le_of_ble_eq_true rfl)⟩, dX5_helpfulFor_83⟩ (im_X5_bringsWanted n b hb v6 σ) (fun q24 => ?_)
          refine ev_if_eq (pc := 86) (tgt := 146) dX5_helpfulFor_86 rfl ?_ ?_
          · exact ev_X5_helpfulFor_b146 n b hb x1 x2 x3 k33 hk33 (fn_X5_helpfulFor_b48 n b x1 x2 x3 k33 i) ih v4 v5 v6 σ
          · refine ev_iload (pc := 89) 4 dX5_helpfulFor_89 rfl ?_
            refine ev_iconst (pc := 91) (v := 1) dX5_helpfulFor_91 (by decide) ?_
            refine ev_iload (pc := 92) 6 dX5_helpfulFor_92 rfl ?_
            refine ev_ishl (pc := 94) dX5_helpfulFor_94 ?_
            refine ev_ior (pc := 95) dX5_helpfulFor_95 ?_
            refine ev_istore (pc := 96) (lv' := [(4, .int (v4 ||| (1 <<< (v6 &&& 31)))), (0, .ref b), (1, .int x1), (2, .int x2), (3, .int x3), (5, .int v5), (6, .int v6)]) dX5_helpfulFor_96 (Nat.le_of_ble_eq_true rfl) rfl ?_
            refine ev_aload_n (pc := 98) (i := 0) 1 dX5_helpfulFor_98 rfl rfl ?_
            refine ev_aload_n (pc := 99) (i := 0) 1 dX5_helpfulFor_99 rfl rfl ?_
            refine ev_getR (pc := 100) (t := (b + 7)) 1 ag_C5 (ag_Yk hb).1 (ag_Yk hb).2 (Nat.le_of_ble_eq_true rfl) (ag_Yt1 hb) rfl ag_fl_X5_21 dX5_helpfulFor_100 ?_
            refine ev_getR (pc := 103) (t := (b + 8)) 1 ag_C2 (ag_Pk (ag_YP hb)).1 (ag_Pk (ag_YP hb)).2 (Nat.le_of_ble_eq_true rfl) (ag_Pt1 (ag_YP hb)) rfl ag_fl_X5_84 dX5_helpfulFor_103 ?_
            refine ev_iload (pc := 106) 6 dX5_helpfulFor_106 rfl ?_
            refine ev_iald (pc := 108) (ag_Pa1 (ag_YP hb)).1 (ag_Pa1 (ag_YP hb)).2 dX5_helpfulFor_108 ?_
            refine ev_aload_n (pc := 109) (i := 0) 1 dX5_helpfulFor_109 rfl rfl ?_
            refine ev_getR (pc := 110) (t := (b + 7)) 1 ag_C5 (ag_Yk hb).1 (ag_Yk hb).2 (Nat.le_of_ble_eq_true rfl) (ag_Yt1 hb) rfl ag_fl_X5_21 dX5_helpfulFor_110 ?_
            refine ev_getR (pc := 113) (t := (b + 11)) 4 ag_C2 (ag_Pk (ag_YP hb)).1 (ag_Pk (ag_YP hb)).2 (Nat.le_of_ble_eq_true rfl) (ag_Pt4 (ag_YP hb)) rfl ag_fl_X5_91 dX5_helpfulFor_113 ?_
            refine ev_iload (pc := 116) 6 dX5_helpfulFor_116 rfl ?_
            refine ev_iald (pc := 118) (ag_Pa4 (ag_YP hb)).1 (ag_Pa4 (ag_YP hb)).2 dX5_helpfulFor_118 ?_
            refine ev_vV (pc := 119) (as := [.int (σ (b + 8) v6.toNatClampNeg), .int (σ (b + 11) v6.toNatClampNeg)]) (rest := []) ⟨5, 154, 10, TX5, tyX5, ag_C5, ⟨(ag_Yk hb).1, (ag_Yk hb).2⟩, mv_X5_want, ag_ml_X5_154, rfl, (Nat.le_of_ble_eq_true rfl), ⟨(Nat.le_of_ble_eq_true rfl), (Nat.le_of_ble_eq_true rfl)⟩, dX5_helpfulFor_119⟩ (im_X5_want b hb (σ (b + 8) v6.toNatClampNeg) (σ (b + 11) v6.toNatClampNeg) σ) (fun q25 => ?_)
            refine ev_aload_n (pc := 122) (i := 0) 1 dX5_helpfulFor_122 rfl rfl ?_
            refine ev_aload_n (pc := 123) (i := 0) 1 dX5_helpfulFor_123 rfl rfl ?_
            refine ev_getR (pc := 124) (t := (b + 7)) 1 ag_C5 (ag_Yk hb).1 (ag_Yk hb).2 (Nat.le_of_ble_eq_true rfl) (ag_Yt1 hb) rfl ag_fl_X5_21 dX5_helpfulFor_124 ?_
            refine ev_getR (pc := 127) (t := (b + 9)) 2 ag_C2 (ag_Pk (ag_YP hb)).1 (ag_Pk (ag_YP hb)).2 (Nat.le_of_ble_eq_true rfl) (ag_Pt2 (ag_YP hb)) rfl ag_fl_X5_101 dX5_helpfulFor_127 ?_
            refine ev_iload (pc := 130) 6 dX5_helpfulFor_130 rfl ?_
            refine ev_iald (pc := 132) (ag_Pa2 (ag_YP hb)).1 (ag_Pa2 (ag_YP hb)).2 dX5_helpfulFor_132 ?_
            refine ev_aload_n (pc := 133) (i := 0) 1 dX5_helpfulFor_133 rfl rfl ?_
            refine ev_getR (pc := 134) (t := (b + 7)) 1 ag_C5 (ag_Yk hb).1 (ag_Yk hb).2 (Nat.le_of_ble_eq_true rfl) (ag_Yt1 hb) rfl ag_fl_X5_21 dX5_helpfulFor_134 ?_
            refine ev_getR (pc := 137) (t := (b + 12)) 5 ag_C2 (ag_Pk (ag_YP hb)).1 (ag_Pk (ag_YP hb)).2 (Nat.le_of_ble_eq_true rfl) (ag_Pt5 (ag_YP hb)) rfl ag_fl_X5_121 dX5_helpfulFor_137 ?_
            refine ev_iload (pc := 140) 6 dX5_helpfulFor_140 rfl ?_
            refine ev_iald (pc := 142) (ag_Pa5 (ag_YP hb)).1 (ag_Pa5 (ag_YP hb)).2 dX5_helpfulFor_142 ?_
            refine ev_vV (pc := 143) (as := [.int (q25 (b + 9) v6.toNatClampNeg), .int (q25 (b + 12) v6.toNatClampNeg)]) (rest := []) ⟨5, 154, 10, TX5, tyX5, ag_C5, ⟨(ag_Yk hb).1, (ag_Yk hb).2⟩, mv_X5_want, ag_ml_X5_154, rfl, (Nat.le_of_ble_eq_true rfl), ⟨(Nat.le_of_ble_eq_true rfl), (Nat.le_of_ble_eq_true rfl)⟩, dX5_helpfulFor_143⟩ (im_X5_want b hb (q25 (b + 9) v6.toNatClampNeg) (q25 (b + 12) v6.toNatClampNeg) q25) (fun q26 => ?_)
            refine ev_sub [1, 2, 3, 4, 0, 5, 6] rfl ?_
            exact ev_X5_helpfulFor_b146 n b hb x1 x2 x3 k33 hk33 (fn_X5_helpfulFor_b48 n b x1 x2 x3 k33 i) ih (v4 ||| (1 <<< (v6 &&& 31))) v5 v6 q26
      · exact ev_X5_helpfulFor_b146 n b hb x1 x2 x3 k33 hk33 (fn_X5_helpfulFor_b48 n b x1 x2 x3 k33 i) ih v4 v5 v6 σ
def fn_X5_helpfulFor_b33 (n : Nat) (b : Nat) (x1 : Int32) (x2 : Int32) (x3 : Int32)  : Nat → Int32 → Int32 → Sg → Option (Int32 × Sg)
  | 0 => fun _ _ _ => none
  | i + 1 => fun v4 v5 σ =>
  (if (σ (b + 7) 0) ≤ v5 then (some (v4, σ))
  else (fn_X5_helpfulFor_b48 n b x1 x2 x3 (fn_X5_helpfulFor_b33 n b x1 x2 x3 i) n v4 v5 0 σ))
theorem fn_X5_helpfulFor_b33_s (n : Nat) (b : Nat) (x1 : Int32) (x2 : Int32) (x3 : Int32)  (i : Nat) (v4 : Int32) (v5 : Int32) (σ : Sg) : fn_X5_helpfulFor_b33 n b x1 x2 x3 (i + 1) v4 v5 σ =
  (if (σ (b + 7) 0) ≤ v5 then (some (v4, σ))
  else (fn_X5_helpfulFor_b48 n b x1 x2 x3 (fn_X5_helpfulFor_b33 n b x1 x2 x3 i) n v4 v5 0 σ)) := rfl
set_option maxRecDepth 20000 in
set_option maxHeartbeats 4000000 in
theorem ev_X5_helpfulFor_b33 (n : Nat) (b : Nat) (hb : ag_Y b) (x1 : Int32) (x2 : Int32) (x3 : Int32)  : ∀ (i : Nat) (v4 : Int32) (v5 : Int32) (σ : Sg), Ev mX5_helpfulFor 2 48 jW 33 [(0, .ref b), (1, .int x1), (2, .int x2), (3, .int x3), (4, .int v4), (5, .int v5)] [] σ (fn_X5_helpfulFor_b33 n b x1 x2 x3 i v4 v5 σ) := by
  intro i
  induction i with
  | zero =>
    intro v4 v5 σ
    exact ev_none
  | succ i ih =>
    intro v4 v5 σ
    rw [fn_X5_helpfulFor_b33_s]
    refine ev_iload (pc := 33) 5 dX5_helpfulFor_33 rfl ?_
    refine ev_aload_n (pc := 35) (i := 0) 0 dX5_helpfulFor_35 rfl rfl ?_
    refine ev_getR (pc := 36) (t := (b + 7)) 1 ag_C5 (ag_Yk hb).1 (ag_Yk hb).2 (Nat.le_of_ble_eq_true rfl) (ag_Yt1 hb) rfl ag_fl_X5_21 dX5_helpfulFor_36 ?_
    refine ev_getI (pc := 39) 0 ag_C2 (ag_Pk (ag_YP hb)).1 (ag_Pk (ag_YP hb)).2 (Nat.le_of_ble_eq_true rfl) (ag_Pt0 (ag_YP hb)) rfl ag_fl_X5_78 dX5_helpfulFor_39 ?_
    refine ev_icmp_ge (pc := 42) (tgt := 158) dX5_helpfulFor_42 rfl ?_ ?_
    · refine ev_iload (pc := 158) 4 dX5_helpfulFor_158 rfl ?_
      exact ev_iret (ty := .int) (fun r h => by cases h; rfl) rfl rfl dX5_helpfulFor_160
    · refine ev_iconst (pc := 45) (v := 0) dX5_helpfulFor_45 (by decide) ?_
      refine ev_istore (pc := 46) (lv' := [(6, .int 0), (0, .ref b), (1, .int x1), (2, .int x2), (3, .int x3), (4, .int v4), (5, .int v5)]) dX5_helpfulFor_46 (Nat.le_of_ble_eq_true rfl) rfl ?_
      refine ev_sub [1, 2, 3, 4, 5, 6, 0] rfl ?_
      exact ev_X5_helpfulFor_b48 n b hb x1 x2 x3 (fn_X5_helpfulFor_b33 n b x1 x2 x3 i) ih n v4 v5 0 σ
def fn_X5_helpfulFor (n : Nat) (b : Nat) (x1 : Int32) (x2 : Int32) (x3 : Int32) (σ : Sg) : Option (Int32 × Sg) :=
  (Option.bind (fn_J7_fill_53178 n (b + 17) 10 0 σ) fun q27 =>
  (if ag_ib x1 10 = true then (if ag_ib x1 10 = true then (fn_X5_helpfulFor_b33 n b x1 x2 x3 n 0 0 (ag_up q27 (b + 17) x1.toNatClampNeg (x2 &&& ((q27 (b + 6) x1.toNatClampNeg) ^^^ (-1))))) else none) else none))
set_option maxRecDepth 20000 in
set_option maxHeartbeats 4000000 in
theorem im_X5_helpfulFor (n : Nat) (b : Nat) (hb : ag_Y b) (x1 : Int32) (x2 : Int32) (x3 : Int32) (σ : Sg) : Im yX5_helpfulFor mX5_helpfulFor 2 48 jW [.ref b, .int x1, .int x2, .int x3] σ (fn_X5_helpfulFor n b x1 x2 x3 σ) := by
  refine Im.of (by decide +kernel) rfl (Nat.le_of_ble_eq_true rfl) ?_
  show Ev mX5_helpfulFor 2 48 jW 0 [(0, .ref b), (1, .int x1), (2, .int x2), (3, .int x3)] [] σ (fn_X5_helpfulFor n b x1 x2 x3 σ)
  unfold fn_X5_helpfulFor
  refine ev_iconst (pc := 0) (v := 0) dX5_helpfulFor_0 (by decide) ?_
  refine ev_istore (pc := 1) (lv' := [(4, .int 0), (0, .ref b), (1, .int x1), (2, .int x2), (3, .int x3)]) dX5_helpfulFor_1 (Nat.le_of_ble_eq_true rfl) rfl ?_
  refine ev_aload_n (pc := 3) (i := 0) 1 dX5_helpfulFor_3 rfl rfl ?_
  refine ev_getR (pc := 4) (t := (b + 17)) 9 ag_C5 (ag_Yk hb).1 (ag_Yk hb).2 (Nat.le_of_ble_eq_true rfl) (ag_Yt9 hb) rfl ag_fl_X5_48 dX5_helpfulFor_4 ?_
  refine ev_iconst (pc := 7) (v := 0) dX5_helpfulFor_7 (by decide) ?_
  refine ev_sV (pc := 8) (as := [.ref (b + 17), .int 0]) (rest := []) ⟨145, ms_J7_fill_53178, ag_ml_X5_145, rfl, (Nat.le_of_ble_eq_true rfl), ⟨(Nat.le_of_ble_eq_true rfl), (Nat.le_of_ble_eq_true rfl)⟩, dX5_helpfulFor_8⟩ (im_J7_fill_53178 n (b + 17) 10 ⟨(ag_Ya17 hb).1, (ag_Ya17 hb).2⟩ 0 σ) (fun q27 => ?_)
  refine ev_aload_n (pc := 11) (i := 0) 1 dX5_helpfulFor_11 rfl rfl ?_
  refine ev_getR (pc := 12) (t := (b + 17)) 9 ag_C5 (ag_Yk hb).1 (ag_Yk hb).2 (Nat.le_of_ble_eq_true rfl) (ag_Yt9 hb) rfl ag_fl_X5_48 dX5_helpfulFor_12 ?_
  refine ev_iload_n (pc := 15) (i := 1) 2 dX5_helpfulFor_15 rfl rfl ?_
  refine ev_iload_n (pc := 16) (i := 2) 3 dX5_helpfulFor_16 rfl rfl ?_
  refine ev_aload_n (pc := 17) (i := 0) 1 dX5_helpfulFor_17 rfl rfl ?_
  refine ev_getR (pc := 18) (t := (b + 1)) 0 ag_C5 (ag_Yk hb).1 (ag_Yk hb).2 (Nat.le_of_ble_eq_true rfl) (ag_Yt0 hb) rfl ag_fl_X5_12 dX5_helpfulFor_18 ?_
  refine ev_getR (pc := 21) (t := (b + 6)) 5 ag_C1 (ag_Fk (ag_YF hb)).1 (ag_Fk (ag_YF hb)).2 (Nat.le_of_ble_eq_true rfl) (ag_Ft5 (ag_YF hb)) rfl ag_fl_X5_58 dX5_helpfulFor_21 ?_
  refine ev_iload_n (pc := 24) (i := 1) 2 dX5_helpfulFor_24 rfl rfl ?_
  refine ev_iald (pc := 25) (ag_Fa5 (ag_YF hb)).1 (ag_Fa5 (ag_YF hb)).2 dX5_helpfulFor_25 ?_
  refine ev_iconst (pc := 26) (v := (-1)) dX5_helpfulFor_26 (by decide) ?_
  refine ev_ixor (pc := 27) dX5_helpfulFor_27 ?_
  refine ev_iand (pc := 28) dX5_helpfulFor_28 ?_
  refine ev_iast (pc := 29) (ag_Ya17 hb).1 (ag_Ya17 hb).2 dX5_helpfulFor_29 ?_
  refine ev_iconst (pc := 30) (v := 0) dX5_helpfulFor_30 (by decide) ?_
  refine ev_istore (pc := 31) (lv' := [(5, .int 0), (4, .int 0), (0, .ref b), (1, .int x1), (2, .int x2), (3, .int x3)]) dX5_helpfulFor_31 (Nat.le_of_ble_eq_true rfl) rfl ?_
  refine ev_sub [2, 3, 4, 5, 1, 0] rfl ?_
  exact ev_X5_helpfulFor_b33 n b hb x1 x2 x3 n 0 0 (ag_up q27 (b + 17) x1.toNatClampNeg (x2 &&& ((q27 (b + 6) x1.toNatClampNeg) ^^^ (-1))))
-- X5_involvedIn
def mX5_involvedIn : Md := (RX5, cX5_involvedIn, 4, some .int)
theorem mv_X5_involvedIn : ag_Mv yX5_involvedIn mX5_involvedIn 1 := ⟨ag_co_X5_involvedIn, ag_im_X5_involvedIn, ag_se_X5_involvedIn, ag_ini_X5, by decide +kernel⟩
theorem dX5_involvedIn_0 : decode mX5_involvedIn.2.1 0 = .ok (.iconst 0, 1) := by decide +kernel
theorem dX5_involvedIn_1 : decode mX5_involvedIn.2.1 1 = .ok (.istore_n 2, 1) := by decide +kernel
theorem dX5_involvedIn_2 : decode mX5_involvedIn.2.1 2 = .ok (.iconst 0, 1) := by decide +kernel
theorem dX5_involvedIn_3 : decode mX5_involvedIn.2.1 3 = .ok (.istore_n 3, 1) := by decide +kernel
theorem dX5_involvedIn_4 : decode mX5_involvedIn.2.1 4 = .ok (.iload_n 3, 1) := by decide +kernel
theorem dX5_involvedIn_5 : decode mX5_involvedIn.2.1 5 = .ok (.aload_n 0, 1) := by decide +kernel
theorem dX5_involvedIn_6 : decode mX5_involvedIn.2.1 6 = .ok (.getfield 21, 3) := by decide +kernel
theorem dX5_involvedIn_9 : decode mX5_involvedIn.2.1 9 = .ok (.getfield 78, 3) := by decide +kernel
theorem dX5_involvedIn_12 : decode mX5_involvedIn.2.1 12 = .ok (.if_icmp .ge 44, 3) := by decide +kernel
theorem dX5_involvedIn_15 : decode mX5_involvedIn.2.1 15 = .ok (.iload_n 1, 1) := by decide +kernel
theorem dX5_involvedIn_16 : decode mX5_involvedIn.2.1 16 = .ok (.iload_n 3, 1) := by decide +kernel
theorem dX5_involvedIn_17 : decode mX5_involvedIn.2.1 17 = .ok (.ishr, 1) := by decide +kernel
theorem dX5_involvedIn_18 : decode mX5_involvedIn.2.1 18 = .ok (.iconst 1, 1) := by decide +kernel
theorem dX5_involvedIn_19 : decode mX5_involvedIn.2.1 19 = .ok (.iand, 1) := by decide +kernel
theorem dX5_involvedIn_20 : decode mX5_involvedIn.2.1 20 = .ok (.iconst 1, 1) := by decide +kernel
theorem dX5_involvedIn_21 : decode mX5_involvedIn.2.1 21 = .ok (.if_icmp .ne 29, 3) := by decide +kernel
theorem dX5_involvedIn_24 : decode mX5_involvedIn.2.1 24 = .ok (.iload_n 2, 1) := by decide +kernel
theorem dX5_involvedIn_25 : decode mX5_involvedIn.2.1 25 = .ok (.iconst 1, 1) := by decide +kernel
theorem dX5_involvedIn_26 : decode mX5_involvedIn.2.1 26 = .ok (.aload_n 0, 1) := by decide +kernel
theorem dX5_involvedIn_27 : decode mX5_involvedIn.2.1 27 = .ok (.getfield 21, 3) := by decide +kernel
theorem dX5_involvedIn_30 : decode mX5_involvedIn.2.1 30 = .ok (.getfield 84, 3) := by decide +kernel
theorem dX5_involvedIn_33 : decode mX5_involvedIn.2.1 33 = .ok (.iload_n 3, 1) := by decide +kernel
theorem dX5_involvedIn_34 : decode mX5_involvedIn.2.1 34 = .ok (.iaload, 1) := by decide +kernel
theorem dX5_involvedIn_35 : decode mX5_involvedIn.2.1 35 = .ok (.ishl, 1) := by decide +kernel
theorem dX5_involvedIn_36 : decode mX5_involvedIn.2.1 36 = .ok (.iconst 1, 1) := by decide +kernel
theorem dX5_involvedIn_37 : decode mX5_involvedIn.2.1 37 = .ok (.aload_n 0, 1) := by decide +kernel
theorem dX5_involvedIn_38 : decode mX5_involvedIn.2.1 38 = .ok (.getfield 21, 3) := by decide +kernel
theorem dX5_involvedIn_41 : decode mX5_involvedIn.2.1 41 = .ok (.getfield 101, 3) := by decide +kernel
theorem dX5_involvedIn_44 : decode mX5_involvedIn.2.1 44 = .ok (.iload_n 3, 1) := by decide +kernel
theorem dX5_involvedIn_45 : decode mX5_involvedIn.2.1 45 = .ok (.iaload, 1) := by decide +kernel
theorem dX5_involvedIn_46 : decode mX5_involvedIn.2.1 46 = .ok (.ishl, 1) := by decide +kernel
theorem dX5_involvedIn_47 : decode mX5_involvedIn.2.1 47 = .ok (.ior, 1) := by decide +kernel
theorem dX5_involvedIn_48 : decode mX5_involvedIn.2.1 48 = .ok (.ior, 1) := by decide +kernel
theorem dX5_involvedIn_49 : decode mX5_involvedIn.2.1 49 = .ok (.istore_n 2, 1) := by decide +kernel
theorem dX5_involvedIn_50 : decode mX5_involvedIn.2.1 50 = .ok (.iinc 3 1, 3) := by decide +kernel
theorem dX5_involvedIn_53 : decode mX5_involvedIn.2.1 53 = .ok (.goto (-49), 3) := by decide +kernel
theorem dX5_involvedIn_56 : decode mX5_involvedIn.2.1 56 = .ok (.iload_n 2, 1) := by decide +kernel
theorem dX5_involvedIn_57 : decode mX5_involvedIn.2.1 57 = .ok (.ireturn, 1) := by decide +kernel
def fn_X5_involvedIn_b50 (n : Nat) (b : Nat) (x1 : Int32) (σ : Sg) (k4 : Int32 → Int32 → Option Int32) (v2 : Int32) (v3 : Int32) : Option Int32 :=
  (k4 v2 (v3 + 1))
set_option maxRecDepth 20000 in
set_option maxHeartbeats 4000000 in
theorem ev_X5_involvedIn_b50 (n : Nat) (b : Nat) (hb : ag_Y b) (x1 : Int32) (σ : Sg) (k4 : Int32 → Int32 → Option Int32) (hk4 : ∀ (v2 : Int32) (v3 : Int32), Ev mX5_involvedIn 0 0 (jI σ) 4 [(0, .ref b), (1, .int x1), (2, .int v2), (3, .int v3)] [] σ (k4 v2 v3)) (v2 : Int32) (v3 : Int32) : Ev mX5_involvedIn 0 0 (jI σ) 50 [(0, .ref b), (1, .int x1), (2, .int v2), (3, .int v3)] [] σ (fn_X5_involvedIn_b50 n b x1 σ k4 v2 v3) := by
  unfold fn_X5_involvedIn_b50
  refine ev_iinc (pc := 50) (v := (v3 + 1)) (lv' := [(3, .int (v3 + 1)), (0, .ref b), (1, .int x1), (2, .int v2)]) 3 dX5_involvedIn_50 rfl rfl (Nat.le_of_ble_eq_true rfl) rfl ?_
  refine ev_goto (pc := 53) (tgt := 4) dX5_involvedIn_53 rfl ?_
  refine ev_sub [1, 2, 3, 0] rfl ?_
  exact hk4 v2 (v3 + 1)
def fn_X5_involvedIn_b4 (n : Nat) (b : Nat) (x1 : Int32) (σ : Sg)  : Nat → Int32 → Int32 → Option Int32
  | 0 => fun _ _ => none
  | i + 1 => fun v2 v3 =>
  (if (σ (b + 7) 0) ≤ v3 then (some v2)
  else (if ((x1 >>> (v3 &&& 31)) &&& 1) = 1 then (if ag_ib v3 13 = true then (if ag_ib v3 13 = true then (fn_X5_involvedIn_b50 n b x1 σ (fn_X5_involvedIn_b4 n b x1 σ i) (v2 ||| ((1 <<< ((σ (b + 8) v3.toNatClampNeg) &&& 31)) ||| (1 <<< ((σ (b + 9) v3.toNatClampNeg) &&& 31)))) v3) else none) else none)
  else (fn_X5_involvedIn_b50 n b x1 σ (fn_X5_involvedIn_b4 n b x1 σ i) v2 v3)))
theorem fn_X5_involvedIn_b4_s (n : Nat) (b : Nat) (x1 : Int32) (σ : Sg)  (i : Nat) (v2 : Int32) (v3 : Int32) : fn_X5_involvedIn_b4 n b x1 σ (i + 1) v2 v3 =
  (if (σ (b + 7) 0) ≤ v3 then (some v2)
  else (if ((x1 >>> (v3 &&& 31)) &&& 1) = 1 then (if ag_ib v3 13 = true then (if ag_ib v3 13 = true then (fn_X5_involvedIn_b50 n b x1 σ (fn_X5_involvedIn_b4 n b x1 σ i) (v2 ||| ((1 <<< ((σ (b + 8) v3.toNatClampNeg) &&& 31)) ||| (1 <<< ((σ (b + 9) v3.toNatClampNeg) &&& 31)))) v3) else none) else none)
  else (fn_X5_involvedIn_b50 n b x1 σ (fn_X5_involvedIn_b4 n b x1 σ i) v2 v3))) := rfl
set_option maxRecDepth 20000 in
set_option maxHeartbeats 4000000 in
theorem ev_X5_involvedIn_b4 (n : Nat) (b : Nat) (hb : ag_Y b) (x1 : Int32) (σ : Sg)  : ∀ (i : Nat) (v2 : Int32) (v3 : Int32), Ev mX5_involvedIn 0 0 (jI σ) 4 [(0, .ref b), (1, .int x1), (2, .int v2), (3, .int v3)] [] σ (fn_X5_involvedIn_b4 n b x1 σ i v2 v3) := by
  intro i
  induction i with
  | zero =>
    intro v2 v3
    exact ev_none
  | succ i ih =>
    intro v2 v3
    rw [fn_X5_involvedIn_b4_s]
    refine ev_iload_n (pc := 4) (i := 3) 3 dX5_involvedIn_4 rfl rfl ?_
    refine ev_aload_n (pc := 5) (i := 0) 0 dX5_involvedIn_5 rfl rfl ?_
    refine ev_getR (pc := 6) (t := (b + 7)) 1 ag_C5 (ag_Yk hb).1 (ag_Yk hb).2 (Nat.le_of_ble_eq_true rfl) (ag_Yt1 hb) rfl ag_fl_X5_21 dX5_involvedIn_6 ?_
    refine ev_getI (pc := 9) 0 ag_C2 (ag_Pk (ag_YP hb)).1 (ag_Pk (ag_YP hb)).2 (Nat.le_of_ble_eq_true rfl) (ag_Pt0 (ag_YP hb)) rfl ag_fl_X5_78 dX5_involvedIn_9 ?_
    refine ev_icmp_ge (pc := 12) (tgt := 56) dX5_involvedIn_12 rfl ?_ ?_
    · refine ev_iload_n (pc := 56) (i := 2) 2 dX5_involvedIn_56 rfl rfl ?_
      exact ev_iret (ty := .int) (fun r h => by cases h; rfl) rfl rfl dX5_involvedIn_57
    · refine ev_iload_n (pc := 15) (i := 1) 1 dX5_involvedIn_15 rfl rfl ?_
      refine ev_iload_n (pc := 16) (i := 3) 3 dX5_involvedIn_16 rfl rfl ?_
      refine ev_ishr (pc := 17) dX5_involvedIn_17 ?_
      refine ev_iconst (pc := 18) (v := 1) dX5_involvedIn_18 (by decide) ?_
      refine ev_iand (pc := 19) dX5_involvedIn_19 ?_
      refine ev_iconst (pc := 20) (v := 1) dX5_involvedIn_20 (by decide) ?_
      refine ev_icmp_ne (pc := 21) (tgt := 50) dX5_involvedIn_21 rfl ?_ ?_
      · refine ev_iload_n (pc := 24) (i := 2) 2 dX5_involvedIn_24 rfl rfl ?_
        refine ev_iconst (pc := 25) (v := 1) dX5_involvedIn_25 (by decide) ?_
        refine ev_aload_n (pc := 26) (i := 0) 0 dX5_involvedIn_26 rfl rfl ?_
        refine ev_getR (pc := 27) (t := (b + 7)) 1 ag_C5 (ag_Yk hb).1 (ag_Yk hb).2 (Nat.le_of_ble_eq_true rfl) (ag_Yt1 hb) rfl ag_fl_X5_21 dX5_involvedIn_27 ?_
        refine ev_getR (pc := 30) (t := (b + 8)) 1 ag_C2 (ag_Pk (ag_YP hb)).1 (ag_Pk (ag_YP hb)).2 (Nat.le_of_ble_eq_true rfl) (ag_Pt1 (ag_YP hb)) rfl ag_fl_X5_84 dX5_involvedIn_30 ?_
        refine ev_iload_n (pc := 33) (i := 3) 3 dX5_involvedIn_33 rfl rfl ?_
        refine ev_iald (pc := 34) (ag_Pa1 (ag_YP hb)).1 (ag_Pa1 (ag_YP hb)).2 dX5_involvedIn_34 ?_
        refine ev_ishl (pc := 35) dX5_involvedIn_35 ?_
        refine ev_iconst (pc := 36) (v := 1) dX5_involvedIn_36 (by decide) ?_
        refine ev_aload_n (pc := 37) (i := 0) 0 dX5_involvedIn_37 rfl rfl ?_
        refine ev_getR (pc := 38) (t := (b + 7)) 1 ag_C5 (ag_Yk hb).1 (ag_Yk hb).2 (Nat.le_of_ble_eq_true rfl) (ag_Yt1 hb) rfl ag_fl_X5_21 dX5_involvedIn_38 ?_
        refine ev_getR (pc := 41) (t := (b + 9)) 2 ag_C2 (ag_Pk (ag_YP hb)).1 (ag_Pk (ag_YP hb)).2 (Nat.le_of_ble_eq_true rfl) (ag_Pt2 (ag_YP hb)) rfl ag_fl_X5_101 dX5_involvedIn_41 ?_
        refine ev_iload_n (pc := 44) (i := 3) 3 dX5_involvedIn_44 rfl rfl ?_
        refine ev_iald (pc := 45) (ag_Pa2 (ag_YP hb)).1 (ag_Pa2 (ag_YP hb)).2 dX5_involvedIn_45 ?_
        refine ev_ishl (pc := 46) dX5_involvedIn_46 ?_
        refine ev_ior (pc := 47) dX5_involvedIn_47 ?_
        refine ev_ior (pc := 48) dX5_involvedIn_48 ?_
        refine ev_istore_n (pc := 49) (i := 2) (lv' := [(2, .int (v2 ||| ((1 <<< ((σ (b + 8) v3.toNatClampNeg) &&& 31)) ||| (1 <<< ((σ (b + 9) v3.toNatClampNeg) &&& 31))))), (0, .ref b), (1, .int x1), (3, .int v3)]) dX5_involvedIn_49 rfl (Nat.le_of_ble_eq_true rfl) rfl ?_
        refine ev_sub [1, 2, 0, 3] rfl ?_
        exact ev_X5_involvedIn_b50 n b hb x1 σ (fn_X5_involvedIn_b4 n b x1 σ i) ih (v2 ||| ((1 <<< ((σ (b + 8) v3.toNatClampNeg) &&& 31)) ||| (1 <<< ((σ (b + 9) v3.toNatClampNeg) &&& 31)))) v3
      · exact ev_X5_involvedIn_b50 n b hb x1 σ (fn_X5_involvedIn_b4 n b x1 σ i) ih v2 v3
def fn_X5_involvedIn (n : Nat) (b : Nat) (x1 : Int32) (σ : Sg) : Option Int32 :=
  (fn_X5_involvedIn_b4 n b x1 σ n 0 0)
set_option maxRecDepth 20000 in
set_option maxHeartbeats 4000000 in
theorem im_X5_involvedIn (n : Nat) (b : Nat) (hb : ag_Y b) (x1 : Int32) (σ : Sg) : Im yX5_involvedIn mX5_involvedIn 0 0 (jI σ) [.ref b, .int x1] σ (fn_X5_involvedIn n b x1 σ) := by
  refine Im.of (by decide +kernel) rfl (Nat.le_of_ble_eq_true rfl) ?_
  show Ev mX5_involvedIn 0 0 (jI σ) 0 [(0, .ref b), (1, .int x1)] [] σ (fn_X5_involvedIn n b x1 σ)
  unfold fn_X5_involvedIn
  refine ev_iconst (pc := 0) (v := 0) dX5_involvedIn_0 (by decide) ?_
  refine ev_istore_n (pc := 1) (i := 2) (lv' := [(2, .int 0), (0, .ref b), (1, .int x1)]) dX5_involvedIn_1 rfl (Nat.le_of_ble_eq_true rfl) rfl ?_
  refine ev_iconst (pc := 2) (v := 0) dX5_involvedIn_2 (by decide) ?_
  refine ev_istore_n (pc := 3) (i := 3) (lv' := [(3, .int 0), (2, .int 0), (0, .ref b), (1, .int x1)]) dX5_involvedIn_3 rfl (Nat.le_of_ble_eq_true rfl) rfl ?_
  refine ev_sub [2, 3, 1, 0] rfl ?_
  exact ev_X5_involvedIn_b4 n b hb x1 σ n 0 0
-- X5_couldWrite
def mX5_couldWrite : Md := (RX5, cX5_couldWrite, 4, some .boolean)
theorem mv_X5_couldWrite : ag_Mv yX5_couldWrite mX5_couldWrite 3 := ⟨ag_co_X5_couldWrite, ag_im_X5_couldWrite, ag_se_X5_couldWrite, ag_ini_X5, by decide +kernel⟩
theorem dX5_couldWrite_0 : decode mX5_couldWrite.2.1 0 = .ok (.aload_n 0, 1) := by decide +kernel
theorem dX5_couldWrite_1 : decode mX5_couldWrite.2.1 1 = .ok (.getfield 12, 3) := by decide +kernel
theorem dX5_couldWrite_4 : decode mX5_couldWrite.2.1 4 = .ok (.iload_n 1, 1) := by decide +kernel
theorem dX5_couldWrite_5 : decode mX5_couldWrite.2.1 5 = .ok (.iload_n 3, 1) := by decide +kernel
theorem dX5_couldWrite_6 : decode mX5_couldWrite.2.1 6 = .ok (.invokevirtual 87, 3) := by decide +kernel
theorem dX5_couldWrite_9 : decode mX5_couldWrite.2.1 9 = .ok (.ifCond .eq 16, 3) := by decide +kernel
theorem dX5_couldWrite_12 : decode mX5_couldWrite.2.1 12 = .ok (.aload_n 0, 1) := by decide +kernel
theorem dX5_couldWrite_13 : decode mX5_couldWrite.2.1 13 = .ok (.getfield 42, 3) := by decide +kernel
theorem dX5_couldWrite_16 : decode mX5_couldWrite.2.1 16 = .ok (.iload_n 1, 1) := by decide +kernel
theorem dX5_couldWrite_17 : decode mX5_couldWrite.2.1 17 = .ok (.iaload, 1) := by decide +kernel
theorem dX5_couldWrite_18 : decode mX5_couldWrite.2.1 18 = .ok (.iload_n 2, 1) := by decide +kernel
theorem dX5_couldWrite_19 : decode mX5_couldWrite.2.1 19 = .ok (.ishr, 1) := by decide +kernel
theorem dX5_couldWrite_20 : decode mX5_couldWrite.2.1 20 = .ok (.iconst 1, 1) := by decide +kernel
theorem dX5_couldWrite_21 : decode mX5_couldWrite.2.1 21 = .ok (.iand, 1) := by decide +kernel
theorem dX5_couldWrite_22 : decode mX5_couldWrite.2.1 22 = .ok (.ifCond .ne 5, 3) := by decide +kernel
theorem dX5_couldWrite_25 : decode mX5_couldWrite.2.1 25 = .ok (.iconst 0, 1) := by decide +kernel
theorem dX5_couldWrite_26 : decode mX5_couldWrite.2.1 26 = .ok (.ireturn, 1) := by decide +kernel
theorem dX5_couldWrite_27 : decode mX5_couldWrite.2.1 27 = .ok (.aload_n 0, 1) := by decide +kernel
theorem dX5_couldWrite_28 : decode mX5_couldWrite.2.1 28 = .ok (.getfield 12, 3) := by decide +kernel
theorem dX5_couldWrite_31 : decode mX5_couldWrite.2.1 31 = .ok (.getfield 58, 3) := by decide +kernel
theorem dX5_couldWrite_34 : decode mX5_couldWrite.2.1 34 = .ok (.iload_n 1, 1) := by decide +kernel
theorem dX5_couldWrite_35 : decode mX5_couldWrite.2.1 35 = .ok (.iaload, 1) := by decide +kernel
theorem dX5_couldWrite_36 : decode mX5_couldWrite.2.1 36 = .ok (.iload_n 2, 1) := by decide +kernel
theorem dX5_couldWrite_37 : decode mX5_couldWrite.2.1 37 = .ok (.ishr, 1) := by decide +kernel
theorem dX5_couldWrite_38 : decode mX5_couldWrite.2.1 38 = .ok (.iconst 1, 1) := by decide +kernel
theorem dX5_couldWrite_39 : decode mX5_couldWrite.2.1 39 = .ok (.iand, 1) := by decide +kernel
theorem dX5_couldWrite_40 : decode mX5_couldWrite.2.1 40 = .ok (.iconst 1, 1) := by decide +kernel
theorem dX5_couldWrite_41 : decode mX5_couldWrite.2.1 41 = .ok (.if_icmp .eq 18, 3) := by decide +kernel
theorem dX5_couldWrite_44 : decode mX5_couldWrite.2.1 44 = .ok (.aload_n 0, 1) := by decide +kernel
theorem dX5_couldWrite_45 : decode mX5_couldWrite.2.1 45 = .ok (.getfield 45, 3) := by decide +kernel
theorem dX5_couldWrite_48 : decode mX5_couldWrite.2.1 48 = .ok (.iload_n 1, 1) := by decide +kernel
theorem dX5_couldWrite_49 : decode mX5_couldWrite.2.1 49 = .ok (.bipush 8, 2) := by decide +kernel
theorem dX5_couldWrite_51 : decode mX5_couldWrite.2.1 51 = .ok (.imul, 1) := by decide +kernel
theorem dX5_couldWrite_52 : decode mX5_couldWrite.2.1 52 = .ok (.iload_n 2, 1) := by decide +kernel
theorem dX5_couldWrite_53 : decode mX5_couldWrite.2.1 53 = .ok (.iadd, 1) := by decide +kernel
theorem dX5_couldWrite_54 : decode mX5_couldWrite.2.1 54 = .ok (.iaload, 1) := by decide +kernel
theorem dX5_couldWrite_55 : decode mX5_couldWrite.2.1 55 = .ok (.iload_n 3, 1) := by decide +kernel
theorem dX5_couldWrite_56 : decode mX5_couldWrite.2.1 56 = .ok (.if_icmp .ge 7, 3) := by decide +kernel
theorem dX5_couldWrite_59 : decode mX5_couldWrite.2.1 59 = .ok (.iconst 1, 1) := by decide +kernel
theorem dX5_couldWrite_60 : decode mX5_couldWrite.2.1 60 = .ok (.goto 4, 3) := by decide +kernel
theorem dX5_couldWrite_63 : decode mX5_couldWrite.2.1 63 = .ok (.iconst 0, 1) := by decide +kernel
theorem dX5_couldWrite_64 : decode mX5_couldWrite.2.1 64 = .ok (.ireturn, 1) := by decide +kernel
def fn_X5_couldWrite_b59 (b : Nat) (x1 : Int32) (x2 : Int32) (x3 : Int32) (σ : Sg)   : Option Int32 :=
  (some 1)
set_option maxRecDepth 20000 in
set_option maxHeartbeats 4000000 in
theorem ev_X5_couldWrite_b59 (b : Nat) (hb : ag_Y b) (x1 : Int32) (x2 : Int32) (x3 : Int32) (σ : Sg)   : Ev mX5_couldWrite 1 22 (jI σ) 59 [(0, .ref b), (1, .int x1), (2, .int x2), (3, .int x3)] [] σ (fn_X5_couldWrite_b59 b x1 x2 x3 σ ) := by
  unfold fn_X5_couldWrite_b59
  refine ev_iconst (pc := 59) (v := 1) dX5_couldWrite_59 (by decide) ?_
  refine ev_goto (pc := 60) (tgt := 64) dX5_couldWrite_60 rfl ?_
  exact ev_iret (ty := .boolean) (fun r h => by cases h; rfl) rfl rfl dX5_couldWrite_64
def fn_X5_couldWrite (b : Nat) (x1 : Int32) (x2 : Int32) (x3 : Int32) (σ : Sg) : Option Int32 :=
  (Option.bind (fn_X1_lives (b + 1) x1 x3 σ) fun q28 =>
  (if q28 = 0 then (some 0)
  else (if ag_ib x1 10 = true then (if (((σ (b + 15) x1.toNatClampNeg) >>> (x2 &&& 31)) &&& 1) = 0 then (some 0)
  else (if ag_ib x1 10 = true then (if (((σ (b + 6) x1.toNatClampNeg) >>> (x2 &&& 31)) &&& 1) = 1 then (fn_X5_couldWrite_b59 b x1 x2 x3 σ )
  else (if ag_ib ((x1 * 8) + x2) 80 = true then (if x3 ≤ (σ (b + 16) ((x1 * 8) + x2).toNatClampNeg) then (some 0)
  else (fn_X5_couldWrite_b59 b x1 x2 x3 σ )) else none)) else none)) else none)))
set_option maxRecDepth 20000 in
set_option maxHeartbeats 4000000 in
theorem im_X5_couldWrite (b : Nat) (hb : ag_Y b) (x1 : Int32) (x2 : Int32) (x3 : Int32) (σ : Sg) : Im yX5_couldWrite mX5_couldWrite 1 22 (jI σ) [.ref b, .int x1, .int x2, .int x3] σ (fn_X5_couldWrite b x1 x2 x3 σ) := by
  refine Im.of (by decide +kernel) rfl (Nat.le_of_ble_eq_true rfl) ?_
  show Ev mX5_couldWrite 1 22 (jI σ) 0 [(0, .ref b), (1, .int x1), (2, .int x2), (3, .int x3)] [] σ (fn_X5_couldWrite b x1 x2 x3 σ)
  unfold fn_X5_couldWrite
  refine ev_aload_n (pc := 0) (i := 0) 0 dX5_couldWrite_0 rfl rfl ?_
  refine ev_getR (pc := 1) (t := (b + 1)) 0 ag_C5 (ag_Yk hb).1 (ag_Yk hb).2 (Nat.le_of_ble_eq_true rfl) (ag_Yt0 hb) rfl ag_fl_X5_12 dX5_couldWrite_1 ?_
  refine ev_iload_n (pc := 4) (i := 1) 1 dX5_couldWrite_4 rfl rfl ?_
  refine ev_iload_n (pc := 5) (i := 3) 3 dX5_couldWrite_5 rfl rfl ?_
  refine ev_vI (pc := 6) (as := [.int x1, .int x3]) (rest := []) ⟨1, 87, 6, TX1, tyX1, ag_C1, ⟨(ag_Fk (ag_YF hb)).1, (ag_Fk (ag_YF hb)).2⟩, mv_X1_lives, ag_ml_X5_87, rfl, (Nat.le_of_ble_eq_true rfl), ⟨(Nat.le_of_ble_eq_true rfl), (Nat.le_of_ble_eq_true rfl)⟩, dX5_couldWrite_6⟩ (im_X1_lives (b + 1) (ag_YF hb) x1 x3 σ) (fun q28 => ?_)
  refine ev_if_eq (pc := 9) (tgt := 25) dX5_couldWrite_9 rfl ?_ ?_
  · refine ev_iconst (pc := 25) (v := 0) dX5_couldWrite_25 (by decide) ?_
    exact ev_iret (ty := .boolean) (fun r h => by cases h; rfl) rfl rfl dX5_couldWrite_26
  · refine ev_aload_n (pc := 12) (i := 0) 0 dX5_couldWrite_12 rfl rfl ?_
    refine ev_getR (pc := 13) (t := (b + 15)) 7 ag_C5 (ag_Yk hb).1 (ag_Yk hb).2 (Nat.le_of_ble_eq_true rfl) (ag_Yt7 hb) rfl ag_fl_X5_42 dX5_couldWrite_13 ?_
    refine ev_iload_n (pc := 16) (i := 1) 1 dX5_couldWrite_16 rfl rfl ?_
    refine ev_iald (pc := 17) (ag_Ya15 hb).1 (ag_Ya15 hb).2 dX5_couldWrite_17 ?_
    refine ev_iload_n (pc := 18) (i := 2) 2 dX5_couldWrite_18 rfl rfl ?_
    refine ev_ishr (pc := 19) dX5_couldWrite_19 ?_
    refine ev_iconst (pc := 20) (v := 1) dX5_couldWrite_20 (by decide) ?_
    refine ev_iand (pc := 21) dX5_couldWrite_21 ?_
    refine ev_if_ne (pc := 22) (tgt := 27) dX5_couldWrite_22 rfl ?_ ?_
    · refine ev_iconst (pc := 25) (v := 0) dX5_couldWrite_25 (by decide) ?_
      exact ev_iret (ty := .boolean) (fun r h => by cases h; rfl) rfl rfl dX5_couldWrite_26
    · refine ev_aload_n (pc := 27) (i := 0) 0 dX5_couldWrite_27 rfl rfl ?_
      refine ev_getR (pc := 28) (t := (b + 1)) 0 ag_C5 (ag_Yk hb).1 (ag_Yk hb).2 (Nat.le_of_ble_eq_true rfl) (ag_Yt0 hb) rfl ag_fl_X5_12 dX5_couldWrite_28 ?_
      refine ev_getR (pc := 31) (t := (b + 6)) 5 ag_C1 (ag_Fk (ag_YF hb)).1 (ag_Fk (ag_YF hb)).2 (Nat.le_of_ble_eq_true rfl) (ag_Ft5 (ag_YF hb)) rfl ag_fl_X5_58 dX5_couldWrite_31 ?_
      refine ev_iload_n (pc := 34) (i := 1) 1 dX5_couldWrite_34 rfl rfl ?_
      refine ev_iald (pc := 35) (ag_Fa5 (ag_YF hb)).1 (ag_Fa5 (ag_YF hb)).2 dX5_couldWrite_35 ?_
      refine ev_iload_n (pc := 36) (i := 2) 2 dX5_couldWrite_36 rfl rfl ?_
      refine ev_ishr (pc := 37) dX5_couldWrite_37 ?_
      refine ev_iconst (pc := 38) (v := 1) dX5_couldWrite_38 (by decide) ?_
      refine ev_iand (pc := 39) dX5_couldWrite_39 ?_
      refine ev_iconst (pc := 40) (v := 1) dX5_couldWrite_40 (by decide) ?_
      refine ev_icmp_eq (pc := 41) (tgt := 59) dX5_couldWrite_41 rfl ?_ ?_
      · exact ev_X5_couldWrite_b59 b hb x1 x2 x3 σ 
      · refine ev_aload_n (pc := 44) (i := 0) 0 dX5_couldWrite_44 rfl rfl ?_
        refine ev_getR (pc := 45) (t := (b + 16)) 8 ag_C5 (ag_Yk hb).1 (ag_Yk hb).2 (Nat.le_of_ble_eq_true rfl) (ag_Yt8 hb) rfl ag_fl_X5_45 dX5_couldWrite_45 ?_
        refine ev_iload_n (pc := 48) (i := 1) 1 dX5_couldWrite_48 rfl rfl ?_
        refine ev_bipush (pc := 49) (v := 8) dX5_couldWrite_49 (by decide) ?_
        refine ev_imul (pc := 51) dX5_couldWrite_51 ?_
        refine ev_iload_n (pc := 52) (i := 2) 2 dX5_couldWrite_52 rfl rfl ?_
        refine ev_iadd (pc := 53) dX5_couldWrite_53 ?_
        refine ev_iald (pc := 54) (ag_Ya16 hb).1 (ag_Ya16 hb).2 dX5_couldWrite_54 ?_
        refine ev_iload_n (pc := 55) (i := 3) 3 dX5_couldWrite_55 rfl rfl ?_
        refine ev_icmp_ge (pc := 56) (tgt := 63) dX5_couldWrite_56 rfl ?_ ?_
        · refine ev_iconst (pc := 63) (v := 0) dX5_couldWrite_63 (by decide) ?_
          exact ev_iret (ty := .boolean) (fun r h => by cases h; rfl) rfl rfl dX5_couldWrite_64
        · exact ev_X5_couldWrite_b59 b hb x1 x2 x3 σ 
-- X5_openingYear
def mX5_openingYear : Md := (RX5, cX5_openingYear, 2, some .int)
theorem mv_X5_openingYear : ag_Mv yX5_openingYear mX5_openingYear 1 := ⟨ag_co_X5_openingYear, ag_im_X5_openingYear, ag_se_X5_openingYear, ag_ini_X5, by decide +kernel⟩
theorem dX5_openingYear_0 : decode mX5_openingYear.2.1 0 = .ok (.aload_n 0, 1) := by decide +kernel
theorem dX5_openingYear_1 : decode mX5_openingYear.2.1 1 = .ok (.getfield 32, 3) := by decide +kernel
theorem dX5_openingYear_4 : decode mX5_openingYear.2.1 4 = .ok (.iload_n 1, 1) := by decide +kernel
theorem dX5_openingYear_5 : decode mX5_openingYear.2.1 5 = .ok (.ishr, 1) := by decide +kernel
theorem dX5_openingYear_6 : decode mX5_openingYear.2.1 6 = .ok (.iconst 1, 1) := by decide +kernel
theorem dX5_openingYear_7 : decode mX5_openingYear.2.1 7 = .ok (.iand, 1) := by decide +kernel
theorem dX5_openingYear_8 : decode mX5_openingYear.2.1 8 = .ok (.iconst 1, 1) := by decide +kernel
theorem dX5_openingYear_9 : decode mX5_openingYear.2.1 9 = .ok (.if_icmp .ne 12, 3) := by decide +kernel
theorem dX5_openingYear_12 : decode mX5_openingYear.2.1 12 = .ok (.aload_n 0, 1) := by decide +kernel
theorem dX5_openingYear_13 : decode mX5_openingYear.2.1 13 = .ok (.getfield 35, 3) := by decide +kernel
theorem dX5_openingYear_16 : decode mX5_openingYear.2.1 16 = .ok (.iload_n 1, 1) := by decide +kernel
theorem dX5_openingYear_17 : decode mX5_openingYear.2.1 17 = .ok (.iaload, 1) := by decide +kernel
theorem dX5_openingYear_18 : decode mX5_openingYear.2.1 18 = .ok (.goto 4, 3) := by decide +kernel
theorem dX5_openingYear_21 : decode mX5_openingYear.2.1 21 = .ok (.iconst (-1), 1) := by decide +kernel
theorem dX5_openingYear_22 : decode mX5_openingYear.2.1 22 = .ok (.ireturn, 1) := by decide +kernel
def fn_X5_openingYear (b : Nat) (x1 : Int32) (σ : Sg) : Option Int32 :=
  (if (((σ b 4) >>> (x1 &&& 31)) &&& 1) = 1 then (if ag_ib x1 13 = true then (some (σ (b + 13) x1.toNatClampNeg)) else none)
  else (some (-1)))
set_option maxRecDepth 20000 in
set_option maxHeartbeats 4000000 in
theorem im_X5_openingYear (b : Nat) (hb : ag_Y b) (x1 : Int32) (σ : Sg) : Im yX5_openingYear mX5_openingYear 0 0 (jI σ) [.ref b, .int x1] σ (fn_X5_openingYear b x1 σ) := by
  refine Im.of (by decide +kernel) rfl (Nat.le_of_ble_eq_true rfl) ?_
  show Ev mX5_openingYear 0 0 (jI σ) 0 [(0, .ref b), (1, .int x1)] [] σ (fn_X5_openingYear b x1 σ)
  unfold fn_X5_openingYear
  refine ev_aload_n (pc := 0) (i := 0) 0 dX5_openingYear_0 rfl rfl ?_
  refine ev_getI (pc := 1) 4 ag_C5 (ag_Yk hb).1 (ag_Yk hb).2 (Nat.le_of_ble_eq_true rfl) (ag_Yt4 hb) rfl ag_fl_X5_32 dX5_openingYear_1 ?_
  refine ev_iload_n (pc := 4) (i := 1) 1 dX5_openingYear_4 rfl rfl ?_
  refine ev_ishr (pc := 5) dX5_openingYear_5 ?_
  refine ev_iconst (pc := 6) (v := 1) dX5_openingYear_6 (by decide) ?_
  refine ev_iand (pc := 7) dX5_openingYear_7 ?_
  refine ev_iconst (pc := 8) (v := 1) dX5_openingYear_8 (by decide) ?_
  refine ev_icmp_ne (pc := 9) (tgt := 21) dX5_openingYear_9 rfl ?_ ?_
  · refine ev_aload_n (pc := 12) (i := 0) 0 dX5_openingYear_12 rfl rfl ?_
    refine ev_getR (pc := 13) (t := (b + 13)) 5 ag_C5 (ag_Yk hb).1 (ag_Yk hb).2 (Nat.le_of_ble_eq_true rfl) (ag_Yt5 hb) rfl ag_fl_X5_35 dX5_openingYear_13 ?_
    refine ev_iload_n (pc := 16) (i := 1) 1 dX5_openingYear_16 rfl rfl ?_
    refine ev_iald (pc := 17) (ag_Ya13 hb).1 (ag_Ya13 hb).2 dX5_openingYear_17 ?_
    refine ev_goto (pc := 18) (tgt := 22) dX5_openingYear_18 rfl ?_
    exact ev_iret (ty := .int) (fun r h => by cases h; rfl) rfl rfl dX5_openingYear_22
  · refine ev_iconst (pc := 21) (v := (-1)) dX5_openingYear_21 (by decide) ?_
    exact ev_iret (ty := .int) (fun r h => by cases h; rfl) rfl rfl dX5_openingYear_22
-- X5_wordsBehind
def mX5_wordsBehind : Md := (RX5, cX5_wordsBehind, 5, some .int)
theorem mv_X5_wordsBehind : ag_Mv yX5_wordsBehind mX5_wordsBehind 2 := ⟨ag_co_X5_wordsBehind, ag_im_X5_wordsBehind, ag_se_X5_wordsBehind, ag_ini_X5, by decide +kernel⟩
theorem dX5_wordsBehind_0 : decode mX5_wordsBehind.2.1 0 = .ok (.iconst 0, 1) := by decide +kernel
theorem dX5_wordsBehind_1 : decode mX5_wordsBehind.2.1 1 = .ok (.istore_n 3, 1) := by decide +kernel
theorem dX5_wordsBehind_2 : decode mX5_wordsBehind.2.1 2 = .ok (.iconst 0, 1) := by decide +kernel
theorem dX5_wordsBehind_3 : decode mX5_wordsBehind.2.1 3 = .ok (.istore 4, 2) := by decide +kernel
theorem dX5_wordsBehind_5 : decode mX5_wordsBehind.2.1 5 = .ok (.iload 4, 2) := by decide +kernel
theorem dX5_wordsBehind_7 : decode mX5_wordsBehind.2.1 7 = .ok (.bipush 8, 2) := by decide +kernel
theorem dX5_wordsBehind_9 : decode mX5_wordsBehind.2.1 9 = .ok (.if_icmp .ge 27, 3) := by decide +kernel
theorem dX5_wordsBehind_12 : decode mX5_wordsBehind.2.1 12 = .ok (.aload_n 0, 1) := by decide +kernel
theorem dX5_wordsBehind_13 : decode mX5_wordsBehind.2.1 13 = .ok (.iload_n 2, 1) := by decide +kernel
theorem dX5_wordsBehind_14 : decode mX5_wordsBehind.2.1 14 = .ok (.iload 4, 2) := by decide +kernel
theorem dX5_wordsBehind_16 : decode mX5_wordsBehind.2.1 16 = .ok (.iload_n 1, 1) := by decide +kernel
theorem dX5_wordsBehind_17 : decode mX5_wordsBehind.2.1 17 = .ok (.invokevirtual 160, 3) := by decide +kernel
theorem dX5_wordsBehind_20 : decode mX5_wordsBehind.2.1 20 = .ok (.ifCond .eq 10, 3) := by decide +kernel
theorem dX5_wordsBehind_23 : decode mX5_wordsBehind.2.1 23 = .ok (.iload_n 3, 1) := by decide +kernel
theorem dX5_wordsBehind_24 : decode mX5_wordsBehind.2.1 24 = .ok (.iconst 1, 1) := by decide +kernel
theorem dX5_wordsBehind_25 : decode mX5_wordsBehind.2.1 25 = .ok (.iload 4, 2) := by decide +kernel
theorem dX5_wordsBehind_27 : decode mX5_wordsBehind.2.1 27 = .ok (.ishl, 1) := by decide +kernel
theorem dX5_wordsBehind_28 : decode mX5_wordsBehind.2.1 28 = .ok (.ior, 1) := by decide +kernel
theorem dX5_wordsBehind_29 : decode mX5_wordsBehind.2.1 29 = .ok (.istore_n 3, 1) := by decide +kernel
theorem dX5_wordsBehind_30 : decode mX5_wordsBehind.2.1 30 = .ok (.iinc 4 1, 3) := by decide +kernel
theorem dX5_wordsBehind_33 : decode mX5_wordsBehind.2.1 33 = .ok (.goto (-28), 3) := by decide +kernel
theorem dX5_wordsBehind_36 : decode mX5_wordsBehind.2.1 36 = .ok (.iload_n 3, 1) := by decide +kernel
theorem dX5_wordsBehind_37 : decode mX5_wordsBehind.2.1 37 = .ok (.ireturn, 1) := by decide +kernel
def fn_X5_wordsBehind_b30 (n : Nat) (b : Nat) (x1 : Int32) (x2 : Int32) (σ : Sg) (k5 : Int32 → Int32 → Option Int32) (v3 : Int32) (v4 : Int32) : Option Int32 :=
  (k5 v3 (v4 + 1))
set_option maxRecDepth 20000 in
set_option maxHeartbeats 4000000 in
theorem ev_X5_wordsBehind_b30 (n : Nat) (b : Nat) (hb : ag_Y b) (x1 : Int32) (x2 : Int32) (σ : Sg) (k5 : Int32 → Int32 → Option Int32) (hk5 : ∀ (v3 : Int32) (v4 : Int32), Ev mX5_wordsBehind 2 46 (jI σ) 5 [(0, .ref b), (1, .int x1), (2, .int x2), (3, .int v3), (4, .int v4)] [] σ (k5 v3 v4)) (v3 : Int32) (v4 : Int32) : Ev mX5_wordsBehind 2 46 (jI σ) 30 [(0, .ref b), (1, .int x1), (2, .int x2), (3, .int v3), (4, .int v4)] [] σ (fn_X5_wordsBehind_b30 n b x1 x2 σ k5 v3 v4) := by
  unfold fn_X5_wordsBehind_b30
  refine ev_iinc (pc := 30) (v := (v4 + 1)) (lv' := [(4, .int (v4 + 1)), (0, .ref b), (1, .int x1), (2, .int x2), (3, .int v3)]) 4 dX5_wordsBehind_30 rfl rfl (Nat.le_of_ble_eq_true rfl) rfl ?_
  refine ev_goto (pc := 33) (tgt := 5) dX5_wordsBehind_33 rfl ?_
  refine ev_sub [1, 2, 3, 4, 0] rfl ?_
  exact hk5 v3 (v4 + 1)
def fn_X5_wordsBehind_b5 (n : Nat) (b : Nat) (x1 : Int32) (x2 : Int32) (σ : Sg)  : Nat → Int32 → Int32 → Option Int32
  | 0 => fun _ _ => none
  | i + 1 => fun v3 v4 =>
  (if 8 ≤ v4 then (some v3)
  else (Option.bind (fn_X5_knew b x2 v4 x1 σ) fun q29 =>
  (if q29 = 0 then (fn_X5_wordsBehind_b30 n b x1 x2 σ (fn_X5_wordsBehind_b5 n b x1 x2 σ i) v3 v4)
  else (fn_X5_wordsBehind_b30 n b x1 x2 σ (fn_X5_wordsBehind_b5 n b x1 x2 σ i) (v3 ||| (1 <<< (v4 &&& 31))) v4))))
theorem fn_X5_wordsBehind_b5_s (n : Nat) (b : Nat) (x1 : Int32) (x2 : Int32) (σ : Sg)  (i : Nat) (v3 : Int32) (v4 : Int32) : fn_X5_wordsBehind_b5 n b x1 x2 σ (i + 1) v3 v4 =
  (if 8 ≤ v4 then (some v3)
  else (Option.bind (fn_X5_knew b x2 v4 x1 σ) fun q29 =>
  (if q29 = 0 then (fn_X5_wordsBehind_b30 n b x1 x2 σ (fn_X5_wordsBehind_b5 n b x1 x2 σ i) v3 v4)
  else (fn_X5_wordsBehind_b30 n b x1 x2 σ (fn_X5_wordsBehind_b5 n b x1 x2 σ i) (v3 ||| (1 <<< (v4 &&& 31))) v4)))) := rfl
set_option maxRecDepth 20000 in
set_option maxHeartbeats 4000000 in
theorem ev_X5_wordsBehind_b5 (n : Nat) (b : Nat) (hb : ag_Y b) (x1 : Int32) (x2 : Int32) (σ : Sg)  : ∀ (i : Nat) (v3 : Int32) (v4 : Int32), Ev mX5_wordsBehind 2 46 (jI σ) 5 [(0, .ref b), (1, .int x1), (2, .int x2), (3, .int v3), (4, .int v4)] [] σ (fn_X5_wordsBehind_b5 n b x1 x2 σ i v3 v4) := by
  intro i
  induction i with
  | zero =>
    intro v3 v4
    exact ev_none
  | succ i ih =>
    intro v3 v4
    rw [fn_X5_wordsBehind_b5_s]
    refine ev_iload (pc := 5) 4 dX5_wordsBehind_5 rfl ?_
    refine ev_bipush (pc := 7) (v := 8) dX5_wordsBehind_7 (by decide) ?_
    refine ev_icmp_ge (pc := 9) (tgt := 36) dX5_wordsBehind_9 rfl ?_ ?_
    · refine ev_iload_n (pc := 36) (i := 3) 3 dX5_wordsBehind_36 rfl rfl ?_
      exact ev_iret (ty := .int) (fun r h => by cases h; rfl) rfl rfl dX5_wordsBehind_37
    · refine ev_aload_n (pc := 12) (i := 0) 0 dX5_wordsBehind_12 rfl rfl ?_
      refine ev_iload_n (pc := 13) (i := 2) 2 dX5_wordsBehind_13 rfl rfl ?_
      refine ev_iload (pc := 14) 4 dX5_wordsBehind_14 rfl ?_
      refine ev_iload_n (pc := 16) (i := 1) 1 dX5_wordsBehind_16 rfl rfl ?_
      refine ev_vI (pc := 17) (as := [.int x2, .int v4, .int x1]) (rest := []) ⟨5, 160, 10, TX5, tyX5, ag_C5, ⟨(ag_Yk hb).1, (ag_Yk hb).2⟩, mv_X5_knew, ag_ml_X5_160, rfl, (Nat.le_of_ble_eq_true rfl), ⟨(Nat.le_of_ble_eq_true rfl), (Nat.le_of_ble_eq_true rfl)⟩, dX5_wordsBehind_17⟩ (im_X5_knew b hb x2 v4 x1 σ) (fun q29 => ?_)
      refine ev_if_eq (pc := 20) (tgt := 30) dX5_wordsBehind_20 rfl ?_ ?_
      · exact ev_X5_wordsBehind_b30 n b hb x1 x2 σ (fn_X5_wordsBehind_b5 n b x1 x2 σ i) ih v3 v4
      · refine ev_iload_n (pc := 23) (i := 3) 3 dX5_wordsBehind_23 rfl rfl ?_
        refine ev_iconst (pc := 24) (v := 1) dX5_wordsBehind_24 (by decide) ?_
        refine ev_iload (pc := 25) 4 dX5_wordsBehind_25 rfl ?_
        refine ev_ishl (pc := 27) dX5_wordsBehind_27 ?_
        refine ev_ior (pc := 28) dX5_wordsBehind_28 ?_
        refine ev_istore_n (pc := 29) (i := 3) (lv' := [(3, .int (v3 ||| (1 <<< (v4 &&& 31)))), (0, .ref b), (1, .int x1), (2, .int x2), (4, .int v4)]) dX5_wordsBehind_29 rfl (Nat.le_of_ble_eq_true rfl) rfl ?_
        refine ev_sub [1, 2, 3, 0, 4] rfl ?_
        exact ev_X5_wordsBehind_b30 n b hb x1 x2 σ (fn_X5_wordsBehind_b5 n b x1 x2 σ i) ih (v3 ||| (1 <<< (v4 &&& 31))) v4
def fn_X5_wordsBehind (n : Nat) (b : Nat) (x1 : Int32) (x2 : Int32) (σ : Sg) : Option Int32 :=
  (fn_X5_wordsBehind_b5 n b x1 x2 σ n 0 0)
set_option maxRecDepth 20000 in
set_option maxHeartbeats 4000000 in
theorem im_X5_wordsBehind (n : Nat) (b : Nat) (hb : ag_Y b) (x1 : Int32) (x2 : Int32) (σ : Sg) : Im yX5_wordsBehind mX5_wordsBehind 2 46 (jI σ) [.ref b, .int x1, .int x2] σ (fn_X5_wordsBehind n b x1 x2 σ) := by
  refine Im.of (by decide +kernel) rfl (Nat.le_of_ble_eq_true rfl) ?_
  show Ev mX5_wordsBehind 2 46 (jI σ) 0 [(0, .ref b), (1, .int x1), (2, .int x2)] [] σ (fn_X5_wordsBehind n b x1 x2 σ)
  unfold fn_X5_wordsBehind
  refine ev_iconst (pc := 0) (v := 0) dX5_wordsBehind_0 (by decide) ?_
  refine ev_istore_n (pc := 1) (i := 3) (lv' := [(3, .int 0), (0, .ref b), (1, .int x1), (2, .int x2)]) dX5_wordsBehind_1 rfl (Nat.le_of_ble_eq_true rfl) rfl ?_
  refine ev_iconst (pc := 2) (v := 0) dX5_wordsBehind_2 (by decide) ?_
  refine ev_istore (pc := 3) (lv' := [(4, .int 0), (3, .int 0), (0, .ref b), (1, .int x1), (2, .int x2)]) dX5_wordsBehind_3 (Nat.le_of_ble_eq_true rfl) rfl ?_
  refine ev_sub [2, 3, 4, 1, 0] rfl ?_
  exact ev_X5_wordsBehind_b5 n b hb x1 x2 σ n 0 0
-- X5_openedBehind
def mX5_openedBehind : Md := (RX5, cX5_openedBehind, 4, some .int)
theorem mv_X5_openedBehind : ag_Mv yX5_openedBehind mX5_openedBehind 1 := ⟨ag_co_X5_openedBehind, ag_im_X5_openedBehind, ag_se_X5_openedBehind, ag_ini_X5, by decide +kernel⟩
theorem dX5_openedBehind_0 : decode mX5_openedBehind.2.1 0 = .ok (.iconst 0, 1) := by decide +kernel
theorem dX5_openedBehind_1 : decode mX5_openedBehind.2.1 1 = .ok (.istore_n 2, 1) := by decide +kernel
theorem dX5_openedBehind_2 : decode mX5_openedBehind.2.1 2 = .ok (.iconst 0, 1) := by decide +kernel
theorem dX5_openedBehind_3 : decode mX5_openedBehind.2.1 3 = .ok (.istore_n 3, 1) := by decide +kernel
theorem dX5_openedBehind_4 : decode mX5_openedBehind.2.1 4 = .ok (.iload_n 3, 1) := by decide +kernel
theorem dX5_openedBehind_5 : decode mX5_openedBehind.2.1 5 = .ok (.aload_n 0, 1) := by decide +kernel
theorem dX5_openedBehind_6 : decode mX5_openedBehind.2.1 6 = .ok (.getfield 21, 3) := by decide +kernel
theorem dX5_openedBehind_9 : decode mX5_openedBehind.2.1 9 = .ok (.getfield 78, 3) := by decide +kernel
theorem dX5_openedBehind_12 : decode mX5_openedBehind.2.1 12 = .ok (.if_icmp .ge 37, 3) := by decide +kernel
theorem dX5_openedBehind_15 : decode mX5_openedBehind.2.1 15 = .ok (.aload_n 0, 1) := by decide +kernel
theorem dX5_openedBehind_16 : decode mX5_openedBehind.2.1 16 = .ok (.getfield 32, 3) := by decide +kernel
theorem dX5_openedBehind_19 : decode mX5_openedBehind.2.1 19 = .ok (.iload_n 3, 1) := by decide +kernel
theorem dX5_openedBehind_20 : decode mX5_openedBehind.2.1 20 = .ok (.ishr, 1) := by decide +kernel
theorem dX5_openedBehind_21 : decode mX5_openedBehind.2.1 21 = .ok (.iconst 1, 1) := by decide +kernel
theorem dX5_openedBehind_22 : decode mX5_openedBehind.2.1 22 = .ok (.iand, 1) := by decide +kernel
theorem dX5_openedBehind_23 : decode mX5_openedBehind.2.1 23 = .ok (.iconst 1, 1) := by decide +kernel
theorem dX5_openedBehind_24 : decode mX5_openedBehind.2.1 24 = .ok (.if_icmp .ne 19, 3) := by decide +kernel
theorem dX5_openedBehind_27 : decode mX5_openedBehind.2.1 27 = .ok (.aload_n 0, 1) := by decide +kernel
theorem dX5_openedBehind_28 : decode mX5_openedBehind.2.1 28 = .ok (.getfield 35, 3) := by decide +kernel
theorem dX5_openedBehind_31 : decode mX5_openedBehind.2.1 31 = .ok (.iload_n 3, 1) := by decide +kernel
theorem dX5_openedBehind_32 : decode mX5_openedBehind.2.1 32 = .ok (.iaload, 1) := by decide +kernel
theorem dX5_openedBehind_33 : decode mX5_openedBehind.2.1 33 = .ok (.iload_n 1, 1) := by decide +kernel
theorem dX5_openedBehind_34 : decode mX5_openedBehind.2.1 34 = .ok (.if_icmp .gt 9, 3) := by decide +kernel
theorem dX5_openedBehind_37 : decode mX5_openedBehind.2.1 37 = .ok (.iload_n 2, 1) := by decide +kernel
theorem dX5_openedBehind_38 : decode mX5_openedBehind.2.1 38 = .ok (.iconst 1, 1) := by decide +kernel
theorem dX5_openedBehind_39 : decode mX5_openedBehind.2.1 39 = .ok (.iload_n 3, 1) := by decide +kernel
theorem dX5_openedBehind_40 : decode mX5_openedBehind.2.1 40 = .ok (.ishl, 1) := by decide +kernel
theorem dX5_openedBehind_41 : decode mX5_openedBehind.2.1 41 = .ok (.ior, 1) := by decide +kernel
theorem dX5_openedBehind_42 : decode mX5_openedBehind.2.1 42 = .ok (.istore_n 2, 1) := by decide +kernel
theorem dX5_openedBehind_43 : decode mX5_openedBehind.2.1 43 = .ok (.iinc 3 1, 3) := by decide +kernel
theorem dX5_openedBehind_46 : decode mX5_openedBehind.2.1 46 = .ok (.goto (-42), 3) := by decide +kernel
theorem dX5_openedBehind_49 : decode mX5_openedBehind.2.1 49 = .ok (.iload_n 2, 1) := by decide +kernel
theorem dX5_openedBehind_50 : decode mX5_openedBehind.2.1 50 = .ok (.ireturn, 1) := by decide +kernel
def fn_X5_openedBehind_b43 (n : Nat) (b : Nat) (x1 : Int32) (σ : Sg) (k4 : Int32 → Int32 → Option Int32) (v2 : Int32) (v3 : Int32) : Option Int32 :=
  (k4 v2 (v3 + 1))
set_option maxRecDepth 20000 in
set_option maxHeartbeats 4000000 in
theorem ev_X5_openedBehind_b43 (n : Nat) (b : Nat) (hb : ag_Y b) (x1 : Int32) (σ : Sg) (k4 : Int32 → Int32 → Option Int32) (hk4 : ∀ (v2 : Int32) (v3 : Int32), Ev mX5_openedBehind 0 0 (jI σ) 4 [(0, .ref b), (1, .int x1), (2, .int v2), (3, .int v3)] [] σ (k4 v2 v3)) (v2 : Int32) (v3 : Int32) : Ev mX5_openedBehind 0 0 (jI σ) 43 [(0, .ref b), (1, .int x1), (2, .int v2), (3, .int v3)] [] σ (fn_X5_openedBehind_b43 n b x1 σ k4 v2 v3) := by
  unfold fn_X5_openedBehind_b43
  refine ev_iinc (pc := 43) (v := (v3 + 1)) (lv' := [(3, .int (v3 + 1)), (0, .ref b), (1, .int x1), (2, .int v2)]) 3 dX5_openedBehind_43 rfl rfl (Nat.le_of_ble_eq_true rfl) rfl ?_
  refine ev_goto (pc := 46) (tgt := 4) dX5_openedBehind_46 rfl ?_
  refine ev_sub [1, 2, 3, 0] rfl ?_
  exact hk4 v2 (v3 + 1)
def fn_X5_openedBehind_b4 (n : Nat) (b : Nat) (x1 : Int32) (σ : Sg)  : Nat → Int32 → Int32 → Option Int32
  | 0 => fun _ _ => none
  | i + 1 => fun v2 v3 =>
  (if (σ (b + 7) 0) ≤ v3 then (some v2)
  else (if (((σ b 4) >>> (v3 &&& 31)) &&& 1) = 1 then (if ag_ib v3 13 = true then (if x1 < (σ (b + 13) v3.toNatClampNeg) then (fn_X5_openedBehind_b43 n b x1 σ (fn_X5_openedBehind_b4 n b x1 σ i) v2 v3)
  else (fn_X5_openedBehind_b43 n b x1 σ (fn_X5_openedBehind_b4 n b x1 σ i) (v2 ||| (1 <<< (v3 &&& 31))) v3)) else none)
  else (fn_X5_openedBehind_b43 n b x1 σ (fn_X5_openedBehind_b4 n b x1 σ i) v2 v3)))
theorem fn_X5_openedBehind_b4_s (n : Nat) (b : Nat) (x1 : Int32) (σ : Sg)  (i : Nat) (v2 : Int32) (v3 : Int32) : fn_X5_openedBehind_b4 n b x1 σ (i + 1) v2 v3 =
  (if (σ (b + 7) 0) ≤ v3 then (some v2)
  else (if (((σ b 4) >>> (v3 &&& 31)) &&& 1) = 1 then (if ag_ib v3 13 = true then (if x1 < (σ (b + 13) v3.toNatClampNeg) then (fn_X5_openedBehind_b43 n b x1 σ (fn_X5_openedBehind_b4 n b x1 σ i) v2 v3)
  else (fn_X5_openedBehind_b43 n b x1 σ (fn_X5_openedBehind_b4 n b x1 σ i) (v2 ||| (1 <<< (v3 &&& 31))) v3)) else none)
  else (fn_X5_openedBehind_b43 n b x1 σ (fn_X5_openedBehind_b4 n b x1 σ i) v2 v3))) := rfl
set_option maxRecDepth 20000 in
set_option maxHeartbeats 4000000 in
theorem ev_X5_openedBehind_b4 (n : Nat) (b : Nat) (hb : ag_Y b) (x1 : Int32) (σ : Sg)  : ∀ (i : Nat) (v2 : Int32) (v3 : Int32), Ev mX5_openedBehind 0 0 (jI σ) 4 [(0, .ref b), (1, .int x1), (2, .int v2), (3, .int v3)] [] σ (fn_X5_openedBehind_b4 n b x1 σ i v2 v3) := by
  intro i
  induction i with
  | zero =>
    intro v2 v3
    exact ev_none
  | succ i ih =>
    intro v2 v3
    rw [fn_X5_openedBehind_b4_s]
    refine ev_iload_n (pc := 4) (i := 3) 3 dX5_openedBehind_4 rfl rfl ?_
    refine ev_aload_n (pc := 5) (i := 0) 0 dX5_openedBehind_5 rfl rfl ?_
    refine ev_getR (pc := 6) (t := (b + 7)) 1 ag_C5 (ag_Yk hb).1 (ag_Yk hb).2 (Nat.le_of_ble_eq_true rfl) (ag_Yt1 hb) rfl ag_fl_X5_21 dX5_openedBehind_6 ?_
    refine ev_getI (pc := 9) 0 ag_C2 (ag_Pk (ag_YP hb)).1 (ag_Pk (ag_YP hb)).2 (Nat.le_of_ble_eq_true rfl) (ag_Pt0 (ag_YP hb)) rfl ag_fl_X5_78 dX5_openedBehind_9 ?_
    refine ev_icmp_ge (pc := 12) (tgt := 49) dX5_openedBehind_12 rfl ?_ ?_
    · refine ev_iload_n (pc := 49) (i := 2) 2 dX5_openedBehind_49 rfl rfl ?_
      exact ev_iret (ty := .int) (fun r h => by cases h; rfl) rfl rfl dX5_openedBehind_50
    · refine ev_aload_n (pc := 15) (i := 0) 0 dX5_openedBehind_15 rfl rfl ?_
      refine ev_getI (pc := 16) 4 ag_C5 (ag_Yk hb).1 (ag_Yk hb).2 (Nat.le_of_ble_eq_true rfl) (ag_Yt4 hb) rfl ag_fl_X5_32 dX5_openedBehind_16 ?_
      refine ev_iload_n (pc := 19) (i := 3) 3 dX5_openedBehind_19 rfl rfl ?_
      refine ev_ishr (pc := 20) dX5_openedBehind_20 ?_
      refine ev_iconst (pc := 21) (v := 1) dX5_openedBehind_21 (by decide) ?_
      refine ev_iand (pc := 22) dX5_openedBehind_22 ?_
      refine ev_iconst (pc := 23) (v := 1) dX5_openedBehind_23 (by decide) ?_
      refine ev_icmp_ne (pc := 24) (tgt := 43) dX5_openedBehind_24 rfl ?_ ?_
      · refine ev_aload_n (pc := 27) (i := 0) 0 dX5_openedBehind_27 rfl rfl ?_
        refine ev_getR (pc := 28) (t := (b + 13)) 5 ag_C5 (ag_Yk hb).1 (ag_Yk hb).2 (Nat.le_of_ble_eq_true rfl) (ag_Yt5 hb) rfl ag_fl_X5_35 dX5_openedBehind_28 ?_
        refine ev_iload_n (pc := 31) (i := 3) 3 dX5_openedBehind_31 rfl rfl ?_
        refine ev_iald (pc := 32) (ag_Ya13 hb).1 (ag_Ya13 hb).2 dX5_openedBehind_32 ?_
        refine ev_iload_n (pc := 33) (i := 1) 1 dX5_openedBehind_33 rfl rfl ?_
        refine ev_icmp_gt (pc := 34) (tgt := 43) dX5_openedBehind_34 rfl ?_ ?_
        · exact ev_X5_openedBehind_b43 n b hb x1 σ (fn_X5_openedBehind_b4 n b x1 σ i) ih v2 v3
        · refine ev_iload_n (pc := 37) (i := 2) 2 dX5_openedBehind_37 rfl rfl ?_
          refine ev_iconst (pc := 38) (v := 1) dX5_openedBehind_38 (by decide) ?_
          refine ev_iload_n (pc := 39) (i := 3) 3 dX5_openedBehind_39 rfl rfl ?_
          refine ev_ishl (pc := 40) dX5_openedBehind_40 ?_
          refine ev_ior (pc := 41) dX5_openedBehind_41 ?_
          refine ev_istore_n (pc := 42) (i := 2) (lv' := [(2, .int (v2 ||| (1 <<< (v3 &&& 31)))), (0, .ref b), (1, .int x1), (3, .int v3)]) dX5_openedBehind_42 rfl (Nat.le_of_ble_eq_true rfl) rfl ?_
          refine ev_sub [1, 2, 0, 3] rfl ?_
          exact ev_X5_openedBehind_b43 n b hb x1 σ (fn_X5_openedBehind_b4 n b x1 σ i) ih (v2 ||| (1 <<< (v3 &&& 31))) v3
      · exact ev_X5_openedBehind_b43 n b hb x1 σ (fn_X5_openedBehind_b4 n b x1 σ i) ih v2 v3
def fn_X5_openedBehind (n : Nat) (b : Nat) (x1 : Int32) (σ : Sg) : Option Int32 :=
  (fn_X5_openedBehind_b4 n b x1 σ n 0 0)
set_option maxRecDepth 20000 in
set_option maxHeartbeats 4000000 in
theorem im_X5_openedBehind (n : Nat) (b : Nat) (hb : ag_Y b) (x1 : Int32) (σ : Sg) : Im yX5_openedBehind mX5_openedBehind 0 0 (jI σ) [.ref b, .int x1] σ (fn_X5_openedBehind n b x1 σ) := by
  refine Im.of (by decide +kernel) rfl (Nat.le_of_ble_eq_true rfl) ?_
  show Ev mX5_openedBehind 0 0 (jI σ) 0 [(0, .ref b), (1, .int x1)] [] σ (fn_X5_openedBehind n b x1 σ)
  unfold fn_X5_openedBehind
  refine ev_iconst (pc := 0) (v := 0) dX5_openedBehind_0 (by decide) ?_
  refine ev_istore_n (pc := 1) (i := 2) (lv' := [(2, .int 0), (0, .ref b), (1, .int x1)]) dX5_openedBehind_1 rfl (Nat.le_of_ble_eq_true rfl) rfl ?_
  refine ev_iconst (pc := 2) (v := 0) dX5_openedBehind_2 (by decide) ?_
  refine ev_istore_n (pc := 3) (i := 3) (lv' := [(3, .int 0), (2, .int 0), (0, .ref b), (1, .int x1)]) dX5_openedBehind_3 rfl (Nat.le_of_ble_eq_true rfl) rfl ?_
  refine ev_sub [2, 3, 1, 0] rfl ?_
  exact ev_X5_openedBehind_b4 n b hb x1 σ n 0 0
-- X5_waitingBehind
def mX5_waitingBehind : Md := (RX5, cX5_waitingBehind, 4, some .int)
theorem mv_X5_waitingBehind : ag_Mv yX5_waitingBehind mX5_waitingBehind 1 := ⟨ag_co_X5_waitingBehind, ag_im_X5_waitingBehind, ag_se_X5_waitingBehind, ag_ini_X5, by decide +kernel⟩
theorem dX5_waitingBehind_0 : decode mX5_waitingBehind.2.1 0 = .ok (.iconst 0, 1) := by decide +kernel
theorem dX5_waitingBehind_1 : decode mX5_waitingBehind.2.1 1 = .ok (.istore_n 2, 1) := by decide +kernel
theorem dX5_waitingBehind_2 : decode mX5_waitingBehind.2.1 2 = .ok (.iconst 0, 1) := by decide +kernel
theorem dX5_waitingBehind_3 : decode mX5_waitingBehind.2.1 3 = .ok (.istore_n 3, 1) := by decide +kernel
theorem dX5_waitingBehind_4 : decode mX5_waitingBehind.2.1 4 = .ok (.iload_n 3, 1) := by decide +kernel
theorem dX5_waitingBehind_5 : decode mX5_waitingBehind.2.1 5 = .ok (.aload_n 0, 1) := by decide +kernel
theorem dX5_waitingBehind_6 : decode mX5_waitingBehind.2.1 6 = .ok (.getfield 21, 3) := by decide +kernel
theorem dX5_waitingBehind_9 : decode mX5_waitingBehind.2.1 9 = .ok (.getfield 78, 3) := by decide +kernel
theorem dX5_waitingBehind_12 : decode mX5_waitingBehind.2.1 12 = .ok (.if_icmp .ge 40, 3) := by decide +kernel
theorem dX5_waitingBehind_15 : decode mX5_waitingBehind.2.1 15 = .ok (.aload_n 0, 1) := by decide +kernel
theorem dX5_waitingBehind_16 : decode mX5_waitingBehind.2.1 16 = .ok (.getfield 29, 3) := by decide +kernel
theorem dX5_waitingBehind_19 : decode mX5_waitingBehind.2.1 19 = .ok (.iload_n 3, 1) := by decide +kernel
theorem dX5_waitingBehind_20 : decode mX5_waitingBehind.2.1 20 = .ok (.ishr, 1) := by decide +kernel
theorem dX5_waitingBehind_21 : decode mX5_waitingBehind.2.1 21 = .ok (.iconst 1, 1) := by decide +kernel
theorem dX5_waitingBehind_22 : decode mX5_waitingBehind.2.1 22 = .ok (.iand, 1) := by decide +kernel
theorem dX5_waitingBehind_23 : decode mX5_waitingBehind.2.1 23 = .ok (.iconst 1, 1) := by decide +kernel
theorem dX5_waitingBehind_24 : decode mX5_waitingBehind.2.1 24 = .ok (.if_icmp .ne 22, 3) := by decide +kernel
theorem dX5_waitingBehind_27 : decode mX5_waitingBehind.2.1 27 = .ok (.aload_n 0, 1) := by decide +kernel
theorem dX5_waitingBehind_28 : decode mX5_waitingBehind.2.1 28 = .ok (.getfield 21, 3) := by decide +kernel
theorem dX5_waitingBehind_31 : decode mX5_waitingBehind.2.1 31 = .ok (.getfield 81, 3) := by decide +kernel
theorem dX5_waitingBehind_34 : decode mX5_waitingBehind.2.1 34 = .ok (.iload_n 3, 1) := by decide +kernel
theorem dX5_waitingBehind_35 : decode mX5_waitingBehind.2.1 35 = .ok (.iaload, 1) := by decide +kernel
theorem dX5_waitingBehind_36 : decode mX5_waitingBehind.2.1 36 = .ok (.iload_n 1, 1) := by decide +kernel
theorem dX5_waitingBehind_37 : decode mX5_waitingBehind.2.1 37 = .ok (.if_icmp .gt 9, 3) := by decide +kernel
theorem dX5_waitingBehind_40 : decode mX5_waitingBehind.2.1 40 = .ok (.iload_n 2, 1) := by decide +kernel
theorem dX5_waitingBehind_41 : decode mX5_waitingBehind.2.1 41 = .ok (.iconst 1, 1) := by decide +kernel
theorem dX5_waitingBehind_42 : decode mX5_waitingBehind.2.1 42 = .ok (.iload_n 3, 1) := by decide +kernel
theorem dX5_waitingBehind_43 : decode mX5_waitingBehind.2.1 43 = .ok (.ishl, 1) := by decide +kernel
theorem dX5_waitingBehind_44 : decode mX5_waitingBehind.2.1 44 = .ok (.ior, 1) := by decide +kernel
theorem dX5_waitingBehind_45 : decode mX5_waitingBehind.2.1 45 = .ok (.istore_n 2, 1) := by decide +kernel
theorem dX5_waitingBehind_46 : decode mX5_waitingBehind.2.1 46 = .ok (.iinc 3 1, 3) := by decide +kernel
theorem dX5_waitingBehind_49 : decode mX5_waitingBehind.2.1 49 = .ok (.goto (-45), 3) := by decide +kernel
theorem dX5_waitingBehind_52 : decode mX5_waitingBehind.2.1 52 = .ok (.iload_n 2, 1) := by decide +kernel
theorem dX5_waitingBehind_53 : decode mX5_waitingBehind.2.1 53 = .ok (.aload_n 0, 1) := by decide +kernel
theorem dX5_waitingBehind_54 : decode mX5_waitingBehind.2.1 54 = .ok (.iload_n 1, 1) := by decide +kernel
theorem dX5_waitingBehind_55 : decode mX5_waitingBehind.2.1 55 = .ok (.invokevirtual 164, 3) := by decide +kernel
theorem dX5_waitingBehind_58 : decode mX5_waitingBehind.2.1 58 = .ok (.iconst (-1), 1) := by decide +kernel
theorem dX5_waitingBehind_59 : decode mX5_waitingBehind.2.1 59 = .ok (.ixor, 1) := by decide +kernel
theorem dX5_waitingBehind_60 : decode mX5_waitingBehind.2.1 60 = .ok (.iand, 1) := by decide +kernel
theorem dX5_waitingBehind_61 : decode mX5_waitingBehind.2.1 61 = .ok (.ireturn, 1) := by decide +kernel
def fn_X5_waitingBehind_b46 (n : Nat) (b : Nat) (x1 : Int32) (σ : Sg) (k4 : Int32 → Int32 → Option Int32) (v2 : Int32) (v3 : Int32) : Option Int32 :=
  (k4 v2 (v3 + 1))
set_option maxRecDepth 20000 in
set_option maxHeartbeats 4000000 in
theorem ev_X5_waitingBehind_b46 (n : Nat) (b : Nat) (hb : ag_Y b) (x1 : Int32) (σ : Sg) (k4 : Int32 → Int32 → Option Int32) (hk4 : ∀ (v2 : Int32) (v3 : Int32), Ev mX5_waitingBehind 1 23 (jI σ) 4 [(0, .ref b), (1, .int x1), (2, .int v2), (3, .int v3)] [] σ (k4 v2 v3)) (v2 : Int32) (v3 : Int32) : Ev mX5_waitingBehind 1 23 (jI σ) 46 [(0, .ref b), (1, .int x1), (2, .int v2), (3, .int v3)] [] σ (fn_X5_waitingBehind_b46 n b x1 σ k4 v2 v3) := by
  unfold fn_X5_waitingBehind_b46
  refine ev_iinc (pc := 46) (v := (v3 + 1)) (lv' := [(3, .int (v3 + 1)), (0, .ref b), (1, .int x1), (2, .int v2)]) 3 dX5_waitingBehind_46 rfl rfl (Nat.le_of_ble_eq_true rfl) rfl ?_
  refine ev_goto (pc := 49) (tgt := 4) dX5_waitingBehind_49 rfl ?_
  refine ev_sub [1, 2, 3, 0] rfl ?_
  exact hk4 v2 (v3 + 1)
def fn_X5_waitingBehind_b4 (n : Nat) (b : Nat) (x1 : Int32) (σ : Sg)  : Nat → Int32 → Int32 → Option Int32
  | 0 => fun _ _ => none
  | i + 1 => fun v2 v3 =>
  (if (σ (b + 7) 0) ≤ v3 then (Option.bind (fn_X5_openedBehind n b x1 σ) fun q30 =>
  (some (v2 &&& (q30 ^^^ (-1)))))
  else (if (((σ b 3) >>> (v3 &&& 31)) &&& 1) = 1 then (if ag_ib v3 13 = true then (if x1 < (σ (b + 10) v3.toNatClampNeg) then (fn_X5_waitingBehind_b46 n b x1 σ (fn_X5_waitingBehind_b4 n b x1 σ i) v2 v3)
  else (fn_X5_waitingBehind_b46 n b x1 σ (fn_X5_waitingBehind_b4 n b x1 σ i) (v2 ||| (1 <<< (v3 &&& 31))) v3)) else none)
  else (fn_X5_waitingBehind_b46 n b x1 σ (fn_X5_waitingBehind_b4 n b x1 σ i) v2 v3)))
theorem fn_X5_waitingBehind_b4_s (n : Nat) (b : Nat) (x1 : Int32) (σ : Sg)  (i : Nat) (v2 : Int32) (v3 : Int32) : fn_X5_waitingBehind_b4 n b x1 σ (i + 1) v2 v3 =
  (if (σ (b + 7) 0) ≤ v3 then (Option.bind (fn_X5_openedBehind n b x1 σ) fun q30 =>
  (some (v2 &&& (q30 ^^^ (-1)))))
  else (if (((σ b 3) >>> (v3 &&& 31)) &&& 1) = 1 then (if ag_ib v3 13 = true then (if x1 < (σ (b + 10) v3.toNatClampNeg) then (fn_X5_waitingBehind_b46 n b x1 σ (fn_X5_waitingBehind_b4 n b x1 σ i) v2 v3)
  else (fn_X5_waitingBehind_b46 n b x1 σ (fn_X5_waitingBehind_b4 n b x1 σ i) (v2 ||| (1 <<< (v3 &&& 31))) v3)) else none)
  else (fn_X5_waitingBehind_b46 n b x1 σ (fn_X5_waitingBehind_b4 n b x1 σ i) v2 v3))) := rfl
set_option maxRecDepth 20000 in
set_option maxHeartbeats 4000000 in
theorem ev_X5_waitingBehind_b4 (n : Nat) (b : Nat) (hb : ag_Y b) (x1 : Int32) (σ : Sg)  : ∀ (i : Nat) (v2 : Int32) (v3 : Int32), Ev mX5_waitingBehind 1 23 (jI σ) 4 [(0, .ref b), (1, .int x1), (2, .int v2), (3, .int v3)] [] σ (fn_X5_waitingBehind_b4 n b x1 σ i v2 v3) := by
  intro i
  induction i with
  | zero =>
    intro v2 v3
    exact ev_none
  | succ i ih =>
    intro v2 v3
    rw [fn_X5_waitingBehind_b4_s]
    refine ev_iload_n (pc := 4) (i := 3) 3 dX5_waitingBehind_4 rfl rfl ?_
    refine ev_aload_n (pc := 5) (i := 0) 0 dX5_waitingBehind_5 rfl rfl ?_
    refine ev_getR (pc := 6) (t := (b + 7)) 1 ag_C5 (ag_Yk hb).1 (ag_Yk hb).2 (Nat.le_of_ble_eq_true rfl) (ag_Yt1 hb) rfl ag_fl_X5_21 dX5_waitingBehind_6 ?_
    refine ev_getI (pc := 9) 0 ag_C2 (ag_Pk (ag_YP hb)).1 (ag_Pk (ag_YP hb)).2 (Nat.le_of_ble_eq_true rfl) (ag_Pt0 (ag_YP hb)) rfl ag_fl_X5_78 dX5_waitingBehind_9 ?_
    refine ev_icmp_ge (pc := 12) (tgt := 52) dX5_waitingBehind_12 rfl ?_ ?_
    · refine ev_iload_n (pc := 52) (i := 2) 2 dX5_waitingBehind_52 rfl rfl ?_
      refine ev_aload_n (pc := 53) (i := 0) 0 dX5_waitingBehind_53 rfl rfl ?_
      refine ev_iload_n (pc := 54) (i := 1) 1 dX5_waitingBehind_54 rfl rfl ?_
      refine ev_vI (pc := 55) (as := [.int x1]) (rest := [.int v2]) ⟨5, 164, 10, TX5, tyX5, ag_C5, ⟨(ag_Yk hb).1, (ag_Yk hb).2⟩, mv_X5_openedBehind, ag_ml_X5_164, rfl, (Nat.le_of_ble_eq_true rfl), ⟨(Nat.le_of_ble_eq_true rfl), (Nat.le_of_ble_eq_true rfl)⟩, dX5_waitingBehind_55⟩ (im_X5_openedBehind n b hb x1 σ) (fun q30 => ?_)
      refine ev_iconst (pc := 58) (v := (-1)) dX5_waitingBehind_58 (by decide) ?_
      refine ev_ixor (pc := 59) dX5_waitingBehind_59 ?_
      refine ev_iand (pc := 60) dX5_waitingBehind_60 ?_
      exact ev_iret (ty := .int) (fun r h => by cases h; rfl) rfl rfl dX5_waitingBehind_61
    · refine ev_aload_n (pc := 15) (i := 0) 0 dX5_waitingBehind_15 rfl rfl ?_
      refine ev_getI (pc := 16) 3 ag_C5 (ag_Yk hb).1 (ag_Yk hb).2 (Nat.le_of_ble_eq_true rfl) (ag_Yt3 hb) rfl ag_fl_X5_29 dX5_waitingBehind_16 ?_
      refine ev_iload_n (pc := 19) (i := 3) 3 dX5_waitingBehind_19 rfl rfl ?_
      refine ev_ishr (pc := 20) dX5_waitingBehind_20 ?_
      refine ev_iconst (pc := 21) (v := 1) dX5_waitingBehind_21 (by decide) ?_
      refine ev_iand (pc := 22) dX5_waitingBehind_22 ?_
      refine ev_iconst (pc := 23) (v := 1) dX5_waitingBehind_23 (by decide) ?_
      refine ev_icmp_ne (pc := 24) (tgt := 46) dX5_waitingBehind_24 rfl ?_ ?_
      · refine ev_aload_n (pc := 27) (i := 0) 0 dX5_waitingBehind_27 rfl rfl ?_
        refine ev_getR (pc := 28) (t := (b + 7)) 1 ag_C5 (ag_Yk hb).1 (ag_Yk hb).2 (Nat.le_of_ble_eq_true rfl) (ag_Yt1 hb) rfl ag_fl_X5_21 dX5_waitingBehind_28 ?_
        refine ev_getR (pc := 31) (t := (b + 10)) 3 ag_C2 (ag_Pk (ag_YP hb)).1 (ag_Pk (ag_YP hb)).2 (Nat.le_of_ble_eq_true rfl) (ag_Pt3 (ag_YP hb)) rfl ag_fl_X5_81 dX5_waitingBehind_31 ?_
        refine ev_iload_n (pc := 34) (i := 3) 3 dX5_waitingBehind_34 rfl rfl ?_
        refine ev_iald (pc := 35) (ag_Pa3 (ag_YP hb)).1 (ag_Pa3 (ag_YP hb)).2 dX5_waitingBehind_35 ?_
        refine ev_iload_n (pc := 36) (i := 1) 1 dX5_waitingBehind_36 rfl rfl ?_
        refine ev_icmp_gt (pc := 37) (tgt := 46) dX5_waitingBehind_37 rfl ?_ ?_
        · exact ev_X5_waitingBehind_b46 n b hb x1 σ (fn_X5_waitingBehind_b4 n b x1 σ i) ih v2 v3
        · refine ev_iload_n (pc := 40) (i := 2) 2 dX5_waitingBehind_40 rfl rfl ?_
          refine ev_iconst (pc := 41) (v := 1) dX5_waitingBehind_41 (by decide) ?_
          refine ev_iload_n (pc := 42) (i := 3) 3 dX5_waitingBehind_42 rfl rfl ?_
          refine ev_ishl (pc := 43) dX5_waitingBehind_43 ?_
          refine ev_ior (pc := 44) dX5_waitingBehind_44 ?_
          refine ev_istore_n (pc := 45) (i := 2) (lv' := [(2, .int (v2 ||| (1 <<< (v3 &&& 31)))), (0, .ref b), (1, .int x1), (3, .int v3)]) dX5_waitingBehind_45 rfl (Nat.le_of_ble_eq_true rfl) rfl ?_
          refine ev_sub [1, 2, 0, 3] rfl ?_
          exact ev_X5_waitingBehind_b46 n b hb x1 σ (fn_X5_waitingBehind_b4 n b x1 σ i) ih (v2 ||| (1 <<< (v3 &&& 31))) v3
      · exact ev_X5_waitingBehind_b46 n b hb x1 σ (fn_X5_waitingBehind_b4 n b x1 σ i) ih v2 v3
def fn_X5_waitingBehind (n : Nat) (b : Nat) (x1 : Int32) (σ : Sg) : Option Int32 :=
  (fn_X5_waitingBehind_b4 n b x1 σ n 0 0)
set_option maxRecDepth 20000 in
set_option maxHeartbeats 4000000 in
theorem im_X5_waitingBehind (n : Nat) (b : Nat) (hb : ag_Y b) (x1 : Int32) (σ : Sg) : Im yX5_waitingBehind mX5_waitingBehind 1 23 (jI σ) [.ref b, .int x1] σ (fn_X5_waitingBehind n b x1 σ) := by
  refine Im.of (by decide +kernel) rfl (Nat.le_of_ble_eq_true rfl) ?_
  show Ev mX5_waitingBehind 1 23 (jI σ) 0 [(0, .ref b), (1, .int x1)] [] σ (fn_X5_waitingBehind n b x1 σ)
  unfold fn_X5_waitingBehind
  refine ev_iconst (pc := 0) (v := 0) dX5_waitingBehind_0 (by decide) ?_
  refine ev_istore_n (pc := 1) (i := 2) (lv' := [(2, .int 0), (0, .ref b), (1, .int x1)]) dX5_waitingBehind_1 rfl (Nat.le_of_ble_eq_true rfl) rfl ?_
  refine ev_iconst (pc := 2) (v := 0) dX5_waitingBehind_2 (by decide) ?_
  refine ev_istore_n (pc := 3) (i := 3) (lv' := [(3, .int 0), (2, .int 0), (0, .ref b), (1, .int x1)]) dX5_waitingBehind_3 rfl (Nat.le_of_ble_eq_true rfl) rfl ?_
  refine ev_sub [2, 3, 1, 0] rfl ?_
  exact ev_X5_waitingBehind_b4 n b hb x1 σ n 0 0
-- X5_sealedBits
def mX5_sealedBits : Md := (RX5, cX5_sealedBits, 1, some .int)
theorem mv_X5_sealedBits : ag_Mv yX5_sealedBits mX5_sealedBits 0 := ⟨ag_co_X5_sealedBits, ag_im_X5_sealedBits, ag_se_X5_sealedBits, ag_ini_X5, by decide +kernel⟩
theorem dX5_sealedBits_0 : decode mX5_sealedBits.2.1 0 = .ok (.aload_n 0, 1) := by decide +kernel
theorem dX5_sealedBits_1 : decode mX5_sealedBits.2.1 1 = .ok (.getfield 29, 3) := by decide +kernel
theorem dX5_sealedBits_4 : decode mX5_sealedBits.2.1 4 = .ok (.aload_n 0, 1) := by decide +kernel
theorem dX5_sealedBits_5 : decode mX5_sealedBits.2.1 5 = .ok (.getfield 32, 3) := by decide +kernel
theorem dX5_sealedBits_8 : decode mX5_sealedBits.2.1 8 = .ok (.iconst (-1), 1) := by decide +kernel
theorem dX5_sealedBits_9 : decode mX5_sealedBits.2.1 9 = .ok (.ixor, 1) := by decide +kernel
theorem dX5_sealedBits_10 : decode mX5_sealedBits.2.1 10 = .ok (.iand, 1) := by decide +kernel
theorem dX5_sealedBits_11 : decode mX5_sealedBits.2.1 11 = .ok (.ireturn, 1) := by decide +kernel
def fn_X5_sealedBits (b : Nat) (σ : Sg) : Option Int32 :=
  (some ((σ b 3) &&& ((σ b 4) ^^^ (-1))))
set_option maxRecDepth 20000 in
set_option maxHeartbeats 4000000 in
theorem im_X5_sealedBits (b : Nat) (hb : ag_Y b) (σ : Sg) : Im yX5_sealedBits mX5_sealedBits 0 0 (jI σ) [.ref b] σ (fn_X5_sealedBits b σ) := by
  refine Im.of (by decide +kernel) rfl (Nat.le_of_ble_eq_true rfl) ?_
  show Ev mX5_sealedBits 0 0 (jI σ) 0 [(0, .ref b)] [] σ (fn_X5_sealedBits b σ)
  unfold fn_X5_sealedBits
  refine ev_aload_n (pc := 0) (i := 0) 0 dX5_sealedBits_0 rfl rfl ?_
  refine ev_getI (pc := 1) 3 ag_C5 (ag_Yk hb).1 (ag_Yk hb).2 (Nat.le_of_ble_eq_true rfl) (ag_Yt3 hb) rfl ag_fl_X5_29 dX5_sealedBits_1 ?_
  refine ev_aload_n (pc := 4) (i := 0) 0 dX5_sealedBits_4 rfl rfl ?_
  refine ev_getI (pc := 5) 4 ag_C5 (ag_Yk hb).1 (ag_Yk hb).2 (Nat.le_of_ble_eq_true rfl) (ag_Yt4 hb) rfl ag_fl_X5_32 dX5_sealedBits_5 ?_
  refine ev_iconst (pc := 8) (v := (-1)) dX5_sealedBits_8 (by decide) ?_
  refine ev_ixor (pc := 9) dX5_sealedBits_9 ?_
  refine ev_iand (pc := 10) dX5_sealedBits_10 ?_
  exact ev_iret (ty := .int) (fun r h => by cases h; rfl) rfl rfl dX5_sealedBits_11
-- X5_openedWithin
def mX5_openedWithin : Md := (RX5, cX5_openedWithin, 4, some .int)
theorem mv_X5_openedWithin : ag_Mv yX5_openedWithin mX5_openedWithin 1 := ⟨ag_co_X5_openedWithin, ag_im_X5_openedWithin, ag_se_X5_openedWithin, ag_ini_X5, by decide +kernel⟩
theorem dX5_openedWithin_0 : decode mX5_openedWithin.2.1 0 = .ok (.iconst 0, 1) := by decide +kernel
theorem dX5_openedWithin_1 : decode mX5_openedWithin.2.1 1 = .ok (.istore_n 2, 1) := by decide +kernel
theorem dX5_openedWithin_2 : decode mX5_openedWithin.2.1 2 = .ok (.iconst 0, 1) := by decide +kernel
theorem dX5_openedWithin_3 : decode mX5_openedWithin.2.1 3 = .ok (.istore_n 3, 1) := by decide +kernel
theorem dX5_openedWithin_4 : decode mX5_openedWithin.2.1 4 = .ok (.iload_n 3, 1) := by decide +kernel
theorem dX5_openedWithin_5 : decode mX5_openedWithin.2.1 5 = .ok (.aload_n 0, 1) := by decide +kernel
theorem dX5_openedWithin_6 : decode mX5_openedWithin.2.1 6 = .ok (.getfield 21, 3) := by decide +kernel
theorem dX5_openedWithin_9 : decode mX5_openedWithin.2.1 9 = .ok (.getfield 78, 3) := by decide +kernel
theorem dX5_openedWithin_12 : decode mX5_openedWithin.2.1 12 = .ok (.if_icmp .ge 26, 3) := by decide +kernel
theorem dX5_openedWithin_15 : decode mX5_openedWithin.2.1 15 = .ok (.iload_n 2, 1) := by decide +kernel
theorem dX5_openedWithin_16 : decode mX5_openedWithin.2.1 16 = .ok (.aload_n 0, 1) := by decide +kernel
theorem dX5_openedWithin_17 : decode mX5_openedWithin.2.1 17 = .ok (.iload_n 3, 1) := by decide +kernel
theorem dX5_openedWithin_18 : decode mX5_openedWithin.2.1 18 = .ok (.invokevirtual 167, 3) := by decide +kernel
theorem dX5_openedWithin_21 : decode mX5_openedWithin.2.1 21 = .ok (.iload_n 1, 1) := by decide +kernel
theorem dX5_openedWithin_22 : decode mX5_openedWithin.2.1 22 = .ok (.if_icmp .ne 7, 3) := by decide +kernel
theorem dX5_openedWithin_25 : decode mX5_openedWithin.2.1 25 = .ok (.iconst 1, 1) := by decide +kernel
theorem dX5_openedWithin_26 : decode mX5_openedWithin.2.1 26 = .ok (.goto 4, 3) := by decide +kernel
theorem dX5_openedWithin_29 : decode mX5_openedWithin.2.1 29 = .ok (.iconst 0, 1) := by decide +kernel
theorem dX5_openedWithin_30 : decode mX5_openedWithin.2.1 30 = .ok (.iadd, 1) := by decide +kernel
theorem dX5_openedWithin_31 : decode mX5_openedWithin.2.1 31 = .ok (.istore_n 2, 1) := by decide +kernel
theorem dX5_openedWithin_32 : decode mX5_openedWithin.2.1 32 = .ok (.iinc 3 1, 3) := by decide +kernel
theorem dX5_openedWithin_35 : decode mX5_openedWithin.2.1 35 = .ok (.goto (-31), 3) := by decide +kernel
theorem dX5_openedWithin_38 : decode mX5_openedWithin.2.1 38 = .ok (.iload_n 2, 1) := by decide +kernel
theorem dX5_openedWithin_39 : decode mX5_openedWithin.2.1 39 = .ok (.ireturn, 1) := by decide +kernel
def fn_X5_openedWithin_b30 (n : Nat) (b : Nat) (x1 : Int32) (σ : Sg) (k4 : Int32 → Int32 → Option Int32) (v3 : Int32) (s0 : Int32) (s1 : Int32) : Option Int32 :=
  (k4 (s0 + s1) (v3 + 1))
set_option maxRecDepth 20000 in
set_option maxHeartbeats 4000000 in
theorem ev_X5_openedWithin_b30 (n : Nat) (b : Nat) (hb : ag_Y b) (x1 : Int32) (σ : Sg) (k4 : Int32 → Int32 → Option Int32) (hk4 : ∀ (v2 : Int32) (v3 : Int32), Ev mX5_openedWithin 1 21 (jI σ) 4 [(0, .ref b), (1, .int x1), (2, .int v2), (3, .int v3)] [] σ (k4 v2 v3)) (v3 : Int32) (s0 : Int32) (s1 : Int32) : Ev mX5_openedWithin 1 21 (jI σ) 30 [(0, .ref b), (1, .int x1), (3, .int v3)] [.int s1, .int s0] σ (fn_X5_openedWithin_b30 n b x1 σ k4 v3 s0 s1) := by
  unfold fn_X5_openedWithin_b30
  refine ev_iadd (pc := 30) dX5_openedWithin_30 ?_
  refine ev_istore_n (pc := 31) (i := 2) (lv' := [(2, .int (s0 + s1)), (0, .ref b), (1, .int x1), (3, .int v3)]) dX5_openedWithin_31 rfl (Nat.le_of_ble_eq_true rfl) rfl ?_
  refine ev_iinc (pc := 32) (v := (v3 + 1)) (lv' := [(3, .int (v3 + 1)), (2, .int (s0 + s1)), (0, .ref b), (1, .int x1)]) 3 dX5_openedWithin_32 rfl rfl (Nat.le_of_ble_eq_true rfl) rfl ?_
  refine ev_goto (pc := 35) (tgt := 4) dX5_openedWithin_35 rfl ?_
  refine ev_sub [2, 3, 1, 0] rfl ?_
  exact hk4 (s0 + s1) (v3 + 1)
def fn_X5_openedWithin_b4 (n : Nat) (b : Nat) (x1 : Int32) (σ : Sg)  : Nat → Int32 → Int32 → Option Int32
  | 0 => fun _ _ => none
  | i + 1 => fun v2 v3 =>
  (if (σ (b + 7) 0) ≤ v3 then (some v2)
  else (Option.bind (fn_X5_openingYear b v3 σ) fun q31 =>
  (if q31 = x1 then (fn_X5_openedWithin_b30 n b x1 σ (fn_X5_openedWithin_b4 n b x1 σ i) v3 v2 1)
  else (fn_X5_openedWithin_b30 n b x1 σ (fn_X5_openedWithin_b4 n b x1 σ i) v3 v2 0))))
theorem fn_X5_openedWithin_b4_s (n : Nat) (b : Nat) (x1 : Int32) (σ : Sg)  (i : Nat) (v2 : Int32) (v3 : Int32) : fn_X5_openedWithin_b4 n b x1 σ (i + 1) v2 v3 =
  (if (σ (b + 7) 0) ≤ v3 then (some v2)
  else (Option.bind (fn_X5_openingYear b v3 σ) fun q31 =>
  (if q31 = x1 then (fn_X5_openedWithin_b30 n b x1 σ (fn_X5_openedWithin_b4 n b x1 σ i) v3 v2 1)
  else (fn_X5_openedWithin_b30 n b x1 σ (fn_X5_openedWithin_b4 n b x1 σ i) v3 v2 0)))) := rfl
set_option maxRecDepth 20000 in
set_option maxHeartbeats 4000000 in
theorem ev_X5_openedWithin_b4 (n : Nat) (b : Nat) (hb : ag_Y b) (x1 : Int32) (σ : Sg)  : ∀ (i : Nat) (v2 : Int32) (v3 : Int32), Ev mX5_openedWithin 1 21 (jI σ) 4 [(0, .ref b), (1, .int x1), (2, .int v2), (3, .int v3)] [] σ (fn_X5_openedWithin_b4 n b x1 σ i v2 v3) := by
  intro i
  induction i with
  | zero =>
    intro v2 v3
    exact ev_none
  | succ i ih =>
    intro v2 v3
    rw [fn_X5_openedWithin_b4_s]
    refine ev_iload_n (pc := 4) (i := 3) 3 dX5_openedWithin_4 rfl rfl ?_
    refine ev_aload_n (pc := 5) (i := 0) 0 dX5_openedWithin_5 rfl rfl ?_
    refine ev_getR (pc := 6) (t := (b + 7)) 1 ag_C5 (ag_Yk hb).1 (ag_Yk hb).2 (Nat.le_of_ble_eq_true rfl) (ag_Yt1 hb) rfl ag_fl_X5_21 dX5_openedWithin_6 ?_
    refine ev_getI (pc := 9) 0 ag_C2 (ag_Pk (ag_YP hb)).1 (ag_Pk (ag_YP hb)).2 (Nat.le_of_ble_eq_true rfl) (ag_Pt0 (ag_YP hb)) rfl ag_fl_X5_78 dX5_openedWithin_9 ?_
    refine ev_icmp_ge (pc := 12) (tgt := 38) dX5_openedWithin_12 rfl ?_ ?_
    · refine ev_iload_n (pc := 38) (i := 2) 2 dX5_openedWithin_38 rfl rfl ?_
      exact ev_iret (ty := .int) (fun r h => by cases h; rfl) rfl rfl dX5_openedWithin_39
    · refine ev_iload_n (pc := 15) (i := 2) 2 dX5_openedWithin_15 rfl rfl ?_
      refine ev_aload_n (pc := 16) (i := 0) 0 dX5_openedWithin_16 rfl rfl ?_
      refine ev_iload_n (pc := 17) (i := 3) 3 dX5_openedWithin_17 rfl rfl ?_
      refine ev_vI (pc := 18) (as := [.int v3]) (rest := [.int v2]) ⟨5, 167, 10, TX5, tyX5, ag_C5, ⟨(ag_Yk hb).1, (ag_Yk hb).2⟩, mv_X5_openingYear, ag_ml_X5_167, rfl, (Nat.le_of_ble_eq_true rfl), ⟨(Nat.le_of_ble_eq_true rfl), (Nat.le_of_ble_eq_true rfl)⟩, dX5_openedWithin_18⟩ (im_X5_openingYear b hb v3 σ) (fun q31 => ?_)
      refine ev_iload_n (pc := 21) (i := 1) 1 dX5_openedWithin_21 rfl rfl ?_
      refine ev_icmp_ne (pc := 22) (tgt := 29) dX5_openedWithin_22 rfl ?_ ?_
      · refine ev_iconst (pc := 25) (v := 1) dX5_openedWithin_25 (by decide) ?_
        refine ev_goto (pc := 26) (tgt := 30) dX5_openedWithin_26 rfl ?_
        refine ev_sub [0, 1, 3] rfl ?_
        exact ev_X5_openedWithin_b30 n b hb x1 σ (fn_X5_openedWithin_b4 n b x1 σ i) ih v3 v2 1
      · refine ev_iconst (pc := 29) (v := 0) dX5_openedWithin_29 (by decide) ?_
        refine ev_sub [0, 1, 3] rfl ?_
        exact ev_X5_openedWithin_b30 n b hb x1 σ (fn_X5_openedWithin_b4 n b x1 σ i) ih v3 v2 0
def fn_X5_openedWithin (n : Nat) (b : Nat) (x1 : Int32) (σ : Sg) : Option Int32 :=
  (fn_X5_openedWithin_b4 n b x1 σ n 0 0)
set_option maxRecDepth 20000 in
set_option maxHeartbeats 4000000 in
theorem im_X5_openedWithin (n : Nat) (b : Nat) (hb : ag_Y b) (x1 : Int32) (σ : Sg) : Im yX5_openedWithin mX5_openedWithin 1 21 (jI σ) [.ref b, .int x1] σ (fn_X5_openedWithin n b x1 σ) := by
  refine Im.of (by decide +kernel) rfl (Nat.le_of_ble_eq_true rfl) ?_
  show Ev mX5_openedWithin 1 21 (jI σ) 0 [(0, .ref b), (1, .int x1)] [] σ (fn_X5_openedWithin n b x1 σ)
  unfold fn_X5_openedWithin
  refine ev_iconst (pc := 0) (v := 0) dX5_openedWithin_0 (by decide) ?_
  refine ev_istore_n (pc := 1) (i := 2) (lv' := [(2, .int 0), (0, .ref b), (1, .int x1)]) dX5_openedWithin_1 rfl (Nat.le_of_ble_eq_true rfl) rfl ?_
  refine ev_iconst (pc := 2) (v := 0) dX5_openedWithin_2 (by decide) ?_
  refine ev_istore_n (pc := 3) (i := 3) (lv' := [(3, .int 0), (2, .int 0), (0, .ref b), (1, .int x1)]) dX5_openedWithin_3 rfl (Nat.le_of_ble_eq_true rfl) rfl ?_
  refine ev_sub [2, 3, 1, 0] rfl ?_
  exact ev_X5_openedWithin_b4 n b hb x1 σ n 0 0
-- X5_loudestYear
def mX5_loudestYear : Md := (RX5, cX5_loudestYear, 6, some .int)
theorem mv_X5_loudestYear : ag_Mv yX5_loudestYear mX5_loudestYear 0 := ⟨ag_co_X5_loudestYear, ag_im_X5_loudestYear, ag_se_X5_loudestYear, ag_ini_X5, by decide +kernel⟩
theorem dX5_loudestYear_0 : decode mX5_loudestYear.2.1 0 = .ok (.iconst (-1), 1) := by decide +kernel
theorem dX5_loudestYear_1 : decode mX5_loudestYear.2.1 1 = .ok (.istore_n 1, 1) := by decide +kernel
theorem dX5_loudestYear_2 : decode mX5_loudestYear.2.1 2 = .ok (.iconst 0, 1) := by decide +kernel
theorem dX5_loudestYear_3 : decode mX5_loudestYear.2.1 3 = .ok (.istore_n 2, 1) := by decide +kernel
theorem dX5_loudestYear_4 : decode mX5_loudestYear.2.1 4 = .ok (.iconst 0, 1) := by decide +kernel
theorem dX5_loudestYear_5 : decode mX5_loudestYear.2.1 5 = .ok (.istore_n 3, 1) := by decide +kernel
theorem dX5_loudestYear_6 : decode mX5_loudestYear.2.1 6 = .ok (.iload_n 3, 1) := by decide +kernel
theorem dX5_loudestYear_7 : decode mX5_loudestYear.2.1 7 = .ok (.aload_n 0, 1) := by decide +kernel
theorem dX5_loudestYear_8 : decode mX5_loudestYear.2.1 8 = .ok (.getfield 21, 3) := by decide +kernel
theorem dX5_loudestYear_11 : decode mX5_loudestYear.2.1 11 = .ok (.getfield 78, 3) := by decide +kernel
theorem dX5_loudestYear_14 : decode mX5_loudestYear.2.1 14 = .ok (.if_icmp .ge 63, 3) := by decide +kernel
theorem dX5_loudestYear_17 : decode mX5_loudestYear.2.1 17 = .ok (.aload_n 0, 1) := by decide +kernel
theorem dX5_loudestYear_18 : decode mX5_loudestYear.2.1 18 = .ok (.iload_n 3, 1) := by decide +kernel
theorem dX5_loudestYear_19 : decode mX5_loudestYear.2.1 19 = .ok (.invokevirtual 167, 3) := by decide +kernel
theorem dX5_loudestYear_22 : decode mX5_loudestYear.2.1 22 = .ok (.istore 4, 2) := by decide +kernel
theorem dX5_loudestYear_24 : decode mX5_loudestYear.2.1 24 = .ok (.iload 4, 2) := by decide +kernel
theorem dX5_loudestYear_26 : decode mX5_loudestYear.2.1 26 = .ok (.iconst (-1), 1) := by decide +kernel
theorem dX5_loudestYear_27 : decode mX5_loudestYear.2.1 27 = .ok (.if_icmp .ne 7, 3) := by decide +kernel
theorem dX5_loudestYear_30 : decode mX5_loudestYear.2.1 30 = .ok (.iconst 0, 1) := by decide +kernel
theorem dX5_loudestYear_31 : decode mX5_loudestYear.2.1 31 = .ok (.goto 9, 3) := by decide +kernel
theorem dX5_loudestYear_34 : decode mX5_loudestYear.2.1 34 = .ok (.aload_n 0, 1) := by decide +kernel
theorem dX5_loudestYear_35 : decode mX5_loudestYear.2.1 35 = .ok (.iload 4, 2) := by decide +kernel
theorem dX5_loudestYear_37 : decode mX5_loudestYear.2.1 37 = .ok (.invokevirtual 170, 3) := by decide +kernel
theorem dX5_loudestYear_40 : decode mX5_loudestYear.2.1 40 = .ok (.istore 5, 2) := by decide +kernel
theorem dX5_loudestYear_42 : decode mX5_loudestYear.2.1 42 = .ok (.iload 5, 2) := by decide +kernel
theorem dX5_loudestYear_44 : decode mX5_loudestYear.2.1 44 = .ok (.iload_n 2, 1) := by decide +kernel
theorem dX5_loudestYear_45 : decode mX5_loudestYear.2.1 45 = .ok (.if_icmp .gt 20, 3) := by decide +kernel
theorem dX5_loudestYear_48 : decode mX5_loudestYear.2.1 48 = .ok (.iload 5, 2) := by decide +kernel
theorem dX5_loudestYear_50 : decode mX5_loudestYear.2.1 50 = .ok (.iload_n 2, 1) := by decide +kernel
theorem dX5_loudestYear_51 : decode mX5_loudestYear.2.1 51 = .ok (.if_icmp .ne 20, 3) := by decide +kernel
theorem dX5_loudestYear_54 : decode mX5_loudestYear.2.1 54 = .ok (.iload 5, 2) := by decide +kernel
theorem dX5_loudestYear_56 : decode mX5_loudestYear.2.1 56 = .ok (.ifCond .le 15, 3) := by decide +kernel
theorem dX5_loudestYear_59 : decode mX5_loudestYear.2.1 59 = .ok (.iload 4, 2) := by decide +kernel
theorem dX5_loudestYear_61 : decode mX5_loudestYear.2.1 61 = .ok (.iload_n 1, 1) := by decide +kernel
theorem dX5_loudestYear_62 : decode mX5_loudestYear.2.1 62 = .ok (.if_icmp .ge 9, 3) := by decide +kernel
theorem dX5_loudestYear_65 : decode mX5_loudestYear.2.1 65 = .ok (.iload 4, 2) := by decide +kernel
theorem dX5_loudestYear_67 : decode mX5_loudestYear.2.1 67 = .ok (.istore_n 1, 1) := by decide +kernel
theorem dX5_loudestYear_68 : decode mX5_loudestYear.2.1 68 = .ok (.iload 5, 2) := by decide +kernel
theorem dX5_loudestYear_70 : decode mX5_loudestYear.2.1 70 = .ok (.istore_n 2, 1) := by decide +kernel
theorem dX5_loudestYear_71 : decode mX5_loudestYear.2.1 71 = .ok (.iinc 3 1, 3) := by decide +kernel
theorem dX5_loudestYear_74 : decode mX5_loudestYear.2.1 74 = .ok (.goto (-68), 3) := by decide +kernel
theorem dX5_loudestYear_77 : decode mX5_loudestYear.2.1 77 = .ok (.iload_n 1, 1) := by decide +kernel
theorem dX5_loudestYear_78 : decode mX5_loudestYear.2.1 78 = .ok (.ireturn, 1) := by decide +kernel
def fn_X5_loudestYear_b71 (n : Nat) (b : Nat) (σ : Sg) (k6 : Int32 → Int32 → Int32 → Option Int32) (v1 : Int32) (v2 : Int32) (v3 : Int32) : Option Int32 :=
  (k6 v1 v2 (v3 + 1))
set_option maxRecDepth 20000 in
set_option maxHeartbeats 4000000 in
theorem ev_X5_loudestYear_b71 (n : Nat) (b : Nat) (hb : ag_Y b) (σ : Sg) (k6 : Int32 → Int32 → Int32 → Option Int32) (hk6 : ∀ (v1 : Int32) (v2 : Int32) (v3 : Int32), Ev mX5_loudestYear 2 44 (jI σ) 6 [(0, .ref b), (1, .int v1), (2, .int v2), (3, .int v3)] [] σ (k6 v1 v2 v3)) (v1 : Int32) (v2 : Int32) (v3 : Int32) : Ev mX5_loudestYear 2 44 (jI σ) 71 [(0, .ref b), (1, .int v1), (2, .int v2), (3, .int v3)] [] σ (fn_X5_loudestYear_b71 n b σ k6 v1 v2 v3) := by
  unfold fn_X5_loudestYear_b71
  refine ev_iinc (pc := 71) (v := (v3 + 1)) (lv' := [(3, .int (v3 + 1)), (0, .ref b), (1, .int v1), (2, .int v2)]) 3 dX5_loudestYear_71 rfl rfl (Nat.le_of_ble_eq_true rfl) rfl ?_
  refine ev_goto (pc := 74) (tgt := 6) dX5_loudestYear_74 rfl ?_
  refine ev_sub [1, 2, 3, 0] rfl ?_
  exact hk6 v1 v2 (v3 + 1)
def fn_X5_loudestYear_b65 (n : Nat) (b : Nat) (σ : Sg) (k6 : Int32 → Int32 → Int32 → Option Int32) (v3 : Int32) (v4 : Int32) (v5 : Int32) : Option Int32 :=
  (fn_X5_loudestYear_b71 n b σ k6 v4 v5 v3)
set_option maxRecDepth 20000 in
set_option maxHeartbeats 4000000 in
theorem ev_X5_loudestYear_b65 (n : Nat) (b : Nat) (hb : ag_Y b) (σ : Sg) (k6 : Int32 → Int32 → Int32 → Option Int32) (hk6 : ∀ (v1 : Int32) (v2 : Int32) (v3 : Int32), Ev mX5_loudestYear 2 44 (jI σ) 6 [(0, .ref b), (1, .int v1), (2, .int v2), (3, .int v3)] [] σ (k6 v1 v2 v3)) (v3 : Int32) (v4 : Int32) (v5 : Int32) : Ev mX5_loudestYear 2 44 (jI σ) 65 [(0, .ref b), (3, .int v3), (4, .int v4), (5, .int v5)] [] σ (fn_X5_loudestYear_b65 n b σ k6 v3 v4 v5) := by
  unfold fn_X5_loudestYear_b65
  refine ev_iload (pc := 65) 2 dX5_loudestYear_65 rfl ?_
  refine ev_istore_n (pc := 67) (i := 1) (lv' := [(1, .int v4), (0, .ref b), (3, .int v3), (4, .int v4), (5, .int v5)]) dX5_loudestYear_67 rfl (Nat.le_of_ble_eq_true rfl) rfl ?_
  refine ev_iload (pc := 68) 4 dX5_loudestYear_68 rfl ?_
  refine ev_istore_n (pc := 70) (i := 2) (lv' := [(2, .int v5), (1, .int v4), (0, .ref b), (3, .int v3), (4, .int v4), (5, .int v5)]) dX5_loudestYear_70 rfl (Nat.le_of_ble_eq_true rfl) rfl ?_
  refine ev_sub [2, 1, 0, 3] rfl ?_
  exact ev_X5_loudestYear_b71 n b hb σ k6 hk6 v4 v5 v3
def fn_X5_loudestYear_b40 (n : Nat) (b : Nat) (σ : Sg) (k6 : Int32 → Int32 → Int32 → Option Int32) (v1 : Int32) (v2 : Int32) (v3 : Int32) (v4 : Int32) (s0 : Int32) : Option Int32 :=
  (if v2 < s0 then (fn_X5_loudestYear_b65 n b σ k6 v3 v4 s0)
  else (if s0 = v2 then (if s0 ≤ 0 then (fn_X5_loudestYear_b71 n b σ k6 v1 v2 v3)
  else (if v1 ≤ v4 then (fn_X5_loudestYear_b71 n b σ k6 v1 v2 v3)
  else (fn_X5_loudestYear_b65 n b σ k6 v3 v4 s0)))
  else (fn_X5_loudestYear_b71 n b σ k6 v1 v2 v3)))
set_option maxRecDepth 20000 in
set_option maxHeartbeats 4000000 in
theorem ev_X5_loudestYear_b40 (n : Nat) (b : Nat) (hb : ag_Y b) (σ : Sg) (k6 : Int32 → Int32 → Int32 → Option Int32) (hk6 : ∀ (v1 : Int32) (v2 : Int32) (v3 : Int32), Ev mX5_loudestYear 2 44 (jI σ) 6 [(0, .ref b), (1, .int v1), (2, .int v2), (3, .int v3)] [] σ (k6 v1 v2 v3)) (v1 : Int32) (v2 : Int32) (v3 : Int32) (v4 : Int32) (s0 : Int32) : Ev mX5_loudestYear 2 44 (jI σ) 40 [(0, .ref b), (1, .int v1), (2, .int v2), (3, .int v3), (4, .int v4)] [.int s0] σ (fn_X5_loudestYear_b40 n b σ k6 v1 v2 v3 v4 s0) := by
  unfold fn_X5_loudestYear_b40
  refine ev_istore (pc := 40) (lv' := [(5, .int s0), (0, .ref b), (1, .int v1), (2, .int v2), (3, .int v3), (4, .int v4)]) dX5_loudestYear_40 (Nat.le_of_ble_eq_true rfl) rfl ?_
  refine ev_iload (pc := 42) 0 dX5_loudestYear_42 rfl ?_
  refine ev_iload_n (pc := 44) (i := 2) 3 dX5_loudestYear_44 rfl rfl ?_
  refine ev_icmp_gt (pc := 45) (tgt := 65) dX5_loudestYear_45 rfl ?_ ?_
  · refine ev_sub [1, 4, 5, 0] rfl ?_
    exact ev_X5_loudestYear_b65 n b hb σ k6 hk6 v3 v4 s0
  · refine ev_iload (pc := 48) 0 dX5_loudestYear_48 rfl ?_
    refine ev_iload_n (pc := 50) (i := 2) 3 dX5_loudestYear_50 rfl rfl ?_
    refine ev_icmp_ne (pc := 51) (tgt := 71) dX5_loudestYear_51 rfl ?_ ?_
    · refine ev_iload (pc := 54) 0 dX5_loudestYear_54 rfl ?_
      refine ev_if_le (pc := 56) (tgt := 71) dX5_loudestYear_56 rfl ?_ ?_
      · refine ev_sub [1, 2, 3, 4] rfl ?_
        exact ev_X5_loudestYear_b71 n b hb σ k6 hk6 v1 v2 v3
      · refine ev_iload (pc := 59) 5 dX5_loudestYear_59 rfl ?_
        refine ev_iload_n (pc := 61) (i := 1) 2 dX5_loudestYear_61 rfl rfl ?_
        refine ev_icmp_ge (pc := 62) (tgt := 71) dX5_loudestYear_62 rfl ?_ ?_
        · refine ev_sub [1, 2, 3, 4] rfl ?_
          exact ev_X5_loudestYear_b71 n b hb σ k6 hk6 v1 v2 v3
        · refine ev_sub [1, 4, 5, 0] rfl ?_
          exact ev_X5_loudestYear_b65 n b hb σ k6 hk6 v3 v4 s0
    · refine ev_sub [1, 2, 3, 4] rfl ?_
      exact ev_X5_loudestYear_b71 n b hb σ k6 hk6 v1 v2 v3
def fn_X5_loudestYear_b6 (n : Nat) (b : Nat) (σ : Sg)  : Nat → Int32 → Int32 → Int32 → Option Int32
  | 0 => fun _ _ _ => none
  | i + 1 => fun v1 v2 v3 =>
  (if (σ (b + 7) 0) ≤ v3 then (some v1)
  else (Option.bind (fn_X5_openingYear b v3 σ) fun q32 =>
  (if q32 = (-1) then (fn_X5_loudestYear_b40 n b σ (fn_X5_loudestYear_b6 n b σ i) v1 v2 v3 q32 0)
  else (Option.bind (fn_X5_openedWithin n b q32 σ) fun q33 =>
  (fn_X5_loudestYear_b40 n b σ (fn_X5_loudestYear_b6 n b σ i) v1 v2 v3 q32 q33)))))
theorem fn_X5_loudestYear_b6_s (n : Nat) (b : Nat) (σ : Sg)  (i : Nat) (v1 : Int32) (v2 : Int32) (v3 : Int32) : fn_X5_loudestYear_b6 n b σ (i + 1) v1 v2 v3 =
  (if (σ (b + 7) 0) ≤ v3 then (some v1)
  else (Option.bind (fn_X5_openingYear b v3 σ) fun q32 =>
  (if q32 = (-1) then (fn_X5_loudestYear_b40 n b σ (fn_X5_loudestYear_b6 n b σ i) v1 v2 v3 q32 0)
  else (Option.bind (fn_X5_openedWithin n b q32 σ) fun q33 =>
  (fn_X5_loudestYear_b40 n b σ (fn_X5_loudestYear_b6 n b σ i) v1 v2 v3 q32 q33))))) := rfl
set_option maxRecDepth 20000 in
set_option maxHeartbeats 4000000 in
theorem ev_X5_loudestYear_b6 (n : Nat) (b : Nat) (hb : ag_Y b) (σ : Sg)  : ∀ (i : Nat) (v1 : Int32) (v2 : Int32) (v3 : Int32), Ev mX5_loudestYear 2 44 (jI σ) 6 [(0, .ref b), (1, .int v1), (2, .int v2), (3, .int v3)] [] σ (fn_X5_loudestYear_b6 n b σ i v1 v2 v3) := by
  intro i
  induction i with
  | zero =>
    intro v1 v2 v3
    exact ev_none
  | succ i ih =>
    intro v1 v2 v3
    rw [fn_X5_loudestYear_b6_s]
    refine ev_iload_n (pc := 6) (i := 3) 3 dX5_loudestYear_6 rfl rfl ?_
    refine ev_aload_n (pc := 7) (i := 0) 0 dX5_loudestYear_7 rfl rfl ?_
    refine ev_getR (pc := 8) (t := (b + 7)) 1 ag_C5 (ag_Yk hb).1 (ag_Yk hb).2 (Nat.le_of_ble_eq_true rfl) (ag_Yt1 hb) rfl ag_fl_X5_21 dX5_loudestYear_8 ?_
    refine ev_getI (pc := 11) 0 ag_C2 (ag_Pk (ag_YP hb)).1 (ag_Pk (ag_YP hb)).2 (Nat.le_of_ble_eq_true rfl) (ag_Pt0 (ag_YP hb)) rfl ag_fl_X5_78 dX5_loudestYear_11 ?_
    refine ev_icmp_ge (pc := 14) (tgt := 77) dX5_loudestYear_14 rfl ?_ ?_
    · refine ev_iload_n (pc := 77) (i := 1) 1 dX5_loudestYear_77 rfl rfl ?_
      exact ev_iret (ty := .int) (fun r h => by cases h; rfl) rfl rfl dX5_loudestYear_78
    · refine ev_aload_n (pc := 17) (i := 0) 0 dX5_loudestYear_17 rfl rfl ?_
      refine ev_iload_n (pc := 18) (i := 3) 3 dX5_loudestYear_18 rfl rfl ?_
      refine ev_vI (pc := 19) (as := [.int v3]) (rest := []) ⟨5, 167, 10, TX5, tyX5, ag_C5, ⟨(ag_Yk hb).1, (ag_Yk hb).2⟩, mv_X5_openingYear, ag_ml_X5_167, rfl, (Nat.le_of_ble_eq_true rfl), ⟨(Nat.le_of_ble_eq_true rfl), (Nat.le_of_ble_eq_true rfl)⟩, dX5_loudestYear_19⟩ (im_X5_openingYear b hb v3 σ) (fun q32 => ?_)
      refine ev_istore (pc := 22) (lv' := [(4, .int q32), (0, .ref b), (1, .int v1), (2, .int v2), (3, .int v3)]) dX5_loudestYear_22 (Nat.le_of_ble_eq_true rfl) rfl ?_
      refine ev_iload (pc := 24) 0 dX5_loudestYear_24 rfl ?_
      refine ev_iconst (pc := 26) (v := (-1)) dX5_loudestYear_26 (by decide) ?_
      refine ev_icmp_ne (pc := 27) (tgt := 34) dX5_loudestYear_27 rfl ?_ ?_
      · refine ev_iconst (pc := 30) (v := 0) dX5_loudestYear_30 (by decide) ?_
        refine ev_goto (pc := 31) (tgt := 40) dX5_loudestYear_31 rfl ?_
        refine ev_sub [1, 2, 3, 4, 0] rfl ?_
        exact ev_X5_loudestYear_b40 n b hb σ (fn_X5_loudestYear_b6 n b σ i) ih v1 v2 v3 q32 0
      · refine ev_aload_n (pc := 34) (i := 0) 1 dX5_loudestYear_34 rfl rfl ?_
        refine ev_iload (pc := 35) 0 dX5_loudestYear_35 rfl ?_
        refine ev_vI (pc := 37) (as := [.int q32]) (rest := []) ⟨5, 170, 10, TX5, tyX5, ag_C5, ⟨(ag_Yk hb).1, (ag_Yk hb).2⟩, mv_X5_openedWithin, ag_ml_X5_170, rfl, (Nat.le_of_ble_eq_true rfl), ⟨(Nat.le_of_ble_eq_true rfl), (Nat.le_of_ble_eq_true rfl)⟩, dX5_loudestYear_37⟩ (im_X5_openedWithin n b hb q32 σ) (fun q33 => ?_)
        refine ev_sub [1, 2, 3, 4, 0] rfl ?_
        exact ev_X5_loudestYear_b40 n b hb σ (fn_X5_loudestYear_b6 n b σ i) ih v1 v2 v3 q32 q33
def fn_X5_loudestYear (n : Nat) (b : Nat) (σ : Sg) : Option Int32 :=
  (fn_X5_loudestYear_b6 n b σ n (-1) 0 0)
set_option maxRecDepth 20000 in
set_option maxHeartbeats 4000000 in
theorem im_X5_loudestYear (n : Nat) (b : Nat) (hb : ag_Y b) (σ : Sg) : Im yX5_loudestYear mX5_loudestYear 2 44 (jI σ) [.ref b] σ (fn_X5_loudestYear n b σ) := by
  refine Im.of (by decide +kernel) rfl (Nat.le_of_ble_eq_true rfl) ?_
  show Ev mX5_loudestYear 2 44 (jI σ) 0 [(0, .ref b)] [] σ (fn_X5_loudestYear n b σ)
  unfold fn_X5_loudestYear
  refine ev_iconst (pc := 0) (v := (-1)) dX5_loudestYear_0 (by decide) ?_
  refine ev_istore_n (pc := 1) (i := 1) (lv' := [(1, .int (-1)), (0, .ref b)]) dX5_loudestYear_1 rfl (Nat.le_of_ble_eq_true rfl) rfl ?_
  refine ev_iconst (pc := 2) (v := 0) dX5_loudestYear_2 (by decide) ?_
  refine ev_istore_n (pc := 3) (i := 2) (lv' := [(2, .int 0), (1, .int (-1)), (0, .ref b)]) dX5_loudestYear_3 rfl (Nat.le_of_ble_eq_true rfl) rfl ?_
  refine ev_iconst (pc := 4) (v := 0) dX5_loudestYear_4 (by decide) ?_
  refine ev_istore_n (pc := 5) (i := 3) (lv' := [(3, .int 0), (2, .int 0), (1, .int (-1)), (0, .ref b)]) dX5_loudestYear_5 rfl (Nat.le_of_ble_eq_true rfl) rfl ?_
  refine ev_sub [3, 2, 1, 0] rfl ?_
  exact ev_X5_loudestYear_b6 n b hb σ n (-1) 0 0
end
